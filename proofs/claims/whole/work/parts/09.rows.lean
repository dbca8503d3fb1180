/-! Rows over families of cells (the shelves, the piles), and writes that name what is new. -/
def zT (ca : Nat → ClassId) : List (ClassId × FieldType) := [(ca 0, .int), (ca 1, .boolean), (ca 2, .char), (ca 3, .object RX7), (ca 4, .array .int), (ca 5, .long)]
/-- eight shelves and their rows -/
def cSh (ca : Nat → ClassId) (ad : Nat → Nat) (ho ki fi so si : Nat → Int32) (el : Nat → Nat → Int32) : va_W := [(ad 0, .inr (4, [.int (ho 0), .int (ki 0), .int (fi 0), .int (so 0), .int (si 0), .ref (ad 1)])), (ad 1, .inl (ca 0, 100, .inl (el 0))), (ad 2, .inr (4, [.int (ho 1), .int (ki 1), .int (fi 1), .int (so 1), .int (si 1), .ref (ad 3)])), (ad 3, .inl (ca 0, 100, .inl (el 1))), (ad 4, .inr (4, [.int (ho 2), .int (ki 2), .int (fi 2), .int (so 2), .int (si 2), .ref (ad 5)])), (ad 5, .inl (ca 0, 100, .inl (el 2))), (ad 6, .inr (4, [.int (ho 3), .int (ki 3), .int (fi 3), .int (so 3), .int (si 3), .ref (ad 7)])), (ad 7, .inl (ca 0, 100, .inl (el 3))), (ad 8, .inr (4, [.int (ho 4), .int (ki 4), .int (fi 4), .int (so 4), .int (si 4), .ref (ad 9)])), (ad 9, .inl (ca 0, 100, .inl (el 4))), (ad 10, .inr (4, [.int (ho 5), .int (ki 5), .int (fi 5), .int (so 5), .int (si 5), .ref (ad 11)])), (ad 11, .inl (ca 0, 100, .inl (el 5))), (ad 12, .inr (4, [.int (ho 6), .int (ki 6), .int (fi 6), .int (so 6), .int (si 6), .ref (ad 13)])), (ad 13, .inl (ca 0, 100, .inl (el 6))), (ad 14, .inr (4, [.int (ho 7), .int (ki 7), .int (fi 7), .int (so 7), .int (si 7), .ref (ad 15)])), (ad 15, .inl (ca 0, 100, .inl (el 7)))]
theorem zsh_at {ca : Nat → ClassId} {ad : Nat → Nat} {ho ki fi so si : Nat → Int32} {el : Nat → Nat → Int32} {rest : va_W} (r : Nat) (hr : r < 8) : (cSh ca ad ho ki fi so si el ++ rest)[2 * r]? = some (ad (2 * r), .inr (4, [.int (ho r), .int (ki r), .int (fi r), .int (so r), .int (si r), .ref (ad (2 * r + 1))])) := match r, hr with
  | 0, _ => rfl
  | 1, _ => rfl
  | 2, _ => rfl
  | 3, _ => rfl
  | 4, _ => rfl
  | 5, _ => rfl
  | 6, _ => rfl
  | 7, _ => rfl
  | n + 8, h => absurd h (by omega)
theorem zsh_el {ca : Nat → ClassId} {ad : Nat → Nat} {ho ki fi so si : Nat → Int32} {el : Nat → Nat → Int32} {rest : va_W} (r : Nat) (hr : r < 8) : (cSh ca ad ho ki fi so si el ++ rest)[2 * r + 1]? = some (ad (2 * r + 1), .inl (ca 0, 100, .inl (el r))) := match r, hr with
  | 0, _ => rfl
  | 1, _ => rfl
  | 2, _ => rfl
  | 3, _ => rfl
  | 4, _ => rfl
  | 5, _ => rfl
  | 6, _ => rfl
  | 7, _ => rfl
  | n + 8, h => absurd h (by omega)
theorem zsp0 {ca : Nat → ClassId} {ad : Nat → Nat} {ho ki fi so si : Nat → Int32} {el : Nat → Nat → Int32} {rest : va_W} {v : Int32} (r : Nat) (hr : r < 8) : (cSh ca ad ho ki fi so si el ++ rest).set (2 * r) (ad (2 * r), .inr (4, [.int v, .int (ki r), .int (fi r), .int (so r), .int (si r), .ref (ad (2 * r + 1))])) = cSh ca ad (va_up ho r v) ki fi so si el ++ rest := match r, hr with
  | 0, _ => rfl
  | 1, _ => rfl
  | 2, _ => rfl
  | 3, _ => rfl
  | 4, _ => rfl
  | 5, _ => rfl
  | 6, _ => rfl
  | 7, _ => rfl
  | n + 8, h => absurd h (by omega)
theorem zsp1 {ca : Nat → ClassId} {ad : Nat → Nat} {ho ki fi so si : Nat → Int32} {el : Nat → Nat → Int32} {rest : va_W} {v : Int32} (r : Nat) (hr : r < 8) : (cSh ca ad ho ki fi so si el ++ rest).set (2 * r) (ad (2 * r), .inr (4, [.int (ho r), .int v, .int (fi r), .int (so r), .int (si r), .ref (ad (2 * r + 1))])) = cSh ca ad ho (va_up ki r v) fi so si el ++ rest := match r, hr with
  | 0, _ => rfl
  | 1, _ => rfl
  | 2, _ => rfl
  | 3, _ => rfl
  | 4, _ => rfl
  | 5, _ => rfl
  | 6, _ => rfl
  | 7, _ => rfl
  | n + 8, h => absurd h (by omega)
theorem zsp2 {ca : Nat → ClassId} {ad : Nat → Nat} {ho ki fi so si : Nat → Int32} {el : Nat → Nat → Int32} {rest : va_W} {v : Int32} (r : Nat) (hr : r < 8) : (cSh ca ad ho ki fi so si el ++ rest).set (2 * r) (ad (2 * r), .inr (4, [.int (ho r), .int (ki r), .int v, .int (so r), .int (si r), .ref (ad (2 * r + 1))])) = cSh ca ad ho ki (va_up fi r v) so si el ++ rest := match r, hr with
  | 0, _ => rfl
  | 1, _ => rfl
  | 2, _ => rfl
  | 3, _ => rfl
  | 4, _ => rfl
  | 5, _ => rfl
  | 6, _ => rfl
  | 7, _ => rfl
  | n + 8, h => absurd h (by omega)
theorem zsp3 {ca : Nat → ClassId} {ad : Nat → Nat} {ho ki fi so si : Nat → Int32} {el : Nat → Nat → Int32} {rest : va_W} {v : Int32} (r : Nat) (hr : r < 8) : (cSh ca ad ho ki fi so si el ++ rest).set (2 * r) (ad (2 * r), .inr (4, [.int (ho r), .int (ki r), .int (fi r), .int v, .int (si r), .ref (ad (2 * r + 1))])) = cSh ca ad ho ki fi (va_up so r v) si el ++ rest := match r, hr with
  | 0, _ => rfl
  | 1, _ => rfl
  | 2, _ => rfl
  | 3, _ => rfl
  | 4, _ => rfl
  | 5, _ => rfl
  | 6, _ => rfl
  | 7, _ => rfl
  | n + 8, h => absurd h (by omega)
theorem zsp4 {ca : Nat → ClassId} {ad : Nat → Nat} {ho ki fi so si : Nat → Int32} {el : Nat → Nat → Int32} {rest : va_W} {v : Int32} (r : Nat) (hr : r < 8) : (cSh ca ad ho ki fi so si el ++ rest).set (2 * r) (ad (2 * r), .inr (4, [.int (ho r), .int (ki r), .int (fi r), .int (so r), .int v, .ref (ad (2 * r + 1))])) = cSh ca ad ho ki fi so (va_up si r v) el ++ rest := match r, hr with
  | 0, _ => rfl
  | 1, _ => rfl
  | 2, _ => rfl
  | 3, _ => rfl
  | 4, _ => rfl
  | 5, _ => rfl
  | 6, _ => rfl
  | 7, _ => rfl
  | n + 8, h => absurd h (by omega)
theorem zspe {ca : Nat → ClassId} {ad : Nat → Nat} {ho ki fi so si : Nat → Int32} {el : Nat → Nat → Int32} {rest : va_W} {g : Nat → Int32} (r : Nat) (hr : r < 8) : (cSh ca ad ho ki fi so si el ++ rest).set (2 * r + 1) (ad (2 * r + 1), .inl (ca 0, 100, .inl g)) = cSh ca ad ho ki fi so si (va_up el r g) ++ rest := match r, hr with
  | 0, _ => rfl
  | 1, _ => rfl
  | 2, _ => rfl
  | 3, _ => rfl
  | 4, _ => rfl
  | 5, _ => rfl
  | 6, _ => rfl
  | 7, _ => rfl
  | n + 8, h => absurd h (by omega)
theorem va_Pe {D : va_G} {cl : List vw_C} {ws ws' : va_W} {H : Heap} (h : va_P D cl ws H) (e : ws = ws') : va_P D cl ws' H := by rw [← e]; exact h
theorem va_De {A : Nat → Prop} {ws ws' : va_W} (h : va_D A ws) (e : ws = ws') : va_D A ws' := by rw [← e]; exact h
theorem zin_lt {i : Int32} {n : Nat} (h : vp_in i n) : i.toNatClampNeg < n := Nat.not_le.mp fun q => h (Or.inr q)
section
variable {p : Program} {l : Launch} {e : Env} {R : Room} {s : State} {m : MethodId} {args : Array Value} {below : List Frame} {meth : Method} {c : Code} {H : Heap} {locs : List Loc} {Q : State → Prop}
  {cc : ByteArray} {pc : Nat} {ls : Array Slot} {rest : List Value} {D : va_G} {tys : List (ClassId × FieldType)} {ws : va_W} {A : Nat → Prop} {a : Nat} {β : Type} {o : β}
theorem z_iast (hx : p.tables.exec = Jvm.exec) (hb : c.code = cc) (hK : va_K D vwCl tys s) (hP : va_P D vwCl ws H) (hD : va_D A ws) (hS : va_S A s.heap H locs) (q0 t0 : Nat) {cA : ClassId} {n : Nat} {f : Nat → Int32} (ha : ws[q0]? = some (a, .inl (cA, n, .inl f))) (ht : tys[t0]? = some (cA, .int)) {i : Int32} {x : Int32} (hin : vp_in i n) (hdg : decode cc pc = .ok (.iastore, 1))
    (wf : (Nat → Int32) → va_W) (hw : ∀ g, ws.set q0 (a, .inl (cA, n, .inl g)) = wf g) {K : (Nat → Int32) → Option β} (hF : zlet (upd f i.toNatClampNeg x) K = some o)
    (kk : ∀ (g : Nat → Int32) (H1 : Heap) (locs1 : List Loc), K g = some o → va_P D vwCl (wf g) H1 → va_D A (wf g) → va_S A s.heap H1 locs1 → W p l e R s m args below meth c H1 locs1 0 0 Q (F0 m (pc + 1) ls rest)) : W p l e R s m args below meth c H locs 0 0 Q (F0 m pc ls (.int x :: .int i :: .ref a :: rest)) :=
  va_iast hx hb hK hP hD hS q0 t0 ha ht hin hdg (fun H1 locs1 h1 h2 h3 => kk _ H1 locs1 hF (va_Pe h1 (hw _)) (va_De h2 (hw _)) h3)
theorem z_zast (hx : p.tables.exec = Jvm.exec) (hb : c.code = cc) (hK : va_K D vwCl tys s) (hP : va_P D vwCl ws H) (hD : va_D A ws) (hS : va_S A s.heap H locs) (q0 t0 : Nat) {cA : ClassId} {n : Nat} {f : Nat → Int32} (ha : ws[q0]? = some (a, .inl (cA, n, .inl f))) (ht : tys[t0]? = some (cA, .boolean)) {i : Int32} {x : Int32} (hin : vp_in i n) (hdg : decode cc pc = .ok (.bastore, 1))
    (wf : (Nat → Int32) → va_W) (hw : ∀ g, ws.set q0 (a, .inl (cA, n, .inl g)) = wf g) {K : (Nat → Int32) → Option β} (hF : zlet (upd f i.toNatClampNeg (vp_nar .boolean x)) K = some o)
    (kk : ∀ (g : Nat → Int32) (H1 : Heap) (locs1 : List Loc), K g = some o → va_P D vwCl (wf g) H1 → va_D A (wf g) → va_S A s.heap H1 locs1 → W p l e R s m args below meth c H1 locs1 0 0 Q (F0 m (pc + 1) ls rest)) : W p l e R s m args below meth c H locs 0 0 Q (F0 m pc ls (.int x :: .int i :: .ref a :: rest)) :=
  va_zast hx hb hK hP hD hS q0 t0 ha ht hin hdg (fun H1 locs1 h1 h2 h3 => kk _ H1 locs1 hF (va_Pe h1 (hw _)) (va_De h2 (hw _)) h3)
/-- the outer row of int[][] -/
theorem z_aald (hx : p.tables.exec = Jvm.exec) (hb : c.code = cc) (hK : va_K D vwCl tys s) (hP : va_P D vwCl ws H) (q0 t0 : Nat) {cA : ClassId} {ty : FieldType} {n : Nat} {f : Nat → Nat} (ha : ws[q0]? = some (a, .inl (cA, n, .inr (.inr (.inr (.inr (fun k => some (f k)))))))) (ht : tys[t0]? = some (cA, ty)) (hty : ty.isReference = true) {i : Int32} (hin : vp_in i n) (hdg : decode cc pc = .ok (.aaload, 1))
    (kk : W p l e R s m args below meth c H locs 0 0 Q (F0 m (pc + 1) ls (.ref (f i.toNatClampNeg) :: rest))) : W p l e R s m args below meth c H locs 0 0 Q (F0 m pc ls (.int i :: .ref a :: rest)) := by
  have hlt : i.toNatClampNeg < n := zin_lt hin
  exact W.aald (v := .ref (f i.toNatClampNeg)) (ty := ty) hx hb (hP q0 _ ha) ((hK.2 t0 _ ht).1 n (fun j => va_rf (some (f j)))) hty (fun q => by cases q) (by show ¬ (i < 0 ∨ (arrV _ _ _).slots.size ≤ _); rw [arrV_size]; exact hin) (by show (arrV _ _ _).slots[_]? = _; rw [arrV_read _ _ hlt]; rfl) rfl rfl hdg kk
/-- reading a row of the piles -/
theorem z_rald (hx : p.tables.exec = Jvm.exec) (hb : c.code = cc) (hK : va_K D vwCl tys s) (hP : va_P D vwCl ws H) (q0 t0 : Nat) {cA : ClassId} {n : Nat} {ad : Nat → Nat} {f : Nat → Nat → Int32} (h0 : ws[q0]? = some (ad 2, .inl (cA, n, .inl (f 0)))) (h1 : ws[q0 + 1]? = some (ad 3, .inl (cA, n, .inl (f 1)))) (h2 : ws[q0 + 2]? = some (ad 4, .inl (cA, n, .inl (f 2)))) (ht : tys[t0]? = some (cA, .int)) {r : Nat} (hr : r < 3) {i : Int32} (hin : vp_in i n) (hdg : decode cc pc = .ok (.iaload, 1))
    (kk : W p l e R s m args below meth c H locs 0 0 Q (F0 m (pc + 1) ls (.int (f r i.toNatClampNeg) :: rest))) : W p l e R s m args below meth c H locs 0 0 Q (F0 m pc ls (.int i :: .ref (ad (r + 2)) :: rest)) :=
  match r, hr, kk with
  | 0, _, kk => va_iald hx hb hK hP q0 t0 h0 ht hin hdg kk
  | 1, _, kk => va_iald hx hb hK hP (q0 + 1) t0 h1 ht hin hdg kk
  | 2, _, kk => va_iald hx hb hK hP (q0 + 2) t0 h2 ht hin hdg kk
  | n + 3, h, _ => absurd h (by omega)
/-- writing a row of the piles -/
theorem z_rast (hx : p.tables.exec = Jvm.exec) (hb : c.code = cc) (hK : va_K D vwCl tys s) (hP : va_P D vwCl ws H) (hD : va_D A ws) (hS : va_S A s.heap H locs) (q0 t0 : Nat) {cA : ClassId} {n : Nat} {ad : Nat → Nat} {f : Nat → Nat → Int32} (h0 : ws[q0]? = some (ad 2, .inl (cA, n, .inl (f 0)))) (h1 : ws[q0 + 1]? = some (ad 3, .inl (cA, n, .inl (f 1)))) (h2 : ws[q0 + 2]? = some (ad 4, .inl (cA, n, .inl (f 2)))) (ht : tys[t0]? = some (cA, .int)) {r : Nat} (hr : r < 3) {i : Int32} {x : Int32} (hin : vp_in i n) (hdg : decode cc pc = .ok (.iastore, 1))
    (wf : (Nat → Nat → Int32) → va_W) (hw0 : ∀ g, ws.set q0 (ad 2, .inl (cA, n, .inl g)) = wf (va_up f 0 g)) (hw1 : ∀ g, ws.set (q0 + 1) (ad 3, .inl (cA, n, .inl g)) = wf (va_up f 1 g)) (hw2 : ∀ g, ws.set (q0 + 2) (ad 4, .inl (cA, n, .inl g)) = wf (va_up f 2 g)) {K : (Nat → Nat → Int32) → Option β} (hF : zlet (va_up f r (upd (f r) i.toNatClampNeg x)) K = some o)
    (kk : ∀ (g : Nat → Nat → Int32) (H1 : Heap) (locs1 : List Loc), K g = some o → va_P D vwCl (wf g) H1 → va_D A (wf g) → va_S A s.heap H1 locs1 → W p l e R s m args below meth c H1 locs1 0 0 Q (F0 m (pc + 1) ls rest)) : W p l e R s m args below meth c H locs 0 0 Q (F0 m pc ls (.int x :: .int i :: .ref (ad (r + 2)) :: rest)) :=
  match r, hr, hF with
  | 0, _, hF => va_iast hx hb hK hP hD hS q0 t0 h0 ht hin hdg (fun H1 locs1 g1 g2 g3 => kk _ H1 locs1 hF (va_Pe g1 (hw0 _)) (va_De g2 (hw0 _)) g3)
  | 1, _, hF => va_iast hx hb hK hP hD hS (q0 + 1) t0 h1 ht hin hdg (fun H1 locs1 g1 g2 g3 => kk _ H1 locs1 hF (va_Pe g1 (hw1 _)) (va_De g2 (hw1 _)) g3)
  | 2, _, hF => va_iast hx hb hK hP hD hS (q0 + 2) t0 h2 ht hin hdg (fun H1 locs1 g1 g2 g3 => kk _ H1 locs1 hF (va_Pe g1 (hw2 _)) (va_De g2 (hw2 _)) g3)
  | n + 3, h, _ => absurd h (by omega)
theorem z_iinc (hx : p.tables.exec = Jvm.exec) (hb : c.code = cc) {i nL : Nat} (k : Nat) {n : Int} {x kv : Int32} {lv : List (Nat × Value)} (hdg : decode cc pc = .ok (.iinc i n, 3)) (h : lv_has ls nL lv) (hk : lv[k]? = some (i, .int x)) (hv : Int32.ofInt n = kv) (hn : i < nL) (lv' : Int32 → List (Nat × Value)) (hl : ∀ v, (i, Value.int v) :: lv.filter (fun q => !(q.1 == i) && !(q.1 + 1 == i && q.2.category == 2)) = lv' v)
    {K : Int32 → Option β} (hF : zlet (x + kv) K = some o) (kk : ∀ (v : Int32) (ls1 : Array Slot), K v = some o → lv_has ls1 nL (lv' v) → W p l e R s m args below meth c H locs 0 0 Q (F0 m (pc + 3) ls1 rest)) : W p l e R s m args below meth c H locs 0 0 Q (F0 m pc ls rest) :=
  lv_iinc (v := x + kv) (lv' := lv' (x + kv)) hx hb hdg h hk (by rw [hv]) hn (hl _) (fun ls1 h1 => kk _ ls1 hF h1)
end
