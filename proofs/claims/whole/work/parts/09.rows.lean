/-! Rows over families of cells (the shelves, the piles), and writes that name what is new. -/
def zT (ca : Nat → ClassId) : List (ClassId × FieldType) := [(ca 0, .int), (ca 1, .boolean), (ca 2, .char), (ca 3, .object RX7), (ca 4, .array .int), (ca 5, .long)]
/-- eight shelves and their rows -/
def cSh (ca : Nat → ClassId) (ad : Nat → Nat) (ho ki fi so si : Nat → Int32) (el : Nat → Nat → Int32) : va_W := [(ad 0, .inr (4, [.int (ho 0), .int (ki 0), .int (fi 0), .int (so 0), .int (si 0), .ref (ad 1)])), (ad 1, .inl (ca 0, 100, .inl (el 0))), (ad 2, .inr (4, [.int (ho 1), .int (ki 1), .int (fi 1), .int (so 1), .int (si 1), .ref (ad 3)])), (ad 3, .inl (ca 0, 100, .inl (el 1))), (ad 4, .inr (4, [.int (ho 2), .int (ki 2), .int (fi 2), .int (so 2), .int (si 2), .ref (ad 5)])), (ad 5, .inl (ca 0, 100, .inl (el 2))), (ad 6, .inr (4, [.int (ho 3), .int (ki 3), .int (fi 3), .int (so 3), .int (si 3), .ref (ad 7)])), (ad 7, .inl (ca 0, 100, .inl (el 3))), (ad 8, .inr (4, [.int (ho 4), .int (ki 4), .int (fi 4), .int (so 4), .int (si 4), .ref (ad 9)])), (ad 9, .inl (ca 0, 100, .inl (el 4))), (ad 10, .inr (4, [.int (ho 5), .int (ki 5), .int (fi 5), .int (so 5), .int (si 5), .ref (ad 11)])), (ad 11, .inl (ca 0, 100, .inl (el 5))), (ad 12, .inr (4, [.int (ho 6), .int (ki 6), .int (fi 6), .int (so 6), .int (si 6), .ref (ad 13)])), (ad 13, .inl (ca 0, 100, .inl (el 6))), (ad 14, .inr (4, [.int (ho 7), .int (ki 7), .int (fi 7), .int (so 7), .int (si 7), .ref (ad 15)])), (ad 15, .inl (ca 0, 100, .inl (el 7)))]
theorem zsh_at {ca : Nat → ClassId} {ad : Nat → Nat} {ho ki fi so si : Nat → Int32} {el : Nat → Nat → Int32} {rest : va_W} (r : Nat) (hr : r < 8) : (cSh ca ad ho ki fi so si el ++ rest)[2 * r]? = some (ad (2 * r), .inr (4, [.int (ho r), .int (ki r), .int (fi r), .int (so r), .int (si r), .ref (ad (2 * r + 1))])) := match r, hr with
  | 0, _ => rfl
  | 1, _ => rfl
  | 2, _ => rfl
  | 3, _ => rfl
  | 4, _ => rfl
  | 5, _ => rfl
  | 6, _ => rfl
  | 7, _ => rfl
  | n + 8, h => absurd h (by omega)
theorem zsh_el {ca : Nat → ClassId} {ad : Nat → Nat} {ho ki fi so si : Nat → Int32} {el : Nat → Nat → Int32} {rest : va_W} (r : Nat) (hr : r < 8) : (cSh ca ad ho ki fi so si el ++ rest)[2 * r + 1]? = some (ad (2 * r + 1), .inl (ca 0, 100, .inl (el r))) := match r, hr with
  | 0, _ => rfl
  | 1, _ => rfl
  | 2, _ => rfl
  | 3, _ => rfl
  | 4, _ => rfl
  | 5, _ => rfl
  | 6, _ => rfl
  | 7, _ => rfl
  | n + 8, h => absurd h (by omega)
theorem zsp0 {ca : Nat → ClassId} {ad : Nat → Nat} {ho ki fi so si : Nat → Int32} {el : Nat → Nat → Int32} {rest : va_W} {v : Int32} (r : Nat) (hr : r < 8) : (cSh ca ad ho ki fi so si el ++ rest).set (2 * r) (ad (2 * r), .inr (4, [.int v, .int (ki r), .int (fi r), .int (so r), .int (si r), .ref (ad (2 * r + 1))])) = cSh ca ad (va_up ho r v) ki fi so si el ++ rest := match r, hr with
  | 0, _ => rfl
  | 1, _ => rfl
  | 2, _ => rfl
  | 3, _ => rfl
  | 4, _ => rfl
  | 5, _ => rfl
  | 6, _ => rfl
  | 7, _ => rfl
  | n + 8, h => absurd h (by omega)
theorem zsp1 {ca : Nat → ClassId} {ad : Nat → Nat} {ho ki fi so si : Nat → Int32} {el : Nat → Nat → Int32} {rest : va_W} {v : Int32} (r : Nat) (hr : r < 8) : (cSh ca ad ho ki fi so si el ++ rest).set (2 * r) (ad (2 * r), .inr (4, [.int (ho r), .int v, .int (fi r), .int (so r), .int (si r), .ref (ad (2 * r + 1))])) = cSh ca ad ho (va_up ki r v) fi so si el ++ rest := match r, hr with
  | 0, _ => rfl
  | 1, _ => rfl
  | 2, _ => rfl
  | 3, _ => rfl
  | 4, _ => rfl
  | 5, _ => rfl
  | 6, _ => rfl
  | 7, _ => rfl
  | n + 8, h => absurd h (by omega)
theorem zsp2 {ca : Nat → ClassId} {ad : Nat → Nat} {ho ki fi so si : Nat → Int32} {el : Nat → Nat → Int32} {rest : va_W} {v : Int32} (r : Nat) (hr : r < 8) : (cSh ca ad ho ki fi so si el ++ rest).set (2 * r) (ad (2 * r), .inr (4, [.int (ho r), .int (ki r), .int v, .int (so r), .int (si r), .ref (ad (2 * r + 1))])) = cSh ca ad ho ki (va_up fi r v) so si el ++ rest := match r, hr with
  | 0, _ => rfl
  | 1, _ => rfl
  | 2, _ => rfl
  | 3, _ => rfl
  | 4, _ => rfl
  | 5, _ => rfl
  | 6, _ => rfl
  | 7, _ => rfl
  | n + 8, h => absurd h (by omega)
theorem zsp3 {ca : Nat → ClassId} {ad : Nat → Nat} {ho ki fi so si : Nat → Int32} {el : Nat → Nat → Int32} {rest : va_W} {v : Int32} (r : Nat) (hr : r < 8) : (cSh ca ad ho ki fi so si el ++ rest).set (2 * r) (ad (2 * r), .inr (4, [.int (ho r), .int (ki r), .int (fi r), .int v, .int (si r), .ref (ad (2 * r + 1))])) = cSh ca ad ho ki fi (va_up so r v) si el ++ rest := match r, hr with
  | 0, _ => rfl
  | 1, _ => rfl
  | 2, _ => rfl
  | 3, _ => rfl
  | 4, _ => rfl
  | 5, _ => rfl
  | 6, _ => rfl
  | 7, _ => rfl
  | n + 8, h => absurd h (by omega)
theorem zsp4 {ca : Nat → ClassId} {ad : Nat → Nat} {ho ki fi so si : Nat → Int32} {el : Nat → Nat → Int32} {rest : va_W} {v : Int32} (r : Nat) (hr : r < 8) : (cSh ca ad ho ki fi so si el ++ rest).set (2 * r) (ad (2 * r), .inr (4, [.int (ho r), .int (ki r), .int (fi r), .int (so r), .int v, .ref (ad (2 * r + 1))])) = cSh ca ad ho ki fi so (va_up si r v) el ++ rest := match r, hr with
  | 0, _ => rfl
  | 1, _ => rfl
  | 2, _ => rfl
  | 3, _ => rfl
  | 4, _ => rfl
  | 5, _ => rfl
  | 6, _ => rfl
  | 7, _ => rfl
  | n + 8, h => absurd h (by omega)
theorem zspe {ca : Nat → ClassId} {ad : Nat → Nat} {ho ki fi so si : Nat → Int32} {el : Nat → Nat → Int32} {rest : va_W} {g : Nat → Int32} (r : Nat) (hr : r < 8) : (cSh ca ad ho ki fi so si el ++ rest).set (2 * r + 1) (ad (2 * r + 1), .inl (ca 0, 100, .inl g)) = cSh ca ad ho ki fi so si (va_up el r g) ++ rest := match r, hr with
  | 0, _ => rfl
  | 1, _ => rfl
  | 2, _ => rfl
  | 3, _ => rfl
  | 4, _ => rfl
  | 5, _ => rfl
  | 6, _ => rfl
  | 7, _ => rfl
  | n + 8, h => absurd h (by omega)
theorem va_Pe {D : va_G} {cl : List vw_C} {ws ws' : va_W} {H : Heap} (h : va_P D cl ws H) (e : ws = ws') : va_P D cl ws' H := by rw [← e]; exact h
theorem va_De {A : Nat → Prop} {ws ws' : va_W} (h : va_D A ws) (e : ws = ws') : va_D A ws' := by rw [← e]; exact h
theorem zin_lt {i : Int32} {n : Nat} (h : vp_in i n) : i.toNatClampNeg < n := Nat.not_le.mp fun q => h (Or.inr q)
section
variable {p : Program} {l : Launch} {e : Env} {R : Room} {s : State} {m : MethodId} {args : Array Value} {below : List Frame} {meth : Method} {c : Code} {H : Heap} {locs : List Loc} {Q : State → Prop}
  {cc : ByteArray} {pc : Nat} {ls : Array Slot} {rest : List Value} {D : va_G} {tys : List (ClassId × FieldType)} {ws : va_W} {A : Nat → Prop} {a : Nat} {β : Type} {o : β}
theorem z_iast (hx : p.tables.exec = Jvm.exec) (hb : c.code = cc) (hK : va_K D vwCl tys s) (hP : va_P D vwCl ws H) (hD : va_D A ws) (hS : va_S A s.heap H locs) (q0 t0 : Nat) {cA : ClassId} {n : Nat} {f : Nat → Int32} (ha : ws[q0]? = some (a, .inl (cA, n, .inl f))) (ht : tys[t0]? = some (cA, .int)) {i : Int32} {x : Int32} (hin : vp_in i n) (hdg : decode cc pc = .ok (.iastore, 1))
    (wf : (Nat → Int32) → va_W) (hw : ∀ g, ws.set q0 (a, .inl (cA, n, .inl g)) = wf g) {K : (Nat → Int32) → Option β} (hF : zlet (upd f i.toNatClampNeg x) K = some o)
    (kk : ∀ (g : Nat → Int32) (H1 : Heap) (locs1 : List Loc), K g = some o → va_P D vwCl (wf g) H1 → va_D A (wf g) → va_S A s.heap H1 locs1 → W p l e R s m args below meth c H1 locs1 0 0 Q (F0 m (pc + 1) ls rest)) : W p l e R s m args below meth c H locs 0 0 Q (F0 m pc ls (.int x :: .int i :: .ref a :: rest)) :=
  va_iast hx hb hK hP hD hS q0 t0 ha ht hin hdg (fun H1 locs1 h1 h2 h3 => kk _ H1 locs1 hF (va_Pe h1 (hw _)) (va_De h2 (hw _)) h3)
theorem z_zast (hx : p.tables.exec = Jvm.exec) (hb : c.code = cc) (hK : va_K D vwCl tys s) (hP : va_P D vwCl ws H) (hD : va_D A ws) (hS : va_S A s.heap H locs) (q0 t0 : Nat) {cA : ClassId} {n : Nat} {f : Nat → Int32} (ha : ws[q0]? = some (a, .inl (cA, n, .inl f))) (ht : tys[t0]? = some (cA, .boolean)) {i : Int32} {x : Int32} (hin : vp_in i n) (hdg : decode cc pc = .ok (.bastore, 1))
    (wf : (Nat → Int32) → va_W) (hw : ∀ g, ws.set q0 (a, .inl (cA, n, .inl g)) = wf g) {K : (Nat → Int32) → Option β} (hF : zlet (upd f i.toNatClampNeg (vp_nar .boolean x)) K = some o)
    (kk : ∀ (g : Nat → Int32) (H1 : Heap) (locs1 : List Loc), K g = some o → va_P D vwCl (wf g) H1 → va_D A (wf g) → va_S A s.heap H1 locs1 → W p l e R s m args below meth c H1 locs1 0 0 Q (F0 m (pc + 1) ls rest)) : W p l e R s m args below meth c H locs 0 0 Q (F0 m pc ls (.int x :: .int i :: .ref a :: rest)) :=
  va_zast hx hb hK hP hD hS q0 t0 ha ht hin hdg (fun H1 locs1 h1 h2 h3 => kk _ H1 locs1 hF (va_Pe h1 (hw _)) (va_De h2 (hw _)) h3)
/-- the outer row of int[][] -/
theorem z_aald (hx : p.tables.exec = Jvm.exec) (hb : c.code = cc) (hK : va_K D vwCl tys s) (hP : va_P D vwCl ws H) (q0 t0 : Nat) {cA : ClassId} {ty : FieldType} {n : Nat} {f : Nat → Nat} (ha : ws[q0]? = some (a, .inl (cA, n, .inr (.inr (.inr (.inr (fun k => some (f k)))))))) (ht : tys[t0]? = some (cA, ty)) (hty : ty.isReference = true) {i : Int32} (hin : vp_in i n) (hdg : decode cc pc = .ok (.aaload, 1))
    (kk : W p l e R s m args below meth c H locs 0 0 Q (F0 m (pc + 1) ls (.ref (f i.toNatClampNeg) :: rest))) : W p l e R s m args below meth c H locs 0 0 Q (F0 m pc ls (.int i :: .ref a :: rest)) := by
  have hlt : i.toNatClampNeg < n := zin_lt hin
  exact W.aald (v := .ref (f i.toNatClampNeg)) (ty := ty) hx hb (hP q0 _ ha) ((hK.2 t0 _ ht).1 n (fun j => va_rf (some (f j)))) hty (fun q => by cases q) (by show ¬ (i < 0 ∨ (arrV _ _ _).slots.size ≤ _); rw [arrV_size]; exact hin) (by show (arrV _ _ _).slots[_]? = _; rw [arrV_read _ _ hlt]; rfl) rfl rfl hdg kk
/-- reading a row of the piles -/
theorem z_rald (hx : p.tables.exec = Jvm.exec) (hb : c.code = cc) (hK : va_K D vwCl tys s) (hP : va_P D vwCl ws H) (q0 t0 : Nat) {cA : ClassId} {n : Nat} {ad : Nat → Nat} {f : Nat → Nat → Int32} (h0 : ws[q0]? = some (ad 2, .inl (cA, n, .inl (f 0)))) (h1 : ws[q0 + 1]? = some (ad 3, .inl (cA, n, .inl (f 1)))) (h2 : ws[q0 + 2]? = some (ad 4, .inl (cA, n, .inl (f 2)))) (ht : tys[t0]? = some (cA, .int)) {r : Nat} (hr : r < 3) {i : Int32} (hin : vp_in i n) (hdg : decode cc pc = .ok (.iaload, 1))
    (kk : W p l e R s m args below meth c H locs 0 0 Q (F0 m (pc + 1) ls (.int (f r i.toNatClampNeg) :: rest))) : W p l e R s m args below meth c H locs 0 0 Q (F0 m pc ls (.int i :: .ref (ad (r + 2)) :: rest)) :=
  match r, hr, kk with
  | 0, _, kk => va_iald hx hb hK hP q0 t0 h0 ht hin hdg kk
  | 1, _, kk => va_iald hx hb hK hP (q0 + 1) t0 h1 ht hin hdg kk
  | 2, _, kk => va_iald hx hb hK hP (q0 + 2) t0 h2 ht hin hdg kk
  | n + 3, h, _ => absurd h (by omega)
/-- writing a row of the piles -/
theorem z_rast (hx : p.tables.exec = Jvm.exec) (hb : c.code = cc) (hK : va_K D vwCl tys s) (hP : va_P D vwCl ws H) (hD : va_D A ws) (hS : va_S A s.heap H locs) (q0 t0 : Nat) {cA : ClassId} {n : Nat} {ad : Nat → Nat} {f : Nat → Nat → Int32} (h0 : ws[q0]? = some (ad 2, .inl (cA, n, .inl (f 0)))) (h1 : ws[q0 + 1]? = some (ad 3, .inl (cA, n, .inl (f 1)))) (h2 : ws[q0 + 2]? = some (ad 4, .inl (cA, n, .inl (f 2)))) (ht : tys[t0]? = some (cA, .int)) {r : Nat} (hr : r < 3) {i : Int32} {x : Int32} (hin : vp_in i n) (hdg : decode cc pc = .ok (.iastore, 1))
    (wf : (Nat → Nat → Int32) → va_W) (hw0 : ∀ g, ws.set q0 (ad 2, .inl (cA, n, .inl g)) = wf (va_up f 0 g)) (hw1 : ∀ g, ws.set (q0 + 1) (ad 3, .inl (cA, n, .inl g)) = wf (va_up f 1 g)) (hw2 : ∀ g, ws.set (q0 + 2) (ad 4, .inl (cA, n, .inl g)) = wf (va_up f 2 g)) {K : (Nat → Nat → Int32) → Option β} (hF : zlet (va_up f r (upd (f r) i.toNatClampNeg x)) K = some o)
    (kk : ∀ (g : Nat → Nat → Int32) (H1 : Heap) (locs1 : List Loc), K g = some o → va_P D vwCl (wf g) H1 → va_D A (wf g) → va_S A s.heap H1 locs1 → W p l e R s m args below meth c H1 locs1 0 0 Q (F0 m (pc + 1) ls rest)) : W p l e R s m args below meth c H locs 0 0 Q (F0 m pc ls (.int x :: .int i :: .ref (ad (r + 2)) :: rest)) :=
  match r, hr, hF with
  | 0, _, hF => va_iast hx hb hK hP hD hS q0 t0 h0 ht hin hdg (fun H1 locs1 g1 g2 g3 => kk _ H1 locs1 hF (va_Pe g1 (hw0 _)) (va_De g2 (hw0 _)) g3)
  | 1, _, hF => va_iast hx hb hK hP hD hS (q0 + 1) t0 h1 ht hin hdg (fun H1 locs1 g1 g2 g3 => kk _ H1 locs1 hF (va_Pe g1 (hw1 _)) (va_De g2 (hw1 _)) g3)
  | 2, _, hF => va_iast hx hb hK hP hD hS (q0 + 2) t0 h2 ht hin hdg (fun H1 locs1 g1 g2 g3 => kk _ H1 locs1 hF (va_Pe g1 (hw2 _)) (va_De g2 (hw2 _)) g3)
  | n + 3, h, _ => absurd h (by omega)
theorem z_iinc (hx : p.tables.exec = Jvm.exec) (hb : c.code = cc) {i nL : Nat} (k : Nat) {n : Int} {x kv : Int32} {lv : List (Nat × Value)} (hdg : decode cc pc = .ok (.iinc i n, 3)) (h : lv_has ls nL lv) (hk : lv[k]? = some (i, .int x)) (hv : Int32.ofInt n = kv) (hn : i < nL) (lv' : Int32 → List (Nat × Value)) (hl : ∀ v, (i, Value.int v) :: lv.filter (fun q => !(q.1 == i) && !(q.1 + 1 == i && q.2.category == 2)) = lv' v)
    {K : Int32 → Option β} (hF : zlet (x + kv) K = some o) (kk : ∀ (v : Int32) (ls1 : Array Slot), K v = some o → lv_has ls1 nL (lv' v) → W p l e R s m args below meth c H locs 0 0 Q (F0 m (pc + 3) ls1 rest)) : W p l e R s m args below meth c H locs 0 0 Q (F0 m pc ls rest) :=
  lv_iinc (v := x + kv) (lv' := lv' (x + kv)) hx hb hdg h hk (by rw [hv]) hn (hl _) (fun ls1 h1 => kk _ ls1 hF h1)
end
theorem zlet_e {α β : Type} {x v : α} {K : α → Option β} {o : β} (h : x = v) (hF : zlet v K = some o) : K x = some o := by subst h; exact hF
abbrev zmax (x y : Int32) : Int32 := if x < y then y else x
abbrev zmin (x y : Int32) : Int32 := if y < x then y else x
theorem ztab {x : Int32} {lo hi : Int} (h : ∀ k : Int, lo ≤ k → k ≤ hi → ¬ x = Int32.ofInt k) : x.toInt < lo ∨ hi < x.toInt := by
  by_cases h1 : x.toInt < lo
  · exact Or.inl h1
  · by_cases h2 : hi < x.toInt
    · exact Or.inr h2
    · exact absurd (Int32.ofInt_toInt x).symm (h x.toInt (by omega) (by omega))
theorem zbool {r : Int32} (h : r = 0 ∨ r = 1) : narrow .boolean (.int r) = .int r := by
  rcases h with rfl | rfl <;> rfl
section
variable {p : Program} {l : Launch} {e : Env} {R : Room} {s : State} {m : MethodId} {args : Array Value} {below : List Frame} {meth : Method} {c : Code} {H : Heap} {locs : List Loc} {Q : State → Prop}
  {cc : ByteArray} {pc : Nat} {ls : Array Slot} {rest : List Value} {D : va_G} {tys : List (ClassId × FieldType)} {ws : va_W} {A : Nat → Prop} {a : Nat} {β : Type} {o : β}
theorem z_ialdK (k : Nat) (hx : p.tables.exec = Jvm.exec) (hb : c.code = cc) (hK : va_K D vwCl tys s) (hP : va_P D vwCl ws H) (q0 t0 : Nat) {cA : ClassId} {n : Nat} {f : Nat → Int32} (ha : ws[q0]? = some (a, .inl (cA, n, .inl f))) (ht : tys[t0]? = some (cA, .int)) {i : Int32} (hin : vp_in i n) (hk : i.toNatClampNeg = k) (hdg : decode cc pc = .ok (.iaload, 1))
    (kk : W p l e R s m args below meth c H locs 0 0 Q (F0 m (pc + 1) ls (.int (f k) :: rest))) : W p l e R s m args below meth c H locs 0 0 Q (F0 m pc ls (.int i :: .ref a :: rest)) :=
  va_iald hx hb hK hP q0 t0 ha ht hin hdg (by rw [hk]; exact kk)
theorem z_iastK (k : Nat) (hx : p.tables.exec = Jvm.exec) (hb : c.code = cc) (hK : va_K D vwCl tys s) (hP : va_P D vwCl ws H) (hD : va_D A ws) (hS : va_S A s.heap H locs) (q0 t0 : Nat) {cA : ClassId} {n : Nat} {f : Nat → Int32} (ha : ws[q0]? = some (a, .inl (cA, n, .inl f))) (ht : tys[t0]? = some (cA, .int)) {i : Int32} {x : Int32} (hin : vp_in i n) (hk : i.toNatClampNeg = k) (hdg : decode cc pc = .ok (.iastore, 1))
    (wf : (Nat → Int32) → va_W) (hw : ∀ g, ws.set q0 (a, .inl (cA, n, .inl g)) = wf g) {K : (Nat → Int32) → Option β} (hF : zlet (upd f k x) K = some o)
    (kk : ∀ (g : Nat → Int32) (H1 : Heap) (locs1 : List Loc), K g = some o → va_P D vwCl (wf g) H1 → va_D A (wf g) → va_S A s.heap H1 locs1 → W p l e R s m args below meth c H1 locs1 0 0 Q (F0 m (pc + 1) ls rest)) : W p l e R s m args below meth c H locs 0 0 Q (F0 m pc ls (.int x :: .int i :: .ref a :: rest)) := by
  subst hk
  exact z_iast hx hb hK hP hD hS q0 t0 ha ht hin hdg wf hw hF kk
/-- writing into the row on a shelf -/
theorem z_seast {ca : Nat → ClassId} {ad : Nat → Nat} {ho ki fi so si : Nat → Int32} {el : Nat → Nat → Int32} {w : va_W} (hx : p.tables.exec = Jvm.exec) (hb : c.code = cc) (hK : va_K D vwCl (zT ca) s) (hP : va_P D vwCl (cSh ca ad ho ki fi so si el ++ w) H) (hD : va_D A (cSh ca ad ho ki fi so si el ++ w)) (hS : va_S A s.heap H locs) (r : Nat) (hr : r < 8) (_ : True = True) {i : Int32} {x : Int32} (hin : vp_in i 100) (hdg : decode cc pc = .ok (.iastore, 1))
    (wf : (Nat → Nat → Int32) → va_W) (hw : ∀ g, cSh ca ad ho ki fi so si g ++ w = wf g) {K : (Nat → Nat → Int32) → Option β} (hF : zlet (va_up el r (upd (el r) i.toNatClampNeg x)) K = some o)
    (kk : ∀ (g : Nat → Nat → Int32) (H1 : Heap) (locs1 : List Loc), K g = some o → va_P D vwCl (wf g) H1 → va_D A (wf g) → va_S A s.heap H1 locs1 → W p l e R s m args below meth c H1 locs1 0 0 Q (F0 m (pc + 1) ls rest)) : W p l e R s m args below meth c H locs 0 0 Q (F0 m pc ls (.int x :: .int i :: .ref (ad (2 * r + 1)) :: rest)) :=
  va_iast hx hb hK hP hD hS (2 * r + 1) 0 (zsh_el r hr) rfl hin hdg (fun H1 locs1 h1 h2 h3 => kk _ H1 locs1 hF (va_Pe (va_Pe h1 (zspe r hr)) (hw _)) (va_De (va_De h2 (zspe r hr)) (hw _)) h3)
/-- System.arraycopy between two rows, at written places -/
theorem z_cpyK (kp jp kn : Nat) {own : String} {index : Nat} (hx : p.tables.exec = Jvm.exec) (hb : c.code = cc) (hml : c.maxLocals = ls.size) (hown : s.vm.findClass own = some m.cls) (hlink : (Cond.methodLink own index arraycopyName).before args s = true) (hnat : (Cond.native arraycopyName).before args s = true) (hstat : (Cond.static arraycopyName).before args s = true) (hini : (Cond.initialized "java/lang/System").before args s = true)
    (hK : va_K D vwCl tys s) (hP : va_P D vwCl ws H) (hD : va_D A ws) (hS : va_S A s.heap H locs) (q0 q1 t0 : Nat) {a0 : Nat} {c0 : ClassId} {n0 n1 : Nat} {f g : Nat → Int32} (ha0 : ws[q0]? = some (a0, .inl (c0, n0, .inl f))) (ha1 : ws[q1]? = some (a, .inl (c0, n1, .inl g))) (ht0 : tys[t0]? = some (c0, .int))
    {sp dp n : Int32} (e1 : sp.toNatClampNeg = kp) (e2 : dp.toNatClampNeg = jp) (e3 : n.toNatClampNeg = kn) (h1 : ¬ sp < 0) (h2 : ¬ dp < 0) (h3 : ¬ n < 0) (h4 : kp + kn ≤ n0) (h5 : jp + kn ≤ n1)
    (hframes : 1 ≤ R.frames) (hlocals : (rest.map fun v => v.category).sum + (nativeFrameWords "java/lang/System" "arraycopy" 5 + 11) ≤ R.locals) (hdg : decode cc pc = .ok (.invokestatic index, 3))
    (wf : (Nat → Int32) → va_W) (hw : ∀ h, ws.set q1 (a, .inl (c0, n1, .inl h)) = wf h) {K : (Nat → Int32) → Option β} (hF : zlet (va_cpy f g kp jp kn) K = some o)
    (kk : ∀ (h : Nat → Int32) (H1 : Heap) (locs1 : List Loc), K h = some o → va_P D vwCl (wf h) H1 → va_D A (wf h) → va_S A s.heap H1 locs1 → W p l e R s m args below meth c H1 locs1 0 0 Q (F0 m (pc + 3) ls rest)) : W p l e R s m args below meth c H locs 0 0 Q (F0 m pc ls (.int n :: .int dp :: .ref a :: .int sp :: .ref a0 :: rest)) := by
  subst e1 e2 e3
  exact va_copyi hx hb hml hown hlink hnat hstat hini hK hP hD hS q0 q1 t0 t0 ha0 ha1 ht0 ht0 rfl h1 h2 h3 h4 h5 (fun _ _ => rfl) hframes hlocals hdg (fun H1 locs1 g1 g2 g3 => kk _ H1 locs1 hF (va_Pe g1 (hw _)) (va_De g2 (hw _)) g3)
/-- System.arraycopy between the rows of two shelves -/
theorem z_cpyS {ca : Nat → ClassId} {ad : Nat → Nat} {ho ki fi so si : Nat → Int32} {el : Nat → Nat → Int32} {w : va_W} {own : String} {index : Nat} (hx : p.tables.exec = Jvm.exec) (hb : c.code = cc) (hml : c.maxLocals = ls.size) (hown : s.vm.findClass own = some m.cls) (hlink : (Cond.methodLink own index arraycopyName).before args s = true) (hnat : (Cond.native arraycopyName).before args s = true) (hstat : (Cond.static arraycopyName).before args s = true) (hini : (Cond.initialized "java/lang/System").before args s = true)
    (hK : va_K D vwCl (zT ca) s) (hP : va_P D vwCl (cSh ca ad ho ki fi so si el ++ w) H) (hD : va_D A (cSh ca ad ho ki fi so si el ++ w)) (hS : va_S A s.heap H locs) (r : Nat) (hr : r < 8) (q : Nat) (hq : q < 8) (_ : True = True)
    {sp dp n : Int32} (h : ¬ sp < 0 ∧ ¬ dp < 0 ∧ ¬ n < 0 ∧ sp.toNatClampNeg + n.toNatClampNeg ≤ 100 ∧ dp.toNatClampNeg + n.toNatClampNeg ≤ 100)
    (hframes : 1 ≤ R.frames) (hlocals : (rest.map fun v => v.category).sum + (nativeFrameWords "java/lang/System" "arraycopy" 5 + 11) ≤ R.locals) (hdg : decode cc pc = .ok (.invokestatic index, 3))
    (wf : (Nat → Nat → Int32) → va_W) (hw : ∀ g, cSh ca ad ho ki fi so si g ++ w = wf g) {K : (Nat → Nat → Int32) → Option β} (hF : zlet (va_up el q (va_cpy (el r) (el q) sp.toNatClampNeg dp.toNatClampNeg n.toNatClampNeg)) K = some o)
    (kk : ∀ (h : Nat → Nat → Int32) (H1 : Heap) (locs1 : List Loc), K h = some o → va_P D vwCl (wf h) H1 → va_D A (wf h) → va_S A s.heap H1 locs1 → W p l e R s m args below meth c H1 locs1 0 0 Q (F0 m (pc + 3) ls rest)) : W p l e R s m args below meth c H locs 0 0 Q (F0 m pc ls (.int n :: .int dp :: .ref (ad (2 * q + 1)) :: .int sp :: .ref (ad (2 * r + 1)) :: rest)) :=
  va_copyi hx hb hml hown hlink hnat hstat hini hK hP hD hS (2 * r + 1) (2 * q + 1) 0 0 (zsh_el r hr) (zsh_el q hq) rfl rfl rfl h.1 h.2.1 h.2.2.1 h.2.2.2.1 h.2.2.2.2 (fun _ _ => rfl) hframes hlocals hdg (fun H1 locs1 g1 g2 g3 => kk _ H1 locs1 hF (va_Pe (va_Pe g1 (zspe q hq)) (hw _)) (va_De (va_De g2 (zspe q hq)) (hw _)) g3)
end
theorem zlook2 {x : Int32} (h1 : ¬ x = 5) (h2 : ¬ x = 7) : Op.lookupswitch.offset (#[((5 : Int), (27 : Int)), (7, 35)] : Array (Int × Int)).toList 38 x.toInt = 38 := by
  have a : ¬ (5 : Int) = x.toInt := fun h => h1 (Int32.toInt_inj.mp (by rw [← h]; rfl))
  have b : ¬ (7 : Int) = x.toInt := fun h => h2 (Int32.toInt_inj.mp (by rw [← h]; rfl))
  show (if (5 : Int) = x.toInt then (27 : Int) else if (7 : Int) = x.toInt then (35 : Int) else 38) = 38
  rw [if_neg a, if_neg b]
