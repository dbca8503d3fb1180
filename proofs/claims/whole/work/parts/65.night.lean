/-! A room of the specification: guests, kinds, figures, minutes told, heaps, holds, back, mistakes, hooks, rule. -/
abbrev SR : Type := Nat × (Nat → Nat) × (Nat → Nat) × (Nat → Nat) × Nat × Nat × Nat × Nat × Nat × List Nat
abbrev rN (r : SR) : Nat := r.1
abbrev rK (r : SR) : Nat → Nat := r.2.1
abbrev rF (r : SR) : Nat → Nat := r.2.2.1
abbrev rM (r : SR) : Nat → Nat := r.2.2.2.1
abbrev rHp (r : SR) : Nat := r.2.2.2.2.1
abbrev rHo (r : SR) : Nat := r.2.2.2.2.2.1
abbrev rBa (r : SR) : Nat := r.2.2.2.2.2.2.1
abbrev rMi (r : SR) : Nat := r.2.2.2.2.2.2.2.1
abbrev rHk (r : SR) : Nat := r.2.2.2.2.2.2.2.2.1
abbrev rL (r : SR) : List Nat := r.2.2.2.2.2.2.2.2.2
/-- a room as any may be -/
def okR (r : SR) : Prop := rN r ≤ 10 ∧ (∀ i, i < rN r → rK r i ≤ 7 ∧ rF r i ≤ 9 ∧ rM r i < 200) ∧ 0 < rHp r ∧ rHp r ≤ 3 ∧ 0 < rHo r ∧ rHo r < 10 ∧ rBa r ≤ 2 ∧ rMi r ≤ 1 ∧ rHk r < 2 ^ 31 ∧ (rL r).length ≤ 6 ∧ ∀ x ∈ rL r, x ≤ 5
def mnR (r : SR) : Nat → Nat := mnS (rK r) (rF r) (rM r)
def wtR (r : SR) : Nat → Nat := wtF (rK r) (rF r)
def blR (r : SR) : Nat → Bool := fun x => blS (rK r x)
def miR (r : SR) : Bool := decide (rMi r = 1)
def layR (r : SR) (cs : List Nat) : LayS := layS (rHp r) (rHo r) (rL r) (hangS (rHk r)) (mnR r) cs
/-- all go in an order, from a laying on -/
def goR (r : SR) (S : LayS) (tp : Option Nat) (od : List Nat) : GoS := goTR (rHp r) (rBa r) (miR r) (blR r) (wtR r) (mnR r) S.2.2 tp 0 (go0 S.1) od
def odR (r : SR) : List Nat := ordS (mnR r) (List.range (rN r))
def nightR (r : SR) : GoS := goR r (layR r (List.range (rN r))) none (odR r)
abbrev sAll (s : GoS) : Nat := s.2.2.2.2.2.2.1
/-- the rows of a Room -/
def cR (r : SR) (gu : Int32) (ki fi mi se : Nat → Int32) (hk : Int32) (le : Nat → Int32) (lc : Int32) : Prop :=
  gu = nI (rN r) ∧ kfm (rN r) (rK r) (rF r) (rM r) ki fi mi ∧ se 0 = nI (rHp r) ∧ se 1 = nI (rHo r) ∧ se 2 = nI (rBa r) ∧ se 3 = nI (rMi r) ∧ hk = nI (rHk r) ∧ (∀ i x, (rL r)[i]? = some x → le i = zLet x ∧ x ≤ 5) ∧ lc = nI (rL r).length
/-- the rows of the model -/
def mR (r : SR) (gu : Int32) (ki fi to : Nat → Int32) (hp ho ba mi hk lc : Int32) (ru : Nat → Int32) : Prop :=
  gu = nI (rN r) ∧ kfm (rN r) (rK r) (rF r) (rM r) ki fi to ∧ hp = nI (rHp r) ∧ ho = nI (rHo r) ∧ ba = nI (rBa r) ∧ mi = nI (rMi r) ∧ hk = nI (rHk r) ∧ lc = nI (rL r).length ∧ ∀ i x, (rL r)[i]? = some x → ru i = nI x ∧ x ≤ 5
theorem odR_len (r : SR) : (odR r).length = rN r := by unfold odR; rw [ordS_length, List.length_range]
theorem odR_mem {r : SR} {x : Nat} : x ∈ odR r ↔ x < rN r := by unfold odR; rw [(ordS_perm _ _).mem_iff, List.mem_range]
theorem odR_nd (r : SR) : (odR r).Nodup := by unfold odR; rw [(ordS_perm _ _).nodup_iff]; exact List.nodup_range
theorem wtR_le {r : SR} (h : okR r) : ∀ x, x < rN r → wtR r x ≤ 5 := fun x hx => wtS_le (h.2.1 x hx).2.1
/-- an order in which all of the room go, or come -/
def okO (r : SR) (l : List Nat) : Prop := l.Nodup ∧ l.length = rN r ∧ ∀ x, x ∈ l ↔ x < rN r
theorem okO_od (r : SR) : okO r (odR r) := ⟨odR_nd r, odR_len r, fun _ => odR_mem⟩
theorem okO_range (r : SR) : okO r (List.range (rN r)) := ⟨List.nodup_range, by simp, fun x => List.mem_range⟩
theorem LI_R {r : SR} {cs : List Nat} (h : okR r) (hc : okO r cs) : LI (rHp r) cs (layR r cs) := LI_lay h.2.2.2.1 h.2.2.1 hc.1
/-- so many go in an order, the heaps turned over ahead of a place -/
theorem sX3_letGo {r : SR} {S : LayS} {cs od rest : List Nat} {fuel : Nat} {tp : Option Nat} {w b go se ord : Nat → Int32} {pi : Nat → Nat → Int32} {hts sps : Nat → Int32} (hf : 100 < fuel) (hr : okR r) (hb : ∀ x, x < rN r → b x = zb01 (blR r x)) (hw : cM w (wtR r) (rN r)) (hM : cM go (mnR r) (rN r)) (hse3 : se 3 = nI (rMi r)) (hse2 : se 2 = nI (rBa r)) (htp : ∀ t, tp = some t → t < 1000) (hcs : okO r cs) (hod : okO r (od ++ rest)) (hI : LI (rHp r) cs S) (had : arr ord od) (hB : cB S.1 pi hts) (hsp : ∀ x ∈ cs, sps x = encW (S.2.2 x)) (li be en ha ld : Nat → Int32) (al dn : Int32) :
    ∃ o, fX3_letGo fuel ord w b li be en ha ld al dn go (nI (rHp r)) pi hts sps (nI (rN r)) se (nI od.length) (enc tp) = some o ∧ o.1 = nI (sAll (goR r S tp od)) ∧
      cGo (rN r) (rHp r) (miR r) (blR r) S.2.2 rest (goR r S tp od) o.2.1 o.2.2.1 o.2.2.2.1 o.2.2.2.2.1 o.2.2.2.2.2.1 o.2.2.2.2.2.2.1 o.2.2.2.2.2.2.2.1 o.2.2.2.2.2.2.2.2.1 o.2.2.2.2.2.2.2.2.2.1 o.2.2.2.2.2.2.2.2.2.2 := by
  obtain ⟨r1, r2, r3, r4, r5, r6, r7, r8, r9, r10, r11⟩ := hr
  have hlen := hod.2.1
  rw [List.length_append] at hlen
  have hlr : (od ++ rest).length ≤ 10 := by rw [hod.2.1]; omega
  have hrc : ∀ x ∈ od ++ rest, x ∈ cs := fun x hx => (hcs.2.2 x).mpr ((hod.2.2 x).mp hx)
  exact sX3_letGo_L12 hf r4 r1 hb hw (wtR_le ⟨r1, r2, r3, r4, r5, r6, r7, r8, r9, r10, r11⟩) hM hse3 (by omega) hse2 r7 (LI_wh r4 hI) htp od rest (by omega) (fun x hx => (hod.2.2 x).mp (List.mem_append_left _ hx)) hod.1 (fun x hx => (hod.2.2 x).mpr hx) had
    (LI_GI r4 (by rw [hcs.2.1]; omega) (fun x hx => (hcs.2.2 x).mp hx) hI hlr hrc) hB (LI_Sp r4 hI hsp hrc) hlr (rN r) fuel 0 li be en ha ld (by omega) (by omega) (fun x hx => absurd hx (Nat.not_lt_zero x))
/-- what begin leaves -/
theorem sX3_beginR {r : SR} {fuel : Nat} {gu hk lc : Int32} {ki fi mi se le : Nat → Int32} (hf : 100 < fuel) (hr : okR r) (hc : cR r gu ki fi mi se hk le lc) (o w b go co : Nat → Int32) :
    ∃ q, fX3_begin fuel o w b go co gu ki fi mi = some q ∧ arr q.1 (odR r) ∧ cM q.2.1 (wtR r) (rN r) ∧ (∀ i, i < rN r → q.2.2.1 i = zb01 (blR r i)) ∧ cM q.2.2.2.1 (mnR r) (rN r) ∧ arr q.2.2.2.2 (List.range (rN r)) := by
  rw [hc.1]
  exact sX3_begin hf hr.1 hc.2.1 o w b go co
/-- what layAll leaves, for any order of coming -/
theorem sX2_layR {r : SR} {fuel : Nat} {gu hk lc : Int32} {ki fi mi se le go co : Nat → Int32} {cs : List Nat} (hf : 100 < fuel) (hr : okR r) (hc : cR r gu ki fi mi se hk le lc) (hcs : okO r cs) (hM : cM go (mnR r) (rN r)) (hco : arr co cs) (yho yla bh : Int32) (pi : Nat → Nat → Int32) (hts sps : Nat → Int32) :
    ∃ o, fX2_layAll fuel go co yho yla bh pi hts sps gu se hk le lc = some o ∧ o.2.2.1 = nI (rHp r) ∧ cB (layR r cs).1 o.2.2.2.1 o.2.2.2.2.1 ∧ ∀ x ∈ cs, o.2.2.2.2.2 x = encW ((layR r cs).2.2 x) := by
  obtain ⟨r1, r2, r3, r4, r5, r6, r7, r8, r9, r10, r11⟩ := hr
  obtain ⟨c1, c2, c3, c4, c5, c6, c7, c8, c9⟩ := hc
  obtain ⟨o, o1, o2, o3, o4, o5, o6, o7, o8⟩ := sX2_layAll (fuel := fuel) (hk := rHk r) (L := rL r) r1 hf r4 r3 (by omega) r5 hM r10 c8 r9 hco (by rw [hcs.2.1]; omega) (fun x hx => (hcs.2.2 x).mp hx) c3 c4 yho yla bh pi hts sps
  rw [hcs.2.1, ← c1, ← c7, ← c9] at o1
  exact ⟨o, o1, o4, o5, o8⟩
/-- a night of the class -/
def cNi (r : SR) (S : LayS) (rest : List Nat) (s : GoS) (od we bl li be en ha ld : Nat → Int32) (al dn : Int32) (go : Nat → Int32) (hp : Int32) (pi : Nat → Nat → Int32) (hts sps : Nat → Int32) : Prop :=
  arr od (odR r) ∧ cM go (mnR r) (rN r) ∧ cGo (rN r) (rHp r) (miR r) (blR r) S.2.2 rest s li be en ha ld al dn pi hts sps
theorem sX3_pass {r : SR} {fuel : Nat} {gu hk lc : Int32} {ki fi mi se le : Nat → Int32} (hf : 100 < fuel) (hr : okR r) (hc : cR r gu ki fi mi se hk le lc) (od we bl li be en ha ld : Nat → Int32) (al dn : Int32) (go co : Nat → Int32) (yho yla bh : Int32) (pi : Nat → Nat → Int32) (hts sps : Nat → Int32) :
    ∃ o, fX3_pass fuel od we bl li be en ha ld al dn go co yho yla bh pi hts sps gu ki fi mi se hk le lc = some o ∧ o.1 = nI (sAll (nightR r)) ∧ arr o.2.1 (odR r) ∧ cM o.2.2.2.2.2.2.2.2.2.2.2.1 (mnR r) (rN r) ∧
      cGo (rN r) (rHp r) (miR r) (blR r) (layR r (List.range (rN r))).2.2 [] (nightR r) o.2.2.2.2.1 o.2.2.2.2.2.1 o.2.2.2.2.2.2.1 o.2.2.2.2.2.2.2.1 o.2.2.2.2.2.2.2.2.1 o.2.2.2.2.2.2.2.2.2.1 o.2.2.2.2.2.2.2.2.2.2.1 o.2.2.2.2.2.2.2.2.2.2.2.2.2.2.2.2.1 o.2.2.2.2.2.2.2.2.2.2.2.2.2.2.2.2.2.1 o.2.2.2.2.2.2.2.2.2.2.2.2.2.2.2.2.2.2 := by
  unfold fX3_pass
  obtain ⟨q, q1, q2, q3, q4, q5, q6⟩ := sX3_beginR hf hr hc od we bl go co
  rw [q1, zbs]
  obtain ⟨y, y1, y2, y3, y4⟩ := sX2_layR hf hr hc (okO_range r) q5 q6 yho yla bh pi hts sps
  rw [y1, zbs, y2]
  have hod := okO_od r
  rw [← List.append_nil (odR r)] at hod
  obtain ⟨g, g1, g2, g3⟩ := sX3_letGo (tp := none) (se := se) hf hr q4 q3 q5 hc.2.2.2.2.2.1 hc.2.2.2.2.1 (fun t ht => by cases ht) (okO_range r) hod (LI_R hr (okO_range r)) q2 y3 y4 li be en ha ld al dn
  rw [odR_len, ← hc.1] at g1
  have e : (-4 : Int32) = enc none := rfl
  rw [e, g1, zbs]
  exact ⟨_, rfl, g2, q2, q5, g3⟩
