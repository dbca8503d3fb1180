/-! The model: go, layAndGo, night. -/
theorem sX10_go_L15 {fuel N hp ba mi t : Nat} {bl : Nat → Bool} {wt mn wh : Nat → Nat} {ki fi od mr wr : Nat → Int32} {cs l rest : List Nat} {tp : Option Nat} {H : HP} {pl hi : Nat → Int32} (hf : 100 < fuel) (hN : N ≤ 10) (hhp : hp ≤ 3) (hba : ba ≤ 2) (hmi : mi < 100) (hbl : ∀ x, x < N → fX10_isBlack fuel ki (nI x) = some (zb01 (bl x))) (hlf : ∀ x, x < N → fX10_liftOf fuel ki fi (nI x) = some (nI (wt x))) (hwt : ∀ x, x < N → wt x ≤ 5) (hM : cM mr mn N) (hwh : whOk N wh) (hcs : ∀ x ∈ cs, x < N) (hwr : ∀ x ∈ cs, wr x = encW (wh x)) (ht : t < 2 ^ 31) (hlr : (l ++ rest).length ≤ 10) (hnd : (l ++ rest).Nodup) (hlc : ∀ x, x ∈ l ++ rest ↔ x ∈ cs) (had : arr od l) (htp : tp = tpS mn t l) (hI : GI N hp (decide (mi = 1)) bl wh (l ++ rest) (go0 H)) (hB : mB H pl hi) (hfl : ∀ x, x < N → wh x < 3 → x ∈ flat H) (li be en ha ab : Nat → Int32) :
    ∀ (m n i : Nat) (ld tk : Nat → Int32), i + m = N → m < n → (∀ x, x < i → ld x = nI 0 ∧ tk x = nI 0) →
      ∃ o, fX10_go_L15 fuel (nI N) ki fi (nI hp) (nI ba) (nI mi) od mr wr (nI l.length) (nI t) n (nI 0) (nI i) pl hi li be en ha ld tk ab (nI 0) (nI 0) = some o ∧ o.1 = nI (goTR hp ba (decide (mi = 1)) bl wt mn wh tp 0 (go0 H) l).2.2.2.2.2.2.1 ∧
        mGo N hp (decide (mi = 1)) bl cs rest wh (goTR hp ba (decide (mi = 1)) bl wt mn wh tp 0 (go0 H) l) o.2.1 o.2.2.1 o.2.2.2.1 o.2.2.2.2.1 o.2.2.2.2.2.1 o.2.2.2.2.2.2.1 o.2.2.2.2.2.2.2.1 o.2.2.2.2.2.2.2.2.1 o.2.2.2.2.2.2.2.2.2.2.1 o.2.2.2.2.2.2.2.2.2.2.2 := by
  intro m
  induction m with
  | zero =>
    intro n i ld tk h1 h2 hz
    obtain ⟨n, rfl⟩ : ∃ k, n = k + 1 := ⟨n - 1, by omega⟩
    have hll : l.length + rest.length ≤ 10 := by rw [List.length_append] at hlr; exact hlr
    rw [fX10_go_L15]
    simp (disch := omega) only [zlit, zz, if_pos, if_neg, if_true, if_false, zgd', zl, zbs, zbz, encz, fX10_go_J46]
    refine sX10_go_L49 hf hN hhp hba hmi hbl hlf hwt hM hwh hcs hwr (show l.length ≤ 10 by omega) ht l fuel 0 0 tp (go0 H) pl hi li be en ha ld tk ab (nI 0) (nI 0) (by omega) (by omega) (fun x hx => (hlc x).mp (List.mem_append_left _ hx)) hnd (fun j x hx => by rw [Nat.zero_add]; exact had j x hx) (Or.inr ⟨rfl, ?_⟩) (fun _ => by show 0 + 60 * _ ≤ 900; omega) ⟨hI, ⟨fun x hx hn => absurd ((hlc x).mpr hx) hn, fun x hx => (hz x (by omega)).1, fun x hx h3 => ?_, rfl, rfl⟩, hB⟩
    · rw [htp]; simp
    · rw [(hz x (by omega)).2, decide_eq_false (fun q => q (hfl x hx h3))]; rfl
  | succ m ih =>
    intro n i ld tk h1 h2 hz
    obtain ⟨n, rfl⟩ : ∃ k, n = k + 1 := ⟨n - 1, by omega⟩
    have hv0 : vp_nar .boolean (nI 0) = nI 0 := rfl
    rw [fX10_go_L15]
    simp (disch := omega) only [zlit, zz, if_pos, if_neg, if_true, if_false, zgd', zl, zbs, zbz, encz, hv0]
    refine ih n (i + 1) _ _ (by omega) (by omega) (fun x hx => ?_)
    unfold upd
    by_cases q : x = i
    · simp only [q, if_true]
      exact ⟨trivial, trivial⟩
    · simp only [q, if_false]
      exact hz x (by omega)
/-- the model's rows without the minutes told -/
def mR0 (r : SR) (gu : Int32) (ki fi : Nat → Int32) (hp ho ba mi hk lc : Int32) (ru : Nat → Int32) : Prop := ∃ to, mR r gu ki fi to hp ho ba mi hk lc ru
/-- some of the room, each once -/
def okC (r : SR) (l : List Nat) : Prop := l.Nodup ∧ (∀ x ∈ l, x < rN r) ∧ l.length ≤ 10
theorem okO_C {r : SR} {l : List Nat} (h : okR r) (hl : okO r l) : okC r l := ⟨hl.1, fun x hx => (hl.2.2 x).mp hx, by rw [hl.2.1]; exact h.1⟩
theorem LI_C {r : SR} {cs : List Nat} (h : okR r) (hc : okC r cs) : LI (rHp r) cs (layR r cs) := LI_lay h.2.2.2.1 h.2.2.1 hc.1
theorem sX10_go {r : SR} {S : LayS} {fuel t : Nat} {cs od rest : List Nat} {tp : Option Nat} {gu hp ho ba mi hk lc : Int32} {ki fi ru going mr wr pl hi : Nat → Int32} (hf : 100 < fuel) (hr : okR r) (hm : mR0 r gu ki fi hp ho ba mi hk lc ru) (hM : cM mr (mnR r) (rN r)) (hcs : okC r cs) (hod : (od ++ rest).Perm cs) (hI : LI (rHp r) cs S) (hwr : ∀ x ∈ cs, wr x = encW (S.2.2 x)) (ht : t < 2 ^ 31) (had : arr going od) (htp : tp = tpS (mnR r) t od) (hB : mB S.1 pl hi) (li be en ha ld tk ab : Nat → Int32) (al bu : Int32) :
    ∃ o, fX10_go fuel gu ki fi hp ba mi going mr pl hi wr li be en ha ld tk ab al bu (nI od.length) (nI t) = some o ∧ o.1 = nI (sAll (goR r S tp od)) ∧
      mGo (rN r) (rHp r) (miR r) (blR r) cs rest S.2.2 (goR r S tp od) o.2.1 o.2.2.1 o.2.2.2.1 o.2.2.2.2.1 o.2.2.2.2.2.1 o.2.2.2.2.2.2.1 o.2.2.2.2.2.2.2.1 o.2.2.2.2.2.2.2.2.1 o.2.2.2.2.2.2.2.2.2.2.1 o.2.2.2.2.2.2.2.2.2.2.2 := by
  obtain ⟨to, m1, m2, m3, m4, m5, m6, m7, m8, m9⟩ := hm
  have hr' := hr
  obtain ⟨r1, r2, r3, r4, r5, r6, r7, r8, r9, r10, r11⟩ := hr
  subst m1 m3 m5 m6
  have hlr : (od ++ rest).length ≤ 10 := by rw [hod.length_eq]; exact hcs.2.2
  have hrc : ∀ x ∈ od ++ rest, x ∈ cs := fun x hx => hod.mem_iff.mp hx
  refine sX10_go_L15 hf r1 r4 r7 (by omega) (fun x hx => sX10_isBlack r1 m2 hx) (fun x hx => sX10_liftOf r1 m2 hx) (wtR_le hr') hM (LI_wh r4 hI) hcs.2.1 hwr ht hlr (hod.nodup_iff.mpr hcs.1) (fun x => hod.mem_iff) had htp (LI_GI r4 hcs.2.2 hcs.2.1 hI hlr hrc) hB (fun x hx h3 => ?_) li be en ha ab (rN r) fuel 0 ld tk (by omega) (by omega) (fun x hx => absurd hx (Nat.not_lt_zero x))
  obtain ⟨i1, i2, i3, i4, i5⟩ := hI
  have hxc : x ∈ cs := by
    by_cases q : x ∈ cs
    · exact q
    · have := i2 x q; omega
  have := i3 x
  exact mem_flat.mpr ⟨S.2.2 x, h3, (i1 _ x).mpr ⟨by omega, hxc, rfl⟩⟩
theorem sX10_layR {r : SR} {fuel : Nat} {cs : List Nat} {gu hp ho ba mi hk lc : Int32} {ki fi ru mr co : Nat → Int32} (hf : 100 < fuel) (hr : okR r) (hm : mR0 r gu ki fi hp ho ba mi hk lc ru) (hM : cM mr (mnR r) (rN r)) (hcs : okC r cs) (hco : arr co cs) (pl hi wh : Nat → Int32) (la : Int32) :
    ∃ o, fX10_lay fuel hp ho hk lc ru co (nI cs.length) mr pl hi wh la = some o ∧ mB (layR r cs).1 o.1 o.2.1 ∧ ∀ x ∈ cs, o.2.2.1 x = encW ((layR r cs).2.2 x) := by
  obtain ⟨to, m1, m2, m3, m4, m5, m6, m7, m8, m9⟩ := hm
  obtain ⟨r1, r2, r3, r4, r5, r6, r7, r8, r9, r10, r11⟩ := hr
  subst m3 m4 m7 m8
  obtain ⟨o, o1, o2, o3, o4, o5, o6⟩ := sX10_lay (fuel := fuel) (ho := rHo r) (hk := rHk r) (L := rL r) (ru := ru) r1 hf r4 r3 (by omega) hM r10 m9 r9 hco hcs.2.2 hcs.2.1 pl hi wh la
  exact ⟨o, o1, o2, o6⟩
theorem tpS_never {mn : Nat → Nat} {t : Nat} : ∀ {l : List Nat}, (∀ x ∈ l, mn x < t) → tpS mn t l = none
  | [], _ => rfl
  | x :: l, h => by
    have h1 := h x List.mem_cons_self
    have h2 := tpS_never (mn := mn) (t := t) (l := l) (fun y hy => h y (List.mem_cons_of_mem _ hy))
    unfold tpS at h2 ⊢
    rw [firstIx, if_neg (by simp; omega), h2]
    rfl
theorem mnR_lt {r : SR} (h : okR r) {x : Nat} (hx : x < rN r) : mnR r x < 1000 := goS_lt (by have := (h.2.1 x hx).2.2; omega)
theorem sX10_layAndGo {r : SR} {fuel : Nat} {cs od : List Nat} {gu hp ho ba mi hk lc : Int32} {ki fi ru going mr co : Nat → Int32} (hf : 100 < fuel) (hr : okR r) (hm : mR0 r gu ki fi hp ho ba mi hk lc ru) (hM : cM mr (mnR r) (rN r)) (hcs : okC r cs) (hod : od.Perm cs) (hco : arr co cs) (had : arr going od) (pl hi wr : Nat → Int32) (la : Int32) (li be en ha ld tk ab : Nat → Int32) (al bu : Int32) :
    ∃ o, fX10_layAndGo fuel gu ki fi hp ho ba mi hk lc ru co (nI cs.length) going (nI od.length) mr pl hi wr la li be en ha ld tk ab al bu = some o ∧ o.1 = nI (sAll (goR r (layR r cs) none od)) ∧ (∀ x ∈ cs, o.2.2.2.1 x = encW ((layR r cs).2.2 x)) ∧
      mGo (rN r) (rHp r) (miR r) (blR r) cs [] (layR r cs).2.2 (goR r (layR r cs) none od) o.2.1 o.2.2.1 o.2.2.2.2.2.1 o.2.2.2.2.2.2.1 o.2.2.2.2.2.2.2.1 o.2.2.2.2.2.2.2.2.1 o.2.2.2.2.2.2.2.2.2.1 o.2.2.2.2.2.2.2.2.2.2.1 o.2.2.2.2.2.2.2.2.2.2.2.2.1 o.2.2.2.2.2.2.2.2.2.2.2.2.2 := by
  unfold fX10_layAndGo
  obtain ⟨y, y1, y2, y3⟩ := sX10_layR hf hr hm hM hcs hco pl hi wr la
  rw [y1, zbs]
  have htn : none = tpS (mnR r) 1000000 od := (tpS_never (fun x hx => by have := mnR_lt hr (hcs.2.1 x (hod.mem_iff.mp hx)); omega)).symm
  obtain ⟨g, g1, g2, g3⟩ := sX10_go (fuel := fuel) (t := 1000000) (rest := []) hf hr hm hM hcs (by rw [List.append_nil]; exact hod) (LI_C hr hcs) y3 (by decide) had htn y2 li be en ha ld tk ab al bu
  have e : (1000000 : Int32) = nI 1000000 := rfl
  rw [e, g1, zbs]
  exact ⟨_, rfl, g2, y3, g3⟩
theorem sX10_usualR {r : SR} {fuel : Nat} {gu hp ho ba mi hk lc : Int32} {ki fi to ru : Nat → Int32} (hf : 100 < fuel) (hr : okR r) (hm : mR r gu ki fi to hp ho ba mi hk lc ru) (co : Nat → Int32) (cm : Int32) (go : Nat → Int32) (gm : Int32) (mr : Nat → Int32) :
    ∃ o, fX10_usual fuel gu ki fi to co cm go gm mr = some o ∧ arr o.1 (List.range (rN r)) ∧ o.2.1 = nI (rN r) ∧ arr o.2.2.1 (odR r) ∧ o.2.2.2.1 = nI (rN r) ∧ cM o.2.2.2.2 (mnR r) (rN r) := by
  rw [hm.1]
  exact sX10_usual hf hr.1 hm.2.1 co cm go gm mr
theorem odR_perm (r : SR) : (odR r).Perm (List.range (rN r)) := ordS_perm _ _
theorem sX10_night {r : SR} {fuel : Nat} {gu hp ho ba mi hk lc : Int32} {ki fi to ru : Nat → Int32} (hf : 100 < fuel) (hr : okR r) (hm : mR r gu ki fi to hp ho ba mi hk lc ru) (co : Nat → Int32) (cm : Int32) (go : Nat → Int32) (gm : Int32) (mr pl hi wr : Nat → Int32) (la : Int32) (li be en ha ld tk ab : Nat → Int32) (al bu : Int32) :
    ∃ o, fX10_night fuel gu ki fi to hp ho ba mi hk lc ru co cm go gm mr pl hi wr la li be en ha ld tk ab al bu = some o ∧ o.1 = nI (sAll (nightR r)) ∧ arr o.2.2.2.1 (odR r) ∧ o.2.2.2.2.1 = nI (rN r) ∧ cM o.2.2.2.2.2.1 (mnR r) (rN r) ∧ (∀ x, x < rN r → o.2.2.2.2.2.2.2.2.1 x = encW ((layR r (List.range (rN r))).2.2 x)) ∧
      mGo (rN r) (rHp r) (miR r) (blR r) (List.range (rN r)) [] (layR r (List.range (rN r))).2.2 (nightR r) o.2.2.2.2.2.2.1 o.2.2.2.2.2.2.2.1 o.2.2.2.2.2.2.2.2.2.2.1 o.2.2.2.2.2.2.2.2.2.2.2.1 o.2.2.2.2.2.2.2.2.2.2.2.2.1 o.2.2.2.2.2.2.2.2.2.2.2.2.2.1 o.2.2.2.2.2.2.2.2.2.2.2.2.2.2.1 o.2.2.2.2.2.2.2.2.2.2.2.2.2.2.2.1 o.2.2.2.2.2.2.2.2.2.2.2.2.2.2.2.2.2.1 o.2.2.2.2.2.2.2.2.2.2.2.2.2.2.2.2.2.2 := by
  unfold fX10_night
  obtain ⟨u, u1, u2, u3, u4, u5, u6⟩ := sX10_usualR hf hr hm co cm go gm mr
  rw [u1, zbs, u3, u5]
  obtain ⟨y, y1, y2, y3, y4⟩ := sX10_layAndGo (fuel := fuel) hf hr ⟨to, hm⟩ u6 (okO_C hr (okO_range r)) (odR_perm r) u2 u4 pl hi wr la li be en ha ld tk ab al bu
  rw [List.length_range, odR_len] at y1
  rw [y1, zbs]
  exact ⟨_, rfl, y2, u4, rfl, u6, fun x hx => y3 x (List.mem_range.mpr hx), y4⟩
