/-! The call: room. -/
theorem u_room_L {r0 : SR} {n : Nat} {sg : Nat → Int32} (fuel : Nat) (s_size : Nat → Int32) (s_el : Nat → Nat → Int32) (si : Nat) (M_text : Int32) (M_row : Int32) (M_begins : Nat → Int32) (M_ruleLetters : Nat → Int32) (M_items : Nat → Int32) (hf : 100 < fuel) (hr0 : okT r0) (ht : txS fuel n si sg s_size s_el M_begins M_ruleLetters M_items) (e2 : M_text = nI n) (e3 : M_row = nI si) :
    ∀ (m w p v c : Nat) (r : SR) (r_guests : Int32) (r_kinds : Nat → Int32) (r_figures : Nat → Int32) (r_minutes : Nat → Int32) (r_settings : Nat → Int32) (r_hooks : Int32) (r_letters : Nat → Int32) (r_letterCount : Int32) (v1 : Int32) (M_guests : Int32) (M_kind : Nat → Int32) (M_figure : Nat → Int32) (M_told : Nat → Int32) (M_heaps : Int32) (M_holds : Int32) (M_back : Int32) (M_mistakes : Int32) (M_hooks : Int32) (M_letters : Int32) (M_rule : Nat → Int32) (M_at : Int32) (M_well : Int32) (M_sort : Int32) (M_field : Nat → Int32) (M_fields : Int32) (M_was : Nat → Int32), v ≤ p → p ≤ n → n < p + m → m < w → (p < n → (tbS sg n m p c).1 = none) → okT r → cR r r_guests r_kinds r_figures r_minutes r_settings r_hooks r_letters r_letterCount → mR r M_guests M_kind M_figure M_told M_heaps M_holds M_back M_mistakes M_hooks M_letters M_rule → M_at = nI p → mK r0 M_was →
      ∃ o q, fX6_senselessAt_L4 fuel s_size s_el si w (nI p) (nI v) r_guests r_kinds r_figures r_minutes r_settings r_hooks r_letters r_letterCount = some o ∧ fX10_read_L61 fuel M_text M_row M_begins M_ruleLetters M_items w v1 M_guests M_kind M_figure M_told M_heaps M_holds M_back M_mistakes M_hooks M_letters M_rule M_at M_well M_sort M_field M_fields M_was = some q ∧ ((∃ i, o.1 = nI i ∧ i ≤ 200 ∧ q.1 = (-2000) - nI i ∧ mR r0 q.2.1 q.2.2.1 q.2.2.2.1 q.2.2.2.2.1 q.2.2.2.2.2.1 q.2.2.2.2.2.2.1 q.2.2.2.2.2.2.2.1 q.2.2.2.2.2.2.2.2.1 q.2.2.2.2.2.2.2.2.2.1 q.2.2.2.2.2.2.2.2.2.2.1 q.2.2.2.2.2.2.2.2.2.2.2.1) ∨ (o.1 = zNo ∧ q.1 = v1 ∧ ∃ r', okT r' ∧ cR r' o.2.1 o.2.2.1 o.2.2.2.1 o.2.2.2.2.1 o.2.2.2.2.2.1 o.2.2.2.2.2.2.1 o.2.2.2.2.2.2.2.1 o.2.2.2.2.2.2.2.2 ∧ mR r' q.2.1 q.2.2.1 q.2.2.2.1 q.2.2.2.2.1 q.2.2.2.2.2.1 q.2.2.2.2.2.2.1 q.2.2.2.2.2.2.2.1 q.2.2.2.2.2.2.2.2.1 q.2.2.2.2.2.2.2.2.2.1 q.2.2.2.2.2.2.2.2.2.2.1 q.2.2.2.2.2.2.2.2.2.2.2.1)) := by
  have ht' := ht
  obtain ⟨t1, t2, t3, t4, t5, t6, t7, t8, t9⟩ := ht
  intro m
  induction m with
  | zero => intro w p v c r r_guests r_kinds r_figures r_minutes r_settings r_hooks r_letters r_letterCount v1 M_guests M_kind M_figure M_told M_heaps M_holds M_back M_mistakes M_hooks M_letters M_rule M_at M_well M_sort M_field M_fields M_was h0 h1 h2; omega
  | succ m ih =>
    intro w p v c r r_guests r_kinds r_figures r_minutes r_settings r_hooks r_letters r_letterCount v1 M_guests M_kind M_figure M_told M_heaps M_holds M_back M_mistakes M_hooks M_letters M_rule M_at M_well M_sort M_field M_fields M_was h0 h1 h2 h3 h4 hr hc hm h5 hw
    obtain ⟨w, rfl⟩ : ∃ k, w = k + 1 := ⟨w - 1, by omega⟩
    rw [fX6_senselessAt_L4, fX10_read_L61, t3, show (100 : Int32) = nI 100 from rfl]
    by_cases q : p < n
    · have hle : ¬ nI n ≤ nI p := fun h => by have := (nI_leI (by omega) (by omega)).mp h; omega
      have hlv : ¬ nI 100 ≤ nI v := fun h => by have := (nI_leI (by omega) (by omega)).mp h; omega
      rw [if_neg hlv, if_neg hle, if_neg (show ¬ M_text ≤ M_at by rw [e2, h5]; exact hle)]
      have h4' := h4 q
      rw [tbS] at h4'
      have hb : brS sg p = none := by
        cases hb : brS sg p with
        | none => rfl
        | some i => rw [hb] at h4'; cases h4'
      rw [hb] at h4'
      dsimp only at h4'
      obtain ⟨k, f2, c2, k1, k2, k3⟩ := (sX10_statement (p := p) fuel M_at M_well M_sort M_text M_row M_field M_fields M_begins M_ruleLetters M_items hf (by omega) ht' h5 e2 e3).2 hb
      obtain ⟨k', j1, j2, j3, j4, j5⟩ := brS_ok hb t4
      have hkk : k' = k := by rw [k1] at j1; exact (Option.some.inj j1).symm
      subst hkk
      rw [k1] at h4'
      dsimp only [Option.getD] at h4'
      have hl := lenS_le sg p k'
      obtain ⟨o, s, o1, s1, hst⟩ := u_stmt (r := r) (n := n) (p := p) (k := k') (c := c2) (sg := sg) (f2 := f2) fuel s_size s_el r_guests r_kinds r_figures r_minutes r_settings r_hooks r_letters r_letterCount si (nI p) M_guests M_kind M_figure M_told M_heaps M_holds M_back M_mistakes M_hooks M_letters M_rule hf hr hc hm ht' rfl (by omega) hb k1 k3
      rw [o1, zbs, k2, zbs]
      dsimp only
      rw [s1, zbs]
      have e0 : (0 : Int32) = nI 0 := rfl
      rw [e0]
      rcases hst with ⟨x1, x2⟩ | ⟨x1, x2, r', x3, x4, x5⟩
      · rw [if_pos x1, if_pos x2]
        unfold fX10_read_J88
        obtain ⟨b, b1, b2⟩ := sX10_backTo_was (r := r0) fuel s.2.1 s.2.2.1 s.2.2.2.1 s.2.2.2.2.1 s.2.2.2.2.2.1 s.2.2.2.2.2.2.1 s.2.2.2.2.2.2.2.1 s.2.2.2.2.2.2.2.2.1 s.2.2.2.2.2.2.2.2.2.1 s.2.2.2.2.2.2.2.2.2.2.1 s.2.2.2.2.2.2.2.2.2.2.2 M_was hf hr0.1 hw
        rw [b1, zbs]
        exact ⟨_, _, rfl, rfl, Or.inl ⟨p, rfl, by omega, by rw [h5], b2⟩⟩
      · have z1 : ¬ o.1 = nI 0 := by rw [x1]; exact z10
        have z2 : ¬ s.1 = nI 0 := by rw [x2]; exact z10
        rw [if_neg z1, if_neg z2, sX6_lengthOf (n := n) hf (by omega) t6 k1, zbs, zl, nI_add, zl, show (1 : Int32) = nI 1 from rfl, nI_add]
        refine ih w (p + lenS sg p k') (v + 1) (c + 1) r' _ _ _ _ _ _ _ _ _ _ _ _ _ _ _ _ _ _ _ _ _ _ _ _ _ _ (by omega) j5 (by omega) (by omega) (fun qq => ?_) x3 x4 x5 rfl hw
        rw [if_pos qq] at h4'
        exact h4'
    · have hle : nI n ≤ nI p := (nI_leI (by omega) (by omega)).mpr (by omega)
      rw [if_pos hle, if_pos (show M_text ≤ M_at by rw [e2, h5]; exact hle), ite_self]
      exact ⟨_, _, rfl, rfl, Or.inr ⟨rfl, rfl, r, hr, hc, hm⟩⟩
theorem u_room {r : SR} (fuel : Nat) (s_holds : Nat → Int32) (s_sort : Nat → Int32) (s_size : Nat → Int32) (s_el : Nat → Nat → Int32) (d_guests : Int32) (d_kinds : Nat → Int32) (d_figures : Nat → Int32) (d_minutes : Nat → Int32) (d_settings : Nat → Int32) (d_hooks : Int32) (d_letters : Nat → Int32) (d_letterCount : Int32) (t_guests : Int32) (t_kinds : Nat → Int32) (t_figures : Nat → Int32) (t_minutes : Nat → Int32) (t_settings : Nat → Int32) (t_hooks : Int32) (t_letters : Nat → Int32) (t_letterCount : Int32) (p1 : Int32) (M_guests : Int32) (M_kind : Nat → Int32) (M_figure : Nat → Int32) (M_told : Nat → Int32) (M_heaps : Int32) (M_holds : Int32) (M_back : Int32) (M_mistakes : Int32) (M_hooks : Int32) (M_letters : Int32) (M_rule : Nat → Int32) (M_at : Int32) (M_well : Int32) (M_sort : Int32) (M_text : Int32) (M_row : Int32) (M_field : Nat → Int32) (M_fields : Int32) (M_begins : Nat → Int32) (M_ruleLetters : Nat → Int32) (M_was : Nat → Int32) (M_held : Nat → Int32) (M_sorts : Nat → Int32) (M_size : Nat → Int32) (M_items : Nat → Int32) (s_kind : Nat → Int32) (s_figure : Nat → Int32) (M_kindOn : Nat → Int32) (M_figureOn : Nat → Int32) (hf : 1000 < fuel) (hr : okT r) (hc : cR r d_guests d_kinds d_figures d_minutes d_settings d_hooks d_letters d_letterCount) (hm : mR r M_guests M_kind M_figure M_told M_heaps M_holds M_back M_mistakes M_hooks M_letters M_rule) (hs : cSH s_holds s_kind s_figure s_sort s_size s_el M_held M_kindOn M_figureOn M_sorts M_size M_items) (hrl : mLet M_ruleLetters) (hbg : mBeg M_begins) : ∃ o p r', fX9_room fuel s_holds s_sort s_size s_el d_guests d_kinds d_figures d_minutes d_settings d_hooks d_letters d_letterCount t_guests t_kinds t_figures t_minutes t_settings t_hooks t_letters t_letterCount p1 = some o ∧ fX10_room fuel M_guests M_kind M_figure M_told M_heaps M_holds M_back M_mistakes M_hooks M_letters M_rule M_at M_well M_sort M_text M_row M_field M_fields M_begins M_ruleLetters M_was M_held M_sorts M_size M_items p1 = some p ∧ o.1 = p.1 ∧ okT r' ∧ cR r' o.2.1 o.2.2.1 o.2.2.2.1 o.2.2.2.2.1 o.2.2.2.2.2.1 o.2.2.2.2.2.2.1 o.2.2.2.2.2.2.2.1 o.2.2.2.2.2.2.2.2.1 ∧ mR r' p.2.1 p.2.2.1 p.2.2.2.1 p.2.2.2.2.1 p.2.2.2.2.2.1 p.2.2.2.2.2.2.1 p.2.2.2.2.2.2.2.1 p.2.2.2.2.2.2.2.2.1 p.2.2.2.2.2.2.2.2.2.1 p.2.2.2.2.2.2.2.2.2.2.1 p.2.2.2.2.2.2.2.2.2.2.2.1 := by
  have e0 : (0 : Int32) = nI 0 := rfl
  have e2 : (2 : Int32) = nI 2 := rfl
  unfold fX9_room fX10_room fX9_refusalOfBytes fX10_room_J28
  rw [e0, e2]
  rcases shcase (fuel := fuel) p1 with ⟨d, hd, rfl, a1, a2⟩ | ⟨a1, a2⟩
  · have hz : zin (nI d) 8 = true := by rw [zin_nI (by omega)]; exact decide_eq_true hd
    have hcl : (nI d).toNatClampNeg = d := nI_clamp (by omega)
    obtain ⟨h, h2, h3, h4, h5, h6⟩ := hs d hd
    rw [a2, sX9_refusalOf hd h3 h2 (by omega) a1, zbs, zbs, if_neg z10, hz, hcl, h4]
    simp only [zgt]
    rcases (show h = 0 ∨ h = 1 ∨ h = 2 by omega) with rfl | rfl | rfl
    · exact ⟨_, _, r, rfl, rfl, rfl, hr, hc, hm⟩
    · exact ⟨_, _, r, rfl, rfl, rfl, hr, hc, hm⟩
    · obtain ⟨s, n, k1, k2, k3, k4, k5, k6, k7⟩ := h6 rfl
      rw [if_neg (show ¬ 2 = 0 by omega), if_pos (show 2 = 2 from rfl), if_pos z00, if_pos (show nI 2 = nI 2 from rfl), k3, k4]
      by_cases qs : s = 0
      · subst qs
        rw [if_pos z00, if_pos z00, zbs, if_pos z00, zl, k6]
        have ht := txS_ok (fuel := fuel) (n := n) (d := d) (sz := s_size) (el := s_el) (by omega) hd k2 k5 hbg hrl k7
        generalize hsg : (fun a => if n ≤ a then zAw else s_el d a) = sg at ht
        have hba : fX6_brokenAt fuel s_size s_el d = some (enc (tbS sg n 102 0 0).1) := by
          unfold fX6_brokenAt
          exact sX6_brokenAt_L4 (by omega) ht 102 fuel 0 0 0 (Nat.zero_le _) (Nat.zero_le _) (by omega) (by omega) (Or.inl rfl)
        rw [hba, zbs]
        unfold fX10_read
        obtain ⟨we, s2, f2, c2, a3, x1, x2, x3⟩ := sX10_read_L7 (n := n) (d := d) (sg := sg) fuel (nI n) (nI d) M_begins M_ruleLetters M_items (by omega) ht rfl rfl 102 fuel 0 0 M_guests M_kind M_figure M_told M_heaps M_holds M_back M_mistakes M_hooks M_letters M_rule 0 M_well M_sort M_field M_fields M_was (Nat.zero_le _) (by omega) (by omega) rfl
        rw [e0] at x1 ⊢
        rw [x1]
        unfold fX10_read_J32
        rw [e0]
        cases hq : (tbS sg n 102 0 0).1 with
        | some i =>
          obtain ⟨y1, y2⟩ := x2 i hq
          have hi := tbS_lt k2 102 0 0 i (Nat.zero_le _) hq
          rw [encz.2, if_neg (fun h => by have := (nI_ltI (by omega) (by decide)).mp h; omega), if_pos y1, zbs, y2]
          exact ⟨_, _, r, rfl, rfl, rfl, hr, hc, hm⟩
        | none =>
          have y1 := x3 hq
          have hlt : enc none < nI 0 := by decide
          have hwe : ¬ we = nI 0 := by rw [y1]; exact z10
          rw [if_pos hlt, if_neg hwe]
          obtain ⟨cp, cp1, cp2⟩ := sX5_copyFrom hr.1 hc fuel t_guests t_kinds t_figures t_minutes t_settings t_hooks t_letters t_letterCount
          obtain ⟨was, w1, w2⟩ := sX10_keepAll_was (r := r) fuel M_guests M_kind M_figure M_told M_heaps M_holds M_back M_mistakes M_hooks M_letters M_rule M_was (by omega) hr.1 hm
          rw [cp1, zbs, w1, zbs]
          unfold fX6_senselessAt
          obtain ⟨o, q, o1, q1, hoq⟩ := u_room_L (r0 := r) (n := n) (sg := sg) fuel s_size s_el d (nI n) (nI d) M_begins M_ruleLetters M_items (by omega) hr ht rfl rfl 102 fuel 0 0 0 r cp.1 cp.2.1 cp.2.2.1 cp.2.2.2.1 cp.2.2.2.2.1 cp.2.2.2.2.2.1 cp.2.2.2.2.2.2.1 cp.2.2.2.2.2.2.2 (nI (tbS sg n 102 0 0).2) M_guests M_kind M_figure M_told M_heaps M_holds M_back M_mistakes M_hooks M_letters M_rule (nI 0) we s2 f2 c2 was (Nat.zero_le _) (Nat.zero_le _) (by omega) (by omega) (fun _ => hq) hr cp2 hm rfl w2
          rw [e0, o1, zbs, q1, zbs]
          rcases hoq with ⟨i, i1, i2, i3, i4⟩ | ⟨i1, i2, r', i3, i4, i5⟩
          · rw [if_neg (show ¬ o.1 < nI 0 by rw [i1]; exact fun h => by have := (nI_ltI (by omega) (by decide)).mp h; omega)]
            exact ⟨_, _, r, rfl, rfl, by show (-2000) - o.1 = q.1; rw [i1, i3], hr, hc, i4⟩
          · have hlt2 : o.1 < nI 0 := by rw [i1]; decide
            rw [if_pos hlt2]
            obtain ⟨cq, cq1, cq2⟩ := sX5_copyFrom i3.1 i4 fuel d_guests d_kinds d_figures d_minutes d_settings d_hooks d_letters d_letterCount
            have hst := sX6_statementsIn (fuel := fuel) (by omega) ht
            have hcn := tbS_cn ht.2.2.2.1 102 0 0 (Nat.zero_le _) (by omega) hq
            rw [Nat.zero_add, Nat.sub_zero] at hcn
            rw [cq1, zbs, hst, zbs]
            exact ⟨_, _, r', rfl, rfl, by show nI (cn59 sg 0 n) = q.1; rw [i2, hcn], i3, cq2, i5⟩
      · have hn0 : ¬ nI s = nI 0 := fun q => qs ((nI_eq (by omega) (by decide)).mp q)
        rw [if_neg hn0, if_neg hn0, zbs, if_neg m12, if_neg (show ¬ nI 2 = nI 0 by decide)]
        exact ⟨_, _, r, rfl, rfl, rfl, hr, hc, hm⟩
  · unfold fX9_refusalOf
    rw [a1, a2, zbs, zbs, e0, if_pos z00, if_pos z00, zbs, if_neg (show ¬ (-1 : Int32) = nI 0 by decide), zbs, if_neg (show ¬ (-1 : Int32) = nI 0 by decide)]
    exact ⟨_, _, r, rfl, rfl, rfl, hr, hc, hm⟩
