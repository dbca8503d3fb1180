/-! The next order; all orders of a few, as digits. -/
def pm0 : List Nat := [0]
def pm1 : List Nat := [0]
def pm2 : List Nat := [1, 10]
def pm3 : List Nat := [12, 21, 102, 120, 201, 210]
def pm4 : List Nat := [123, 132, 213, 231, 312, 321, 1023, 1032, 1203, 1230, 1302, 1320, 2013, 2031, 2103, 2130, 2301, 2310, 3012, 3021, 3102, 3120, 3201, 3210]
def pm5 : List Nat := [1234, 1243, 1324, 1342, 1423, 1432, 2134, 2143, 2314, 2341, 2413, 2431, 3124, 3142, 3214, 3241, 3412, 3421, 4123, 4132, 4213, 4231, 4312, 4321, 10234, 10243, 10324, 10342, 10423, 10432, 12034, 12043, 12304, 12340, 12403, 12430, 13024, 13042, 13204, 13240, 13402, 13420, 14023, 14032, 14203, 14230, 14302, 14320, 20134, 20143, 20314, 20341, 20413, 20431, 21034, 21043, 21304, 21340, 21403, 21430, 23014, 23041, 23104, 23140, 23401, 23410, 24013, 24031, 24103, 24130, 24301, 24310, 30124, 30142, 30214, 30241, 30412, 30421, 31024, 31042, 31204, 31240, 31402, 31420, 32014, 32041, 32104, 32140, 32401, 32410, 34012, 34021, 34102, 34120, 34201, 34210, 40123, 40132, 40213, 40231, 40312, 40321, 41023, 41032, 41203, 41230, 41302, 41320, 42013, 42031, 42103, 42130, 42301, 42310, 43012, 43021, 43102, 43120, 43201, 43210]
def pm6 : List Nat := [12345, 12354, 12435, 12453, 12534, 12543, 13245, 13254, 13425, 13452, 13524, 13542, 14235, 14253, 14325, 14352, 14523, 14532, 15234, 15243, 15324, 15342, 15423, 15432, 21345, 21354, 21435, 21453, 21534, 21543, 23145, 23154, 23415, 23451, 23514, 23541, 24135, 24153, 24315, 24351, 24513, 24531, 25134, 25143, 25314, 25341, 25413, 25431, 31245, 31254, 31425, 31452, 31524, 31542, 32145, 32154, 32415, 32451, 32514, 32541, 34125, 34152, 34215, 34251, 34512, 34521, 35124, 35142, 35214, 35241, 35412, 35421, 41235, 41253, 41325, 41352, 41523, 41532, 42135, 42153, 42315, 42351, 42513, 42531, 43125, 43152, 43215, 43251, 43512, 43521, 45123, 45132, 45213, 45231, 45312, 45321, 51234, 51243, 51324, 51342, 51423, 51432, 52134, 52143, 52314, 52341, 52413, 52431, 53124, 53142, 53214, 53241, 53412, 53421, 54123, 54132, 54213, 54231, 54312, 54321, 102345, 102354, 102435, 102453, 102534, 102543, 103245, 103254, 103425, 103452, 103524, 103542, 104235, 104253, 104325, 104352, 104523, 104532, 105234, 105243, 105324, 105342, 105423, 105432, 120345, 120354, 120435, 120453, 120534, 120543, 123045, 123054, 123405, 123450, 123504, 123540, 124035, 124053, 124305, 124350, 124503, 124530, 125034, 125043, 125304, 125340, 125403, 125430, 130245, 130254, 130425, 130452, 130524, 130542, 132045, 132054, 132405, 132450, 132504, 132540, 134025, 134052, 134205, 134250, 134502, 134520, 135024, 135042, 135204, 135240, 135402, 135420, 140235, 140253, 140325, 140352, 140523, 140532, 142035, 142053, 142305, 142350, 142503, 142530, 143025, 143052, 143205, 143250, 143502, 143520, 145023, 145032, 145203, 145230, 145302, 145320, 150234, 150243, 150324, 150342, 150423, 150432, 152034, 152043, 152304, 152340, 152403, 152430, 153024, 153042, 153204, 153240, 153402, 153420, 154023, 154032, 154203, 154230, 154302, 154320, 201345, 201354, 201435, 201453, 201534, 201543, 203145, 203154, 203415, 203451, 203514, 203541, 204135, 204153, 204315, 204351, 204513, 204531, 205134, 205143, 205314, 205341, 205413, 205431, 210345, 210354, 210435, 210453, 210534, 210543, 213045, 213054, 213405, 213450, 213504, 213540, 214035, 214053, 214305, 214350, 214503, 214530, 215034, 215043, 215304, 215340, 215403, 215430, 230145, 230154, 230415, 230451, 230514, 230541, 231045, 231054, 231405, 231450, 231504, 231540, 234015, 234051, 234105, 234150, 234501, 234510, 235014, 235041, 235104, 235140, 235401, 235410, 240135, 240153, 240315, 240351, 240513, 240531, 241035, 241053, 241305, 241350, 241503, 241530, 243015, 243051, 243105, 243150, 243501, 243510, 245013, 245031, 245103, 245130, 245301, 245310, 250134, 250143, 250314, 250341, 250413, 250431, 251034, 251043, 251304, 251340, 251403, 251430, 253014, 253041, 253104, 253140, 253401, 253410, 254013, 254031, 254103, 254130, 254301, 254310, 301245, 301254, 301425, 301452, 301524, 301542, 302145, 302154, 302415, 302451, 302514, 302541, 304125, 304152, 304215, 304251, 304512, 304521, 305124, 305142, 305214, 305241, 305412, 305421, 310245, 310254, 310425, 310452, 310524, 310542, 312045, 312054, 312405, 312450, 312504, 312540, 314025, 314052, 314205, 314250, 314502, 314520, 315024, 315042, 315204, 315240, 315402, 315420, 320145, 320154, 320415, 320451, 320514, 320541, 321045, 321054, 321405, 321450, 321504, 321540, 324015, 324051, 324105, 324150, 324501, 324510, 325014, 325041, 325104, 325140, 325401, 325410, 340125, 340152, 340215, 340251, 340512, 340521, 341025, 341052, 341205, 341250, 341502, 341520, 342015, 342051, 342105, 342150, 342501, 342510, 345012, 345021, 345102, 345120, 345201, 345210, 350124, 350142, 350214, 350241, 350412, 350421, 351024, 351042, 351204, 351240, 351402, 351420, 352014, 352041, 352104, 352140, 352401, 352410, 354012, 354021, 354102, 354120, 354201, 354210, 401235, 401253, 401325, 401352, 401523, 401532, 402135, 402153, 402315, 402351, 402513, 402531, 403125, 403152, 403215, 403251, 403512, 403521, 405123, 405132, 405213, 405231, 405312, 405321, 410235, 410253, 410325, 410352, 410523, 410532, 412035, 412053, 412305, 412350, 412503, 412530, 413025, 413052, 413205, 413250, 413502, 413520, 415023, 415032, 415203, 415230, 415302, 415320, 420135, 420153, 420315, 420351, 420513, 420531, 421035, 421053, 421305, 421350, 421503, 421530, 423015, 423051, 423105, 423150, 423501, 423510, 425013, 425031, 425103, 425130, 425301, 425310, 430125, 430152, 430215, 430251, 430512, 430521, 431025, 431052, 431205, 431250, 431502, 431520, 432015, 432051, 432105, 432150, 432501, 432510, 435012, 435021, 435102, 435120, 435201, 435210, 450123, 450132, 450213, 450231, 450312, 450321, 451023, 451032, 451203, 451230, 451302, 451320, 452013, 452031, 452103, 452130, 452301, 452310, 453012, 453021, 453102, 453120, 453201, 453210, 501234, 501243, 501324, 501342, 501423, 501432, 502134, 502143, 502314, 502341, 502413, 502431, 503124, 503142, 503214, 503241, 503412, 503421, 504123, 504132, 504213, 504231, 504312, 504321, 510234, 510243, 510324, 510342, 510423, 510432, 512034, 512043, 512304, 512340, 512403, 512430, 513024, 513042, 513204, 513240, 513402, 513420, 514023, 514032, 514203, 514230, 514302, 514320, 520134, 520143, 520314, 520341, 520413, 520431, 521034, 521043, 521304, 521340, 521403, 521430, 523014, 523041, 523104, 523140, 523401, 523410, 524013, 524031, 524103, 524130, 524301, 524310, 530124, 530142, 530214, 530241, 530412, 530421, 531024, 531042, 531204, 531240, 531402, 531420, 532014, 532041, 532104, 532140, 532401, 532410, 534012, 534021, 534102, 534120, 534201, 534210, 540123, 540132, 540213, 540231, 540312, 540321, 541023, 541032, 541203, 541230, 541302, 541320, 542013, 542031, 542103, 542130, 542301, 542310, 543012, 543021, 543102, 543120, 543201, 543210]
def pmL (N : Nat) : List Nat := match N with | 0 => pm0 | 1 => pm1 | 2 => pm2 | 3 => pm3 | 4 => pm4 | 5 => pm5 | _ => pm6
def fD (N w : Nat) : Nat → Nat := fun i => w / 10 ^ (N - 1 - i) % 10
def ordD (N w : Nat) : List Nat := (List.range N).map (fD N w)
/-- the place where the order rises, from behind -/
def riS (f : Nat → Nat) : Nat → Option Nat
  | 0 => none
  | k + 1 => if f k ≤ f (k + 1) then some k else riS f k
def grS (f : Nat → Nat) (k : Nat) : Nat → Nat
  | 0 => k + 1
  | m + 1 => if f k ≤ f (k + 1 + (m + 1)) then k + 1 + (m + 1) else grS f k m
def swS (f : Nat → Nat) (i j : Nat) : Nat → Nat := fun x => if x = j then f i else if x = i then f j else f x
def rvS : Nat → (Nat → Nat) → Nat → Nat → (Nat → Nat)
  | 0, f, _, _ => f
  | m + 1, f, lo, hi => if hi ≤ lo then f else rvS m (swS f lo hi) (lo + 1) (hi - 1)
def nxF (N : Nat) (f : Nat → Nat) : Option (Nat → Nat) := match riS f (N - 1) with
  | none => none
  | some k => some (rvS 10 (swS f k (grS f k (N - 1 - (k + 1)))) (k + 1) (N - 1))
def nxD (N w : Nat) : Option (List Nat) := (nxF N (fD N w)).map fun g => (List.range N).map g
/-- one behind the other -/
def ckL (N : Nat) : List Nat → Bool
  | [] => true
  | [w] => decide (nxD N w = none)
  | w :: v :: t => decide (nxD N w = some (ordD N v)) && ckL N (v :: t)
theorem pm_ck : ∀ N, N ≤ 6 → ckL N (pmL N) = true := by decide +kernel
theorem pm_ok : ∀ N, N ≤ 6 → ∀ w ∈ pmL N, (ordD N w).Nodup ∧ (∀ x, x < N → x ∈ ordD N w) ∧ (∀ x ∈ ordD N w, x < N) ∧ dgS (ordD N w) = w ∧ w < 1000000 := by decide +kernel
theorem pm_hd : ∀ N, N ≤ 6 → ∃ t, pmL N = dgS (List.range N) :: t ∧ ordD N (dgS (List.range N)) = List.range N := by
  intro N hN
  rcases (show N = 0 ∨ N = 1 ∨ N = 2 ∨ N = 3 ∨ N = 4 ∨ N = 5 ∨ N = 6 by omega) with rfl | rfl | rfl | rfl | rfl | rfl | rfl
  all_goals exact ⟨_, rfl, by decide⟩
theorem ordD_len (N w : Nat) : (ordD N w).length = N := by simp [ordD]
theorem ordD_cM {N w : Nat} {row : Nat → Int32} (h : arr row (ordD N w)) : cM row (fD N w) N := fun i hi => by
  refine ⟨h i (fD N w i) ?_, ?_⟩
  · unfold ordD
    rw [List.getElem?_map, List.getElem?_range hi]
    rfl
  · have : fD N w i < 10 := Nat.mod_lt _ (by decide)
    omega
theorem cM_arr {N : Nat} {g : Nat → Nat} {row : Nat → Int32} (h : cM row g N) : arr row ((List.range N).map g) := fun i x hx => by
  have hi : i < N := by have := (List.getElem?_eq_some_iff.mp hx).1; simpa using this
  rw [List.getElem?_map, List.getElem?_range hi] at hx
  cases hx
  exact (h i hi).1
theorem riS_some {f : Nat → Nat} : ∀ {n k : Nat}, riS f n = some k → k + 1 ≤ n ∧ f k ≤ f (k + 1)
  | 0, k, h => by simp [riS] at h
  | n + 1, k, h => by
    rw [riS] at h
    split at h
    · rename_i q; cases h; exact ⟨Nat.le_refl _, q⟩
    · have := riS_some h; exact ⟨by omega, this.2⟩
theorem grS_le {f : Nat → Nat} {k : Nat} : ∀ m, k + 1 ≤ grS f k m ∧ grS f k m ≤ k + 1 + m
  | 0 => ⟨Nat.le_refl _, Nat.le_refl _⟩
  | m + 1 => by
    rw [grS]
    split
    · omega
    · have := grS_le (f := f) (k := k) m; omega
theorem cM_sw {N i j : Nat} {f : Nat → Nat} {row : Nat → Int32} (h : cM row f N) (hi : i < N) (hj : j < N) : cM (upd (upd row i (row j)) j (row i)) (swS f i j) N := fun x hx => by
  unfold upd swS
  by_cases q1 : x = j
  · simp only [q1, if_true]; exact h i hi
  · simp only [q1, if_false]
    by_cases q2 : x = i
    · simp only [q2, if_true]; exact h j hj
    · simp only [q2, if_false]; exact h x hx
def encI (o : Option Nat) : Int32 := match o with | none => zAw | some j => nI j
theorem sX4_swap {fuel i j : Nat} {row : Nat → Int32} (hi : i < 10) (hj : j < 10) : fX4_swap fuel row (nI i) (nI j) = some (upd (upd row i (row j)) j (row i)) := by
  unfold fX4_swap
  simp (disch := omega) only [zlit, zz, if_pos, if_neg, if_true, if_false, zgd', zl, zbs, zbz, encz]
theorem sX4_next_L70 {fuel N : Nat} (hN : N ≤ 10) : ∀ (m n lo hi : Nat) (f : Nat → Nat) (row : Nat → Int32), hi ≤ lo + m → m < n → hi < N → lo ≤ N → cM row f N → ∃ r2, fX4_next_L70 fuel n (nI lo) (nI hi) row = some r2 ∧ cM r2 (rvS m f lo hi) N := by
  intro m
  induction m with
  | zero =>
    intro n lo hi f row h1 h2 h3 h4 h5
    obtain ⟨n, rfl⟩ : ∃ k, n = k + 1 := ⟨n - 1, by omega⟩
    rw [fX4_next_L70]
    simp (disch := omega) only [zlit, zz, if_pos, if_neg, if_true, if_false, zgd', zl, zbs, zbz, encz]
    exact ⟨_, rfl, h5⟩
  | succ m ih =>
    intro n lo hi f row h1 h2 h3 h4 h5
    obtain ⟨n, rfl⟩ : ∃ k, n = k + 1 := ⟨n - 1, by omega⟩
    rw [fX4_next_L70, rvS]
    by_cases q : hi ≤ lo
    · rw [if_pos q, if_pos ((nI_leI (by omega) (by omega)).mpr q)]
      exact ⟨_, rfl, h5⟩
    · rw [if_neg q, if_neg (fun h => q ((nI_leI (by omega) (by omega)).mp h)), sX4_swap (by omega) (by omega)]
      simp (disch := omega) only [zlit, zz, if_pos, if_neg, if_true, if_false, zgd', zl, zbs, zbz, encz]
      exact ih n (lo + 1) (hi - 1) _ _ (by omega) (by omega) (by omega) (by omega) (cM_sw h5 (by omega) (by omega))
theorem sX4_next_L34 {fuel N k : Nat} {f : Nat → Nat} {row : Nat → Int32} (hN : N ≤ 10) (hc : cM row f N) (hk : f k ≤ f (k + 1)) :
    ∀ (m n : Nat), k + 1 + m < N → m < n → fX4_next_L34 fuel (nI N) n (nI k) (nI (k + 1 + m)) row = fX4_next_J54 fuel (nI N) (nI k) (nI (grS f k m)) row := by
  intro m
  induction m with
  | zero =>
    intro n h1 h2
    obtain ⟨n, rfl⟩ : ∃ k, n = k + 1 := ⟨n - 1, by omega⟩
    have c1 := hc k (by omega)
    have c2 := hc (k + 1) (by omega)
    rw [fX4_next_L34, Nat.add_zero, grS]
    simp (disch := omega) only [zlit, zz, if_pos, if_neg, if_true, if_false, zgd', zl, zbs, zbz, encz, c1.1, c2.1]
  | succ m ih =>
    intro n h1 h2
    obtain ⟨n, rfl⟩ : ∃ k, n = k + 1 := ⟨n - 1, by omega⟩
    have c1 := hc k (by omega)
    have c2 := hc (k + 1 + (m + 1)) (by omega)
    rw [fX4_next_L34, grS]
    by_cases q : f k ≤ f (k + 1 + (m + 1))
    · rw [if_pos q]
      simp (disch := omega) only [zlit, zz, if_pos, if_neg, if_true, if_false, zgd', zl, zbs, zbz, encz, c1.1, c2.1]
    · rw [if_neg q, ← ih n (by omega) (by omega)]
      simp (disch := omega) only [zlit, zz, if_pos, if_neg, if_true, if_false, zgd', zl, zbs, zbz, encz, c1.1, c2.1]
      rw [show k + 1 + (m + 1) - 1 = k + 1 + m by omega]
theorem sX4_next_L4 {fuel N : Nat} {f : Nat → Nat} {row : Nat → Int32} (hN : N ≤ 10) (hc : cM row f N) :
    ∀ (k n : Nat), k + 1 ≤ N → k < n → fX4_next_L4 fuel (nI N) n (ixm k) row = fX4_next_J25 fuel (nI N) (encI (riS f k)) row := by
  intro k
  induction k with
  | zero =>
    intro n h1 h2
    obtain ⟨n, rfl⟩ : ∃ k, n = k + 1 := ⟨n - 1, by omega⟩
    rw [fX4_next_L4, ixm_0, riS]
    simp (disch := omega) only [zlit, zz, if_pos, if_neg, if_true, if_false, zgd', zl, zbs, zbz, encz]
    rfl
  | succ k ih =>
    intro n h1 h2
    obtain ⟨n, rfl⟩ : ∃ k, n = k + 1 := ⟨n - 1, by omega⟩
    have c1 := hc k (by omega)
    have c2 := hc (k + 1) (by omega)
    rw [fX4_next_L4, ixm_s, riS]
    by_cases q : f k ≤ f (k + 1)
    · rw [if_pos q]
      simp (disch := omega) only [zlit, zz, if_pos, if_neg, if_true, if_false, zgd', zl, zbs, zbz, encz, c1.1, c2.1]
      rfl
    · rw [if_neg q, ← ih n (by omega) (by omega)]
      simp (disch := omega) only [zlit, zz, if_pos, if_neg, if_true, if_false, zgd', zl, zbs, zbz, encz, c1.1, c2.1, ixm_m1]
theorem sX4_next {fuel N : Nat} {f : Nat → Nat} {row : Nat → Int32} (hf : 100 < fuel) (hN : N ≤ 10) (hc : cM row f N) : ∃ r2, fX4_next fuel row (nI N) = some r2 ∧ ∀ g, nxF N f = some g → cM r2 g N := by
  unfold fX4_next
  by_cases q0 : N = 0
  · subst q0
    obtain ⟨fuel, rfl⟩ : ∃ k, fuel = k + 1 := ⟨fuel - 1, by omega⟩
    refine ⟨row, rfl, fun g hg => fun i hi => absurd hi (Nat.not_lt_zero i)⟩
  · have e2 : nI N - 2 = ixm (N - 1) := by
      obtain ⟨M, rfl⟩ : ∃ M, N = M + 1 := ⟨N - 1, by omega⟩
      apply Int32.toInt_inj.mp
      rw [show (2 : Int32) = nI 2 from rfl, pk_sub_toInt (by omega) (by omega), ixm_toInt (by omega)]
      omega
    rw [zl, e2, sX4_next_L4 hN hc (N - 1) fuel (by omega) (by omega)]
    unfold fX4_next_J25 nxF
    cases hr : riS f (N - 1) with
    | none => exact ⟨row, rfl, fun g hg => by cases hg⟩
    | some k =>
      obtain ⟨k1, k2⟩ := riS_some hr
      have e3 : nI N - 1 = nI (k + 1 + (N - 1 - (k + 1))) := by rw [show (1 : Int32) = nI 1 from rfl, nI_sub (by omega)]; congr 1; omega
      have hl := sX4_next_L34 (fuel := fuel) hN hc k2 (N - 1 - (k + 1)) fuel (by omega) (by omega)
      have hg := grS_le (f := f) (k := k) (N - 1 - (k + 1))
      rw [show encI (some k) = nI k from rfl, show (0 : Int32) = nI 0 from rfl, if_pos ((nI_leI (by decide) (by omega)).mpr (Nat.zero_le _)), zl, e3, hl]
      unfold fX4_next_J54
      obtain ⟨r2, x1, x2⟩ := sX4_next_L70 (fuel := fuel) hN 10 fuel (k + 1) (N - 1) (swS f k (grS f k (N - 1 - (k + 1)))) (upd (upd row k (row (grS f k (N - 1 - (k + 1))))) (grS f k (N - 1 - (k + 1))) (row k)) (by omega) (by omega) (by omega) (by omega) (cM_sw hc (by omega) (by omega))
      rw [sX4_swap (by omega) (by omega), zbs, zl, zl, show (1 : Int32) = nI 1 from rfl, nI_add, nI_sub (by omega), x1]
      exact ⟨r2, rfl, fun g hg => by cases hg; exact x2⟩
theorem sX10_swap_going {fuel i j : Nat} {row : Nat → Int32} (hi : i < 10) (hj : j < 10) : fX10_swap_going fuel row (nI i) (nI j) = some (upd (upd row i (row j)) j (row i)) := by
  unfold fX10_swap_going
  simp (disch := omega) only [zlit, zz, if_pos, if_neg, if_true, if_false, zgd', zl, zbs, zbz, encz]
theorem sX10_next_going_L70 {fuel N : Nat} (hN : N ≤ 10) : ∀ (m n lo hi : Nat) (f : Nat → Nat) (row : Nat → Int32), hi ≤ lo + m → m < n → hi < N → lo ≤ N → cM row f N → ∃ r2, fX10_nextOrder_going_L70 fuel n (nI lo) (nI hi) row = some (nI 1, r2) ∧ cM r2 (rvS m f lo hi) N := by
  intro m
  induction m with
  | zero =>
    intro n lo hi f row h1 h2 h3 h4 h5
    obtain ⟨n, rfl⟩ : ∃ k, n = k + 1 := ⟨n - 1, by omega⟩
    rw [fX10_nextOrder_going_L70]
    simp (disch := omega) only [zlit, zz, if_pos, if_neg, if_true, if_false, zgd', zl, zbs, zbz, encz]
    exact ⟨_, rfl, h5⟩
  | succ m ih =>
    intro n lo hi f row h1 h2 h3 h4 h5
    obtain ⟨n, rfl⟩ : ∃ k, n = k + 1 := ⟨n - 1, by omega⟩
    rw [fX10_nextOrder_going_L70, rvS]
    by_cases q : hi ≤ lo
    · rw [if_pos q, if_pos ((nI_leI (by omega) (by omega)).mpr q)]
      exact ⟨_, rfl, h5⟩
    · rw [if_neg q, if_neg (fun h => q ((nI_leI (by omega) (by omega)).mp h)), sX10_swap_going (by omega) (by omega)]
      simp (disch := omega) only [zlit, zz, if_pos, if_neg, if_true, if_false, zgd', zl, zbs, zbz, encz]
      exact ih n (lo + 1) (hi - 1) _ _ (by omega) (by omega) (by omega) (by omega) (cM_sw h5 (by omega) (by omega))
theorem sX10_next_going_L36 {fuel N k : Nat} {f : Nat → Nat} {row : Nat → Int32} (hN : N ≤ 10) (hc : cM row f N) (hk : f k ≤ f (k + 1)) :
    ∀ (m n : Nat), k + 1 + m < N → m < n → fX10_nextOrder_going_L36 fuel (nI N) n (nI k) (nI (k + 1 + m)) row = fX10_nextOrder_going_J52 fuel (nI N) (nI k) (nI (grS f k m)) row := by
  intro m
  induction m with
  | zero =>
    intro n h1 h2
    obtain ⟨n, rfl⟩ : ∃ k, n = k + 1 := ⟨n - 1, by omega⟩
    have c1 := hc k (by omega)
    have c2 := hc (k + 1) (by omega)
    rw [fX10_nextOrder_going_L36, Nat.add_zero, grS]
    simp (disch := omega) only [zlit, zz, if_pos, if_neg, if_true, if_false, zgd', zl, zbs, zbz, encz, c1.1, c2.1]
  | succ m ih =>
    intro n h1 h2
    obtain ⟨n, rfl⟩ : ∃ k, n = k + 1 := ⟨n - 1, by omega⟩
    have c1 := hc k (by omega)
    have c2 := hc (k + 1 + (m + 1)) (by omega)
    rw [fX10_nextOrder_going_L36, grS]
    by_cases q : f k ≤ f (k + 1 + (m + 1))
    · rw [if_pos q]
      simp (disch := omega) only [zlit, zz, if_pos, if_neg, if_true, if_false, zgd', zl, zbs, zbz, encz, c1.1, c2.1]
    · rw [if_neg q, ← ih n (by omega) (by omega)]
      simp (disch := omega) only [zlit, zz, if_pos, if_neg, if_true, if_false, zgd', zl, zbs, zbz, encz, c1.1, c2.1]
      rw [show k + 1 + (m + 1) - 1 = k + 1 + m by omega]
theorem sX10_next_going_L4 {fuel N : Nat} {f : Nat → Nat} {row : Nat → Int32} (hN : N ≤ 10) (hc : cM row f N) :
    ∀ (k n : Nat), k + 1 ≤ N → k < n → fX10_nextOrder_going_L4 fuel (nI N) n (ixm k) row = fX10_nextOrder_going_J25 fuel (nI N) (encI (riS f k)) row := by
  intro k
  induction k with
  | zero =>
    intro n h1 h2
    obtain ⟨n, rfl⟩ : ∃ k, n = k + 1 := ⟨n - 1, by omega⟩
    rw [fX10_nextOrder_going_L4, ixm_0, riS]
    simp (disch := omega) only [zlit, zz, if_pos, if_neg, if_true, if_false, zgd', zl, zbs, zbz, encz]
    rfl
  | succ k ih =>
    intro n h1 h2
    obtain ⟨n, rfl⟩ : ∃ k, n = k + 1 := ⟨n - 1, by omega⟩
    have c1 := hc k (by omega)
    have c2 := hc (k + 1) (by omega)
    rw [fX10_nextOrder_going_L4, ixm_s, riS]
    by_cases q : f k ≤ f (k + 1)
    · rw [if_pos q]
      simp (disch := omega) only [zlit, zz, if_pos, if_neg, if_true, if_false, zgd', zl, zbs, zbz, encz, c1.1, c2.1]
      rfl
    · rw [if_neg q, ← ih n (by omega) (by omega)]
      simp (disch := omega) only [zlit, zz, if_pos, if_neg, if_true, if_false, zgd', zl, zbs, zbz, encz, c1.1, c2.1, ixm_m1]
theorem sX10_next_going {fuel N : Nat} {f : Nat → Nat} {row : Nat → Int32} (hf : 100 < fuel) (hN : N ≤ 10) (hc : cM row f N) : ∃ r2, fX10_nextOrder_going fuel row (nI N) = some (zb01 (nxF N f).isSome, r2) ∧ ∀ g, nxF N f = some g → cM r2 g N := by
  unfold fX10_nextOrder_going
  by_cases q0 : N = 0
  · subst q0
    obtain ⟨fuel, rfl⟩ : ∃ k, fuel = k + 1 := ⟨fuel - 1, by omega⟩
    refine ⟨row, rfl, fun g hg => fun i hi => absurd hi (Nat.not_lt_zero i)⟩
  · have e2 : nI N - 2 = ixm (N - 1) := by
      obtain ⟨M, rfl⟩ : ∃ M, N = M + 1 := ⟨N - 1, by omega⟩
      apply Int32.toInt_inj.mp
      rw [show (2 : Int32) = nI 2 from rfl, pk_sub_toInt (by omega) (by omega), ixm_toInt (by omega)]
      omega
    rw [zl, e2, sX10_next_going_L4 hN hc (N - 1) fuel (by omega) (by omega)]
    unfold fX10_nextOrder_going_J25 nxF
    cases hr : riS f (N - 1) with
    | none => exact ⟨row, rfl, fun g hg => by cases hg⟩
    | some k =>
      obtain ⟨k1, k2⟩ := riS_some hr
      have e3 : nI N - 1 = nI (k + 1 + (N - 1 - (k + 1))) := by rw [show (1 : Int32) = nI 1 from rfl, nI_sub (by omega)]; congr 1; omega
      have hl := sX10_next_going_L36 (fuel := fuel) hN hc k2 (N - 1 - (k + 1)) fuel (by omega) (by omega)
      have hg := grS_le (f := f) (k := k) (N - 1 - (k + 1))
      rw [show encI (some k) = nI k from rfl, show (0 : Int32) = nI 0 from rfl, if_pos ((nI_leI (by decide) (by omega)).mpr (Nat.zero_le _)), zl, e3, hl]
      unfold fX10_nextOrder_going_J52
      obtain ⟨r2, x1, x2⟩ := sX10_next_going_L70 (fuel := fuel) hN 10 fuel (k + 1) (N - 1) (swS f k (grS f k (N - 1 - (k + 1)))) (upd (upd row k (row (grS f k (N - 1 - (k + 1))))) (grS f k (N - 1 - (k + 1))) (row k)) (by omega) (by omega) (by omega) (by omega) (cM_sw hc (by omega) (by omega))
      rw [sX10_swap_going (by omega) (by omega), zbs, zl, zl, show (1 : Int32) = nI 1 from rfl, nI_add, nI_sub (by omega), x1]
      exact ⟨r2, rfl, fun g hg => by cases hg; exact x2⟩
theorem sX10_swap_coming {fuel i j : Nat} {row : Nat → Int32} (hi : i < 10) (hj : j < 10) : fX10_swap_coming fuel row (nI i) (nI j) = some (upd (upd row i (row j)) j (row i)) := by
  unfold fX10_swap_coming
  simp (disch := omega) only [zlit, zz, if_pos, if_neg, if_true, if_false, zgd', zl, zbs, zbz, encz]
theorem sX10_next_coming_L70 {fuel N : Nat} (hN : N ≤ 10) : ∀ (m n lo hi : Nat) (f : Nat → Nat) (row : Nat → Int32), hi ≤ lo + m → m < n → hi < N → lo ≤ N → cM row f N → ∃ r2, fX10_nextOrder_coming_L70 fuel n (nI lo) (nI hi) row = some (nI 1, r2) ∧ cM r2 (rvS m f lo hi) N := by
  intro m
  induction m with
  | zero =>
    intro n lo hi f row h1 h2 h3 h4 h5
    obtain ⟨n, rfl⟩ : ∃ k, n = k + 1 := ⟨n - 1, by omega⟩
    rw [fX10_nextOrder_coming_L70]
    simp (disch := omega) only [zlit, zz, if_pos, if_neg, if_true, if_false, zgd', zl, zbs, zbz, encz]
    exact ⟨_, rfl, h5⟩
  | succ m ih =>
    intro n lo hi f row h1 h2 h3 h4 h5
    obtain ⟨n, rfl⟩ : ∃ k, n = k + 1 := ⟨n - 1, by omega⟩
    rw [fX10_nextOrder_coming_L70, rvS]
    by_cases q : hi ≤ lo
    · rw [if_pos q, if_pos ((nI_leI (by omega) (by omega)).mpr q)]
      exact ⟨_, rfl, h5⟩
    · rw [if_neg q, if_neg (fun h => q ((nI_leI (by omega) (by omega)).mp h)), sX10_swap_coming (by omega) (by omega)]
      simp (disch := omega) only [zlit, zz, if_pos, if_neg, if_true, if_false, zgd', zl, zbs, zbz, encz]
      exact ih n (lo + 1) (hi - 1) _ _ (by omega) (by omega) (by omega) (by omega) (cM_sw h5 (by omega) (by omega))
theorem sX10_next_coming_L36 {fuel N k : Nat} {f : Nat → Nat} {row : Nat → Int32} (hN : N ≤ 10) (hc : cM row f N) (hk : f k ≤ f (k + 1)) :
    ∀ (m n : Nat), k + 1 + m < N → m < n → fX10_nextOrder_coming_L36 fuel (nI N) n (nI k) (nI (k + 1 + m)) row = fX10_nextOrder_coming_J52 fuel (nI N) (nI k) (nI (grS f k m)) row := by
  intro m
  induction m with
  | zero =>
    intro n h1 h2
    obtain ⟨n, rfl⟩ : ∃ k, n = k + 1 := ⟨n - 1, by omega⟩
    have c1 := hc k (by omega)
    have c2 := hc (k + 1) (by omega)
    rw [fX10_nextOrder_coming_L36, Nat.add_zero, grS]
    simp (disch := omega) only [zlit, zz, if_pos, if_neg, if_true, if_false, zgd', zl, zbs, zbz, encz, c1.1, c2.1]
  | succ m ih =>
    intro n h1 h2
    obtain ⟨n, rfl⟩ : ∃ k, n = k + 1 := ⟨n - 1, by omega⟩
    have c1 := hc k (by omega)
    have c2 := hc (k + 1 + (m + 1)) (by omega)
    rw [fX10_nextOrder_coming_L36, grS]
    by_cases q : f k ≤ f (k + 1 + (m + 1))
    · rw [if_pos q]
      simp (disch := omega) only [zlit, zz, if_pos, if_neg, if_true, if_false, zgd', zl, zbs, zbz, encz, c1.1, c2.1]
    · rw [if_neg q, ← ih n (by omega) (by omega)]
      simp (disch := omega) only [zlit, zz, if_pos, if_neg, if_true, if_false, zgd', zl, zbs, zbz, encz, c1.1, c2.1]
      rw [show k + 1 + (m + 1) - 1 = k + 1 + m by omega]
theorem sX10_next_coming_L4 {fuel N : Nat} {f : Nat → Nat} {row : Nat → Int32} (hN : N ≤ 10) (hc : cM row f N) :
    ∀ (k n : Nat), k + 1 ≤ N → k < n → fX10_nextOrder_coming_L4 fuel (nI N) n (ixm k) row = fX10_nextOrder_coming_J25 fuel (nI N) (encI (riS f k)) row := by
  intro k
  induction k with
  | zero =>
    intro n h1 h2
    obtain ⟨n, rfl⟩ : ∃ k, n = k + 1 := ⟨n - 1, by omega⟩
    rw [fX10_nextOrder_coming_L4, ixm_0, riS]
    simp (disch := omega) only [zlit, zz, if_pos, if_neg, if_true, if_false, zgd', zl, zbs, zbz, encz]
    rfl
  | succ k ih =>
    intro n h1 h2
    obtain ⟨n, rfl⟩ : ∃ k, n = k + 1 := ⟨n - 1, by omega⟩
    have c1 := hc k (by omega)
    have c2 := hc (k + 1) (by omega)
    rw [fX10_nextOrder_coming_L4, ixm_s, riS]
    by_cases q : f k ≤ f (k + 1)
    · rw [if_pos q]
      simp (disch := omega) only [zlit, zz, if_pos, if_neg, if_true, if_false, zgd', zl, zbs, zbz, encz, c1.1, c2.1]
      rfl
    · rw [if_neg q, ← ih n (by omega) (by omega)]
      simp (disch := omega) only [zlit, zz, if_pos, if_neg, if_true, if_false, zgd', zl, zbs, zbz, encz, c1.1, c2.1, ixm_m1]
theorem sX10_next_coming {fuel N : Nat} {f : Nat → Nat} {row : Nat → Int32} (hf : 100 < fuel) (hN : N ≤ 10) (hc : cM row f N) : ∃ r2, fX10_nextOrder_coming fuel row (nI N) = some (zb01 (nxF N f).isSome, r2) ∧ ∀ g, nxF N f = some g → cM r2 g N := by
  unfold fX10_nextOrder_coming
  by_cases q0 : N = 0
  · subst q0
    obtain ⟨fuel, rfl⟩ : ∃ k, fuel = k + 1 := ⟨fuel - 1, by omega⟩
    refine ⟨row, rfl, fun g hg => fun i hi => absurd hi (Nat.not_lt_zero i)⟩
  · have e2 : nI N - 2 = ixm (N - 1) := by
      obtain ⟨M, rfl⟩ : ∃ M, N = M + 1 := ⟨N - 1, by omega⟩
      apply Int32.toInt_inj.mp
      rw [show (2 : Int32) = nI 2 from rfl, pk_sub_toInt (by omega) (by omega), ixm_toInt (by omega)]
      omega
    rw [zl, e2, sX10_next_coming_L4 hN hc (N - 1) fuel (by omega) (by omega)]
    unfold fX10_nextOrder_coming_J25 nxF
    cases hr : riS f (N - 1) with
    | none => exact ⟨row, rfl, fun g hg => by cases hg⟩
    | some k =>
      obtain ⟨k1, k2⟩ := riS_some hr
      have e3 : nI N - 1 = nI (k + 1 + (N - 1 - (k + 1))) := by rw [show (1 : Int32) = nI 1 from rfl, nI_sub (by omega)]; congr 1; omega
      have hl := sX10_next_coming_L36 (fuel := fuel) hN hc k2 (N - 1 - (k + 1)) fuel (by omega) (by omega)
      have hg := grS_le (f := f) (k := k) (N - 1 - (k + 1))
      rw [show encI (some k) = nI k from rfl, show (0 : Int32) = nI 0 from rfl, if_pos ((nI_leI (by decide) (by omega)).mpr (Nat.zero_le _)), zl, e3, hl]
      unfold fX10_nextOrder_coming_J52
      obtain ⟨r2, x1, x2⟩ := sX10_next_coming_L70 (fuel := fuel) hN 10 fuel (k + 1) (N - 1) (swS f k (grS f k (N - 1 - (k + 1)))) (upd (upd row k (row (grS f k (N - 1 - (k + 1))))) (grS f k (N - 1 - (k + 1))) (row k)) (by omega) (by omega) (by omega) (by omega) (cM_sw hc (by omega) (by omega))
      rw [sX10_swap_coming (by omega) (by omega), zbs, zl, zl, show (1 : Int32) = nI 1 from rfl, nI_add, nI_sub (by omega), x1]
      exact ⟨r2, rfl, fun g hg => by cases hg; exact x2⟩
