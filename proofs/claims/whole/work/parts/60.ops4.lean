section Ops4
variable {n : Nat} {lk ln : Nat → Nat} {c : Nat} {mr : Nat → Nat} {t kc : Nat} {f g : Hp}
theorem pair_bits9F : ∀ a b x y : Fin 9, decide ((((1 : Int32) <<< (nI x &&& 31)) ||| (1 <<< (nI y &&& 31)) = (1 <<< (nI a &&& 31)) ||| (1 <<< (nI b &&& 31)))) = decide ((x = a ∧ y = b) ∨ (x = b ∧ y = a)) := by decide +kernel
theorem pair_bits9 (a : Nat) (ha : a < 9) (b : Nat) (hb : b < 9) (x : Nat) (hx : x < 9) (y : Nat) (hy : y < 9) : ((((1 : Int32) <<< (nI x &&& 31)) ||| (1 <<< (nI y &&& 31)) = (1 <<< (nI a &&& 31)) ||| (1 <<< (nI b &&& 31))) ↔ ((x = a ∧ y = b) ∨ (x = b ∧ y = a))) := by
  have := pair_bits9F ⟨a, ha⟩ ⟨b, hb⟩ ⟨x, hx⟩ ⟨y, hy⟩
  rw [decide_eq_decide] at this
  simpa [Fin.ext_iff] using this
/-- two items of one letter that quarrel -/
def odA (f : Hp) (i j : Nat) : Bool := decide (f 19 i = f 19 j) && !decide (f 18 i = f 18 j)
/-- the same two sides -/
def odS (f : Hp) (i j : Nat) : Bool := (decide (f 18 i = f 18 j) && decide (f 19 i = f 19 j)) || (decide (f 18 i = f 19 j) && decide (f 19 i = f 18 j))
def odB (f : Hp) (i j : Nat) : Bool := if f 17 i = f 17 j then (if f 17 i = 109 ∨ f 17 i = 121 ∨ f 17 i = 111 then odA f i j else false) else (if (f 17 i = 115 ∧ f 17 j = 117) ∨ (f 17 i = 117 ∧ f 17 j = 115) then odS f i j else false)
theorem c_od44 {i j : Nat} (hi : i < 40) (hj : j < 40) : am_run 8 44 [.ref 16, .int (nI i), .int (nI j), .null, .null, .null] [.int 1] f = some (bi (odA f i j), f) := by
  rw [eX0_areAtOdds_44_16_s1, if_neg one_ne, am_ald_in _ _ _ hi (by decide), am_ald_in _ _ _ hj (by decide), am_ald_in _ _ _ hi (by decide), am_ald_in _ _ _ hj (by decide), am_z0, am_z1]
  unfold odA
  by_cases e1 : f 19 i = f 19 j
  · rw [if_pos e1, decide_eq_true e1]
    by_cases e2 : f 18 i = f 18 j
    · rw [if_pos e2, decide_eq_true e2]; rfl
    · rw [if_neg e2, decide_eq_false e2]; rfl
  · rw [if_neg e1, decide_eq_false e1]; rfl
theorem c_pair {i j : Nat} (hi : i < 40) (hj : j < 40) (vi : vIt (f 17 i) (f 18 i) (f 19 i)) (vj : vIt (f 17 j) (f 18 j) (f 19 j)) (li : f 17 i = 115 ∨ f 17 i = 117) (lj : f 17 j = 115 ∨ f 17 j = 117) : (am_cal (am_call 9 [.ref 16, .int (nI i)] f) fun x3 g3 => am_cal (am_call 9 [.ref 16, .int (nI j)] g3) fun x4 g4 => if x3 = x4 then am_z 1 (some (1, g4)) else am_z 0 (some (0, g4))) = some (bi (odS f i j), f) := by
  obtain ⟨a, b, a1, b1, -, -, -, ab⟩ := vi
  obtain ⟨x, y, x1, y1, -, -, -, xy⟩ := vj
  obtain ⟨a9, b9⟩ := ab li
  obtain ⟨x9, y9⟩ := xy lj
  rw [c_pairOf hi, am_cal_some, c_pairOf hj, am_cal_some, am_z0, am_z1]
  unfold odS
  rw [a1, b1, x1, y1]
  have e := pair_bits9 x x9 y y9 a a9 b b9
  have d1 : (nI a = nI x) = (a = x) := propext (nI_eq (by omega) (by omega))
  have d2 : (nI b = nI y) = (b = y) := propext (nI_eq (by omega) (by omega))
  have d3 : (nI a = nI y) = (a = y) := propext (nI_eq (by omega) (by omega))
  have d4 : (nI b = nI x) = (b = x) := propext (nI_eq (by omega) (by omega))
  simp only [e, d1, d2, d3, d4]
  by_cases h1 : (a = x ∧ b = y) ∨ (a = y ∧ b = x)
  · rw [if_pos h1]
    have : (decide (a = x) && decide (b = y) || decide (a = y) && decide (b = x)) = true := by simpa using h1
    rw [this]; rfl
  · rw [if_neg h1]
    have : (decide (a = x) && decide (b = y) || decide (a = y) && decide (b = x)) = false := by
      rw [← Bool.not_eq_true]
      intro z
      exact h1 (by simpa using z)
    rw [this]; rfl
theorem c_od (h : Iv n lk ln c mr t kc f) {i j : Nat} (hi : i < c) (hj : j < c) : am_call 8 [.ref 16, .int (nI i), .int (nI j)] f = some (bi (odB f i j), f) := by
  have h40 := h.c40
  have pp := c_pair (f := f) (show i < 40 by omega) (show j < 40 by omega) (h.it i hi).2.2.2 (h.it j hj).2.2.2
  have p44 := c_od44 (f := f) (show i < 40 by omega) (show j < 40 by omega)
  rw [eX0_areAtOdds_16, am_ald_in _ _ _ (show i < 40 by omega) (by decide), am_ald_in _ _ _ (show j < 40 by omega) (by decide)]
  unfold odB
  by_cases e : f 17 i = f 17 j
  · rw [if_pos e, if_pos e]
    by_cases e1 : f 17 i = 109
    · rw [if_pos e1, if_pos (Or.inl e1), p44]
    rw [if_neg e1]
    by_cases e2 : f 17 i = 121
    · rw [if_pos e2, if_pos (Or.inr (Or.inl e2)), p44]
    rw [if_neg e2]
    by_cases e3 : f 17 i = 111
    · rw [if_pos e3, if_pos (Or.inr (Or.inr e3)), p44]
    rw [if_neg e3, if_neg (fun z => by rcases z with z | z | z <;> contradiction), eX0_areAtOdds_44_16_s1, if_pos rfl, am_z0]; rfl
  · rw [if_neg e, if_neg e]
    by_cases e1 : f 17 i = 115
    · rw [if_pos e1]
      by_cases e2 : f 17 j = 117
      · rw [if_pos e2, if_neg (by decide), if_pos (Or.inl ⟨e1, e2⟩), pp (Or.inl e1) (Or.inr e2)]
      · rw [if_neg e2, eX0_areAtOdds_100_16, if_neg (show ¬ f 17 i = 117 from fun z => by rw [e1] at z; exact absurd z (by decide)), if_pos rfl, am_z0, if_neg (fun z => by
          rcases z with z | z
          · exact e2 z.2
          · rw [e1] at z; exact absurd z.1 (by decide))]; rfl
    · rw [if_neg e1, eX0_areAtOdds_100_16]
      by_cases e2 : f 17 i = 117
      · rw [if_pos e2]
        by_cases e3 : f 17 j = 115
        · rw [if_pos e3, if_neg (by decide), if_pos (Or.inr ⟨e2, e3⟩), pp (Or.inr e2) (Or.inl e3)]
        · rw [if_neg e3, if_pos rfl, am_z0, if_neg (fun z => by
            rcases z with z | z
            · exact e1 z.1
            · exact e3 z.2)]; rfl
      · rw [if_neg e2, if_pos rfl, am_z0, if_neg (fun z => by
          rcases z with z | z
          · exact e1 z.1
          · exact e2 z.1)]; rfl
theorem m_od153 (f : Hp) (a b x y : Int32) : am_run 145 153 [.null, .null, .null, .null, .null, .int a, .int b, .int x, .int y] [] f = some (bi ((decide (a = x) && decide (b = y)) || (decide (a = y) && decide (b = x))), f) := by
  rw [eX9_quarrels_153]
  simp only [am_z0, am_z1]
  by_cases e1 : a = x <;> by_cases e2 : b = y <;> by_cases e3 : a = y <;> by_cases e4 : b = x <;> simp [e1, e2, e3, e4, bi] <;> split <;> rfl
theorem m_od (h : Iv n lk ln c mr t kc f) {i j : Nat} (hi : i < c) (hj : j < c) : am_call 145 [.ref 50, .int (nI i), .int (nI j)] f = some (bi (odB f i j), f) := by
  have h40 := h.c40
  obtain ⟨i1, i2, i3, -⟩ := h.it i hi
  obtain ⟨j1, j2, j3, -⟩ := h.it j hj
  have q153 := m_od153 f (f 18 i) (f 19 i) (f 18 j) (f 19 j)
  rw [eX9_quarrels_50, nI_0l, nI_0l, nI_1l, nI_1l, nI_2l, nI_2l, am_ald_in _ _ _ (show 150 + 3 * i < 300 by omega) (by decide), am_ald_in _ _ _ (show 150 + 3 * j < 300 by omega) (by decide), am_ald_in _ _ _ (show 151 + 3 * i < 300 by omega) (by decide), am_ald_in _ _ _ (show 152 + 3 * i < 300 by omega) (by decide), am_ald_in _ _ _ (show 151 + 3 * j < 300 by omega) (by decide), am_ald_in _ _ _ (show 152 + 3 * j < 300 by omega) (by decide), i1, i2, i3, j1, j2, j3, q153, am_z0, am_z1]
  unfold odB
  by_cases e : f 17 i = f 17 j
  · rw [if_pos e, if_pos e]
    have hA : (if f 19 i = f 19 j then (if f 18 i = f 18 j then some ((0 : Int32), f) else some (1, f)) else some (0, f)) = some (bi (odA f i j), f) := by
      unfold odA
      by_cases e1 : f 19 i = f 19 j
      · by_cases e2 : f 18 i = f 18 j
        · rw [if_pos e1, if_pos e2, decide_eq_true e1, decide_eq_true e2]; rfl
        · rw [if_pos e1, if_neg e2, decide_eq_true e1, decide_eq_false e2]; rfl
      · rw [if_neg e1, decide_eq_false e1]; rfl
    rw [hA]
    by_cases e1 : f 17 i = 109
    · rw [if_pos e1, if_pos (Or.inl e1)]
    rw [if_neg e1]
    by_cases e2 : f 17 i = 121
    · rw [if_pos e2, if_pos (Or.inr (Or.inl e2))]
    rw [if_neg e2]
    by_cases e3 : f 17 i = 111
    · rw [if_pos e3, if_pos (Or.inr (Or.inr e3))]
    rw [if_neg e3, if_neg (fun z => by rcases z with z | z | z <;> contradiction)]; rfl
  · rw [if_neg e, if_neg e]
    by_cases e1 : f 17 i = 115
    · have e2 : ¬ f 17 i = 117 := fun z => by rw [e1] at z; exact absurd z (by decide)
      rw [if_pos e1, if_neg e2]
      by_cases e3 : f 17 j = 117
      · rw [if_pos e3, if_pos (Or.inl ⟨e1, e3⟩)]; rfl
      · rw [if_neg e3, if_neg (fun z => by
          rcases z with z | z
          · exact e3 z.2
          · exact e2 z.1)]; rfl
    · rw [if_neg e1]
      by_cases e2 : f 17 i = 117
      · rw [if_pos e2]
        by_cases e3 : f 17 j = 115
        · rw [if_pos e3, if_pos (Or.inr ⟨e2, e3⟩)]; rfl
        · rw [if_neg e3, if_neg (fun z => by
            rcases z with z | z
            · exact e1 z.1
            · exact e3 z.2)]; rfl
      · rw [if_neg e2, if_neg (fun z => by
          rcases z with z | z
          · exact e1 z.1
          · exact e2 z.1)]; rfl
theorem qr_in (h : Iv n lk ln c mr t kc f) {i : Nat} (hi : i < c) (ho : ∃ r, am_run 79 2 [.ref 1, .int (nI (i + 1)), .null] [] f = some (r, f) ∧ am_run 146 2 [.ref 50, .int (nI (i + 1)), .null] [] f = some (r, f)) : ∀ d j, j + d = c → ∃ r, am_run 79 17 [.ref 1, .int (nI i), .int (nI j)] [] f = some (r, f) ∧ am_run 146 16 [.ref 50, .int (nI i), .int (nI j)] [] f = some (r, f) := by
  have h40 := h.c40
  intro d
  induction d with
  | zero =>
    intro j hj
    have : j = c := by omega
    subst this
    rw [eX8_quarrel_17_1, h.c3, if_neg (nI_nlt (Nat.le_refl _) (by omega)), eX9_quarrel_16_50, ald_1 _ _ _ (by decide) (by decide), h.c1, if_neg (nI_nlt (Nat.le_refl _) (by omega)), nI_1]
    exact ho
  | succ d ih =>
    intro j hj
    rw [eX8_quarrel_17_1, h.c3, if_pos (nI_lt (by omega) (by omega)), eX9_quarrel_16_50, ald_1 _ _ _ (by decide) (by decide), h.c1, if_pos (nI_lt (by omega) (by omega)), c_od h hi (by omega), m_od h hi (by omega), am_cal_some, am_cal_some, nI_1]
    cases odB f i j with
    | false =>
      rw [bi_f, if_pos rfl, if_pos rfl]
      exact ih (j + 1) (by omega)
    | true =>
      rw [bi_t, if_neg one_ne, if_neg one_ne]
      exact ⟨_, rfl, rfl⟩
theorem qr_out (h : Iv n lk ln c mr t kc f) : ∀ d i, i + d = c → ∃ r, am_run 79 2 [.ref 1, .int (nI i), .null] [] f = some (r, f) ∧ am_run 146 2 [.ref 50, .int (nI i), .null] [] f = some (r, f) := by
  have h40 := h.c40
  intro d
  induction d with
  | zero =>
    intro i hi
    have : i = c := by omega
    subst this
    rw [eX8_quarrel_2_1, h.c3, if_neg (nI_nlt (Nat.le_refl _) (by omega)), eX9_quarrel_2_50, ald_1 _ _ _ (by decide) (by decide), h.c1, if_neg (nI_nlt (Nat.le_refl _) (by omega))]
    exact ⟨_, rfl, rfl⟩
  | succ d ih =>
    intro i hi
    rw [eX8_quarrel_2_1, h.c3, if_pos (nI_lt (by omega) (by omega)), eX9_quarrel_2_50, ald_1 _ _ _ (by decide) (by decide), h.c1, if_pos (nI_lt (by omega) (by omega)), nI_1]
    exact qr_in h (by omega) (ih (i + 1) (by omega)) d (i + 1) (by omega)
theorem op_quarrel (h : Iv n lk ln c mr t kc f) : OP 79 146 [] f := by
  obtain ⟨r, h1, h2⟩ := qr_out h c 0 (by omega)
  have h1 : am_run 79 2 [.ref 1, .int 0, .null] [] f = _ := h1
  have h2 : am_run 146 2 [.ref 50, .int 0, .null] [] f = _ := h2
  exact OP.same h (r := r) (by rw [eX8_quarrel_1, h1]) (by rw [eX9_quarrel_50, h2])
-- who
/-- may a word that was read be this one -/
def mbB (f : Hp) (v w : Nat) : Bool := alB f w && decide (0 < rdW (f 21) w v)
def rkB (f : Hp) (v w o : Nat) : Bool := mbB f v o && (decide (rdW (f 21) w v < rdW (f 21) o v) || (decide (rdW (f 21) o v = rdW (f 21) w v) && decide (o < w)))
theorem c_mayBe {v w : Nat} (hv : v < 36) (hw : w < 36) : am_call 84 [.ref 1, .int (nI w), .int (nI v)] f = some (bi (mbB f v w), f) := by
  rw [eX8_mayBe_1, c_sw, am_cal_some, c_readAs hw hv, am_cal_some, am_z0, am_z1]
  simp only [al_0]
  unfold mbB
  cases alB f w with
  | false => rfl
  | true =>
    rw [if_neg (by decide)]
    by_cases e : 0 < rdW (f 21) w v
    · rw [if_pos e, decide_eq_true e]; rfl
    · rw [if_neg e, decide_eq_false e]; rfl
theorem c_cntM {v : Nat} (hv : v < 36) : ∀ d w, w + d = 36 → am_run 85 4 [.ref 1, .int (nI v), .int (nI (cx (mbB f v) w)), .int (nI w)] [] f = some (nI (cx (mbB f v) 36), f) := by
  intro d
  induction d with
  | zero =>
    intro w hw
    have : w = 36 := by omega
    subst this
    rw [eX8_countOfMaybe_4_1, if_neg (by decide)]
  | succ d ih =>
    intro w hw
    rw [eX8_countOfMaybe_4_1, if_pos (show nI w < (36 : Int32) from nI_lt (b := 36) (by omega) (by decide)), c_mayBe hv (by omega), am_cal_some, nI_1, nI_1, ← ih (w + 1) (by omega), cx]
    cases mbB f v w <;> rfl
theorem c_rankL {v w : Nat} (hv : v < 36) (hw : w < 36) : ∀ d o, o + d = 36 → am_run 86 16 [.ref 1, .int (nI w), .int (nI v), .int (rdW (f 21) w v), .int (nI (cx (rkB f v w) o)), .int (nI o), .null] [] f = some (nI (cx (rkB f v w) 36), f) := by
  intro d
  induction d with
  | zero =>
    intro o ho
    have : o = 36 := by omega
    subst this
    rw [eX8_rankOfMaybe_16_1, if_neg (by decide)]
  | succ d ih =>
    intro o ho
    have hlt : (nI o < nI w) = (o < w) := propext (nI_ltI (by omega) (by omega))
    rw [eX8_rankOfMaybe_16_1, if_pos (show nI o < (36 : Int32) from nI_lt (b := 36) (by omega) (by decide)), c_mayBe hv (by omega), am_cal_some, c_readAs (by omega) hv, am_cal_some, nI_1, nI_1, ← ih (o + 1) (by omega), cx]
    unfold rkB
    simp only [hlt]
    cases mbB f v o with
    | false => rfl
    | true =>
      rw [bi_t, if_neg one_ne]
      by_cases e1 : rdW (f 21) w v < rdW (f 21) o v
      · simp [e1]
      · by_cases e2 : rdW (f 21) o v = rdW (f 21) w v
        · by_cases e3 : o < w
          · simp [e2, e3]
          · simp [e2, e3]
        · simp [e1, e2]
theorem c_rank {v w : Nat} (hv : v < 36) (hw : w < 36) : am_call 86 [.ref 1, .int (nI w), .int (nI v)] f = some (nI (cx (rkB f v w) 36), f) := by
  have := c_rankL (f := f) hv hw 36 0 (by omega)
  have : am_run 86 16 [.ref 1, .int (nI w), .int (nI v), .int (rdW (f 21) w v), .int 0, .int 0, .null] [] f = _ := this
  rw [eX8_rankOfMaybe_1, c_readAs hw hv, am_cal_some, this]
theorem m_rankL (h : Iv n lk ln c mr t kc f) {v w : Nat} (hv : v < 36) (hw : w < 36) (h0 : 0 < rdW (f 21) w v) {a2 a3 : Int32} : ∀ d o, o + d = 36 → am_run 163 55 [.ref 50, .int (nI v), .int a2, .int a3, .int (nI w), .int (rdW (f 21) w v), .int (nI (cx (rkB f v w) o)), .int (nI o), .null] [] f = if nI (cx (rkB f v w) 36) = a2 then some (nI w, f) else am_run 163 19 [.ref 50, .int (nI v), .int a2, .int (a3 + 1), .int (nI (w + 1)), .null, .null, .null, .null] [] f := by
  intro d
  induction d with
  | zero =>
    intro o ho
    have : o = 36 := by omega
    subst this
    rw [eX9_who_55_50, if_neg (by decide), nI_1]
  | succ d ih =>
    intro o ho
    have hlt : (nI o < nI w) = (o < w) := propext (nI_ltI (by omega) (by omega))
    rw [eX9_who_55_50, if_pos (show nI o < (36 : Int32) from nI_lt (b := 36) (by omega) (by decide)), m_readAs (by omega) hv, h.M.1, am_cal_some, h.alive (by omega), am_cal_some, nI_1, nI_1, Int32.add_zero, ← ih (o + 1) (by omega), cx]
    unfold rkB mbB
    simp only [hlt]
    cases alB f o with
    | false => rfl
    | true =>
      rw [bi_t, if_neg one_ne]
      by_cases e1 : rdW (f 21) w v < rdW (f 21) o v
      · have e0 : 0 < rdW (f 21) o v := by rw [fa_lt] at *; omega
        simp [e1, e0]
      · by_cases e2 : rdW (f 21) o v = rdW (f 21) w v
        · by_cases e3 : o < w
          · simp [e2, e3, h0]
          · simp [e2, e3]
        · simp [e1, e2]
theorem wh_in (h : Iv n lk ln c mr t kc f) {v : Nat} (hv : v < 36) {a2 : Int32} (ha : ¬ a2 < 0) : ∀ d w (a3 : Int32), w + d = 36 → ∃ r, am_run 83 27 [.ref 1, .int (nI v), .int a2, .int (nI w)] [] f = some (r, f) ∧ am_run 163 19 [.ref 50, .int (nI v), .int a2, .int a3, .int (nI w), .null, .null, .null, .null] [] f = some (r, f) := by
  intro d
  induction d with
  | zero =>
    intro w a3 hw
    have : w = 36 := by omega
    subst this
    rw [eX8_who_27_1, if_neg (by decide), eX9_who_19_50, if_neg (by decide), if_neg ha]
    exact ⟨_, rfl, rfl⟩
  | succ d ih =>
    intro w a3 hw
    have hw36 : w < 36 := by omega
    rw [eX8_who_27_1, if_pos (show nI w < (36 : Int32) from nI_lt (b := 36) (by omega) (by decide)), c_mayBe hv hw36, am_cal_some, c_rank hv hw36, am_cal_some, eX9_who_19_50, if_pos (show nI w < (36 : Int32) from nI_lt (b := 36) (by omega) (by decide)), m_readAs hw36 hv, h.M.1, am_cal_some, h.alive hw36, am_cal_some, nI_1]
    unfold mbB
    cases alB f w with
    | false =>
      rw [Bool.false_and, bi_f, if_pos rfl, if_pos rfl]
      exact ih (w + 1) a3 (by omega)
    | true =>
      rw [Bool.true_and, bi_t, if_neg one_ne]
      by_cases e : 0 < rdW (f 21) w v
      · have := m_rankL h hv hw36 e (a2 := a2) (a3 := a3) 36 0 (by omega)
        have : am_run 163 55 [.ref 50, .int (nI v), .int a2, .int a3, .int (nI w), .int (rdW (f 21) w v), .int 0, .int 0, .null] [] f = _ := this
        rw [decide_eq_true e, bi_t, if_neg one_ne, if_pos e, this]
        by_cases e2 : nI (cx (rkB f v w) 36) = a2
        · rw [if_pos e2, if_pos e2]
          exact ⟨_, rfl, rfl⟩
        · rw [if_neg e2, if_neg e2]
          exact ih (w + 1) _ (by omega)
      · rw [decide_eq_false e, bi_f, if_pos rfl, if_neg e]
        exact ih (w + 1) a3 (by omega)
theorem wh_cnt (h : Iv n lk ln c mr t kc f) {v : Nat} (hv : v < 36) : ∀ d w, w + d = 36 → am_run 163 19 [.ref 50, .int (nI v), .int (-1), .int (nI (cx (mbB f v) w)), .int (nI w), .null, .null, .null, .null] [] f = some (nI (cx (mbB f v) 36), f) := by
  intro d
  induction d with
  | zero =>
    intro w hw
    have : w = 36 := by omega
    subst this
    rw [eX9_who_19_50, if_neg (by decide), if_pos (by decide)]
  | succ d ih =>
    intro w hw
    have hw36 : w < 36 := by omega
    have ih' := ih (w + 1) (by omega)
    rw [cx] at ih'
    rw [eX9_who_19_50, if_pos (show nI w < (36 : Int32) from nI_lt (b := 36) (by omega) (by decide)), m_readAs hw36 hv, h.M.1, am_cal_some, h.alive hw36, am_cal_some, nI_1]
    have hmb : mbB f v w = (alB f w && decide (0 < rdW (f 21) w v)) := rfl
    rw [hmb] at ih'
    cases hal : alB f w with
    | false =>
      rw [hal] at ih'
      rw [bi_f, if_pos rfl]
      exact ih'
    | true =>
      rw [hal] at ih'
      rw [bi_t, if_neg one_ne]
      by_cases e : 0 < rdW (f 21) w v
      · have := m_rankL h hv hw36 e (a2 := -1) (a3 := nI (cx (mbB f v) w)) 36 0 (by omega)
        have : am_run 163 55 [.ref 50, .int (nI v), .int (-1), .int (nI (cx (mbB f v) w)), .int (nI w), .int (rdW (f 21) w v), .int 0, .int 0, .null] [] f = _ := this
        have hc := cx_le (stand := rkB f v w) 36
        rw [decide_eq_true e] at ih'
        rw [if_pos e, this, if_neg (nI_m1 (by omega)), nI_1]
        exact ih'
      · rw [decide_eq_false e] at ih'
        rw [if_neg e]
        exact ih'
theorem ge_of {a : Int32} (h1 : ¬ a < -1) (h2 : ¬ a = -1) : ¬ a < 0 := by
  rw [fa_lt] at *
  rw [fa_eq] at h2
  have e1 : (-1 : Int32).toInt = -1 := by decide
  have e2 : (0 : Int32).toInt = 0 := rfl
  omega
theorem op_who (h : Iv n lk ln c mr t kc f) (a1 a2 : Int32) : OP 83 163 [.int a1, .int a2] f := by
  by_cases e1 : wi a1 0 35 = true
  case neg =>
    have e1 : wi a1 0 35 = false := by simpa using e1
    exact OP.same h (r := -1) (by rw [eX8_who_1, c_isWord, am_cal_some, e1, bi_f, if_pos rfl]) (by rw [eX9_who_50, m_isWord, am_cal_some, e1, bi_f, if_pos rfl])
  by_cases e2 : a2 < (-1)
  case pos =>
    exact OP.same h (r := -1) (by rw [eX8_who_1, c_isWord, am_cal_some, e1, bi_t, if_neg one_ne, if_pos e2]) (by rw [eX9_who_50, m_isWord, am_cal_some, e1, bi_t, if_neg one_ne, if_pos e2])
  obtain ⟨v, hv, rfl⟩ := wi_word e1
  by_cases e3 : a2 = -1
  · subst e3
    have k1 : am_run 85 4 [.ref 1, .int (nI v), .int 0, .int 0] [] f = _ := c_cntM hv 36 0 (by omega)
    have k2 : am_run 163 19 [.ref 50, .int (nI v), .int (-1), .int 0, .int 0, .null, .null, .null, .null] [] f = _ := wh_cnt h hv 36 0 (by omega)
    refine OP.same h (r := nI (cx (mbB f v) 36)) ?_ ?_
    · rw [eX8_who_1, c_isWord, am_cal_some, e1, bi_t, if_neg one_ne, if_neg e2, if_pos rfl, eX8_countOfMaybe_1, k1, am_cal_some]
    · rw [eX9_who_50, m_isWord, am_cal_some, e1, bi_t, if_neg one_ne, if_neg e2, k2]
  · obtain ⟨r, k1, k2⟩ := wh_in h hv (ge_of e2 e3) 36 0 0 (by omega)
    have k1 : am_run 83 27 [.ref 1, .int (nI v), .int a2, .int 0] [] f = _ := k1
    have k2 : am_run 163 19 [.ref 50, .int (nI v), .int a2, .int 0, .int 0, .null, .null, .null, .null] [] f = _ := k2
    refine OP.same h (r := r) ?_ ?_
    · rw [eX8_who_1, c_isWord, am_cal_some, e1, bi_t, if_neg one_ne, if_neg e2, if_neg e3, k1]
    · rw [eX9_who_50, m_isWord, am_cal_some, e1, bi_t, if_neg one_ne, if_neg e2, k2]
end Ops4

