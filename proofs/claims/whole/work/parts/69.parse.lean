section Parse
variable {X : Nat → Int32} {t : Nat} {g : Hp}
def fgB (X : Nat → Int32) (j : Nat) : Bool := wi (X j) 48 57
/-- the end of figures: d bytes from s on are there -/
def eF (X : Nat → Int32) : Nat → Nat → Nat
  | 0, s => s
  | d + 1, s => if fgB X s then eF X d (s + 1) else s
def eT (X : Nat → Int32) (t s : Nat) : Nat := eF X (t - s) s
def dg (X : Nat → Int32) (j : Nat) : Nat := (X j).toNatClampNeg - 48
def vN (X : Nat → Int32) : Nat → Nat → Nat → Nat
  | 0, _, v => v
  | d + 1, s, v => vN X d (s + 1) (v * 10 + dg X s)
theorem fg_dg {j : Nat} (h : fgB X j = true) : X j = nI (48 + dg X j) ∧ dg X j ≤ 9 := by
  obtain ⟨s, s1, s2, s3⟩ := wi_nat (lo := 48) (hi := 57) (by omega) (by omega) h
  unfold dg
  rw [s3, nI_clamp (by omega)]
  exact ⟨by congr 1; omega, by omega⟩
theorem eF_le : ∀ d s, s ≤ eF X d s ∧ eF X d s ≤ s + d
  | 0, s => ⟨Nat.le_refl _, Nat.le_refl _⟩
  | d + 1, s => by
    rw [eF]
    split
    · have := eF_le d (s + 1)
      omega
    · omega
theorem eF_fig : ∀ d s j, s ≤ j → j < eF X d s → fgB X j = true
  | 0, s, j, h1, h2 => by
    have h2 : j < s := h2
    omega
  | d + 1, s, j, h1, h2 => by
    rw [eF] at h2
    by_cases e : fgB X s = true
    · rw [if_pos e] at h2
      by_cases ej : j = s
      · subst ej; exact e
      · exact eF_fig d (s + 1) j (by omega) h2
    · rw [if_neg e] at h2
      omega
theorem eF_stop : ∀ d s, eF X d s < s + d → fgB X (eF X d s) = false
  | 0, s, h => by
    have h : s < s + 0 := h
    omega
  | d + 1, s, h => by
    rw [eF] at h ⊢
    by_cases e : fgB X s = true
    · rw [if_pos e] at h ⊢
      exact eF_stop d (s + 1) (by omega)
    · rw [if_neg e]
      simpa using e
/-- where the figures end is told by what stands there -/
theorem eF_uniq {d s i : Nat} (hi : i ≤ d) (hf : ∀ j, s ≤ j → j < s + i → fgB X j = true) (hs : i = d ∨ fgB X (s + i) = false) : eF X d s = s + i := by
  have h1 := eF_le (X := X) d s
  rcases Nat.lt_trichotomy (eF X d s) (s + i) with h | h | h
  · have h2 := eF_stop (X := X) d s (by omega)
    rw [hf _ h1.1 h] at h2
    cases h2
  · exact h
  · rcases hs with e | e
    · omega
    · have := eF_fig d s (s + i) (by omega) h
      rw [this] at e; cases e
theorem vN_last : ∀ d s v, vN X (d + 1) s v = vN X d s v * 10 + dg X (s + d)
  | 0, s, v => rfl
  | d + 1, s, v => by
    have := vN_last d (s + 1) (v * 10 + dg X s)
    show vN X (d + 1) (s + 1) (v * 10 + dg X s) = _
    rw [this, show s + 1 + d = s + (d + 1) by omega]
    rfl
theorem vN_lt : ∀ d s, (∀ j, s ≤ j → j < s + d → dg X j ≤ 9) → vN X d s 0 < 10 ^ d
  | 0, s, _ => Nat.one_pos
  | d + 1, s, h => by
    have ih := vN_lt d s (fun j h1 h2 => h j h1 (by omega))
    have h2 := h (s + d) (by omega) (by omega)
    rw [vN_last, Nat.pow_succ]
    omega
theorem vN_lt5 {d s : Nat} (hd : d ≤ 6) (h : ∀ j, s ≤ j → j < s + d → fgB X j = true) : vN X d s 0 < 1000000 ∧ (d ≤ 5 → vN X d s 0 < 100000) := by
  have h1 := vN_lt d s (fun j h1 h2 => (fg_dg (h j h1 h2)).2)
  have h2 : 10 ^ d ≤ 10 ^ 6 := Nat.pow_le_pow_right (by decide) hd
  refine ⟨by omega, fun h5 => ?_⟩
  have h3 : 10 ^ d ≤ 10 ^ 5 := Nat.pow_le_pow_right (by decide) h5
  omega
/-- a letter's numbers -/
def iiB (l : Int32) (a b : Nat) : Bool := if l = 109 then decide (1 ≤ a ∧ a ≤ 9999) && decide (b ≤ 14600) else if l = 110 then decide (a ≤ 5) && decide (b ≤ 5) else if l = 111 then decide (a ≤ 9999) && decide (b ≤ 14600) else if l = 115 ∨ l = 117 then decide (a ≤ 8) && (decide (b ≤ 8) && decide (a ≠ b)) else if l = 121 then decide (a ≤ 40) && decide (b ≤ 14600) else false
/-- the item that begins at p: its numbers, and where the next one begins -/
def itO (X : Nat → Int32) (t p : Nat) : Option (Nat × Nat × Nat) :=
  if (1 ≤ eT X t (p + 1) - (p + 1) ∧ eT X t (p + 1) - (p + 1) ≤ 5 ∧ eT X t (p + 1) < t ∧ X (eT X t (p + 1)) = 44) ∧ (1 ≤ eT X t (eT X t (p + 1) + 1) - (eT X t (p + 1) + 1) ∧ eT X t (eT X t (p + 1) + 1) - (eT X t (p + 1) + 1) ≤ 5 ∧ eT X t (eT X t (p + 1) + 1) < t ∧ X (eT X t (eT X t (p + 1) + 1)) = 59) ∧ iiB (X p) (vN X (eT X t (p + 1) - (p + 1)) (p + 1) 0) (vN X (eT X t (eT X t (p + 1) + 1) - (eT X t (p + 1) + 1)) (eT X t (p + 1) + 1) 0) = true then some (vN X (eT X t (p + 1) - (p + 1)) (p + 1) 0, vN X (eT X t (eT X t (p + 1) + 1) - (eT X t (p + 1) + 1)) (eT X t (p + 1) + 1) 0, eT X t (eT X t (p + 1) + 1) + 1) else none
theorem eT_ge (s : Nat) : s ≤ eT X t s := (eF_le _ _).1
theorem eT_le {s : Nat} (h : s ≤ t) : eT X t s ≤ t := by
  have := (eF_le (X := X) (t - s) s).2
  unfold eT
  omega
theorem eT_fig {s j : Nat} (h1 : s ≤ j) (h2 : j < eT X t s) : fgB X j = true := eF_fig _ _ j h1 h2
theorem eT_big {s : Nat} (h : t ≤ s) : eT X t s = s := by
  unfold eT
  rw [show t - s = 0 by omega]
  rfl
/-- what the class's text says -/
def TX (X : Nat → Int32) (t : Nat) (g : Hp) : Prop := g 10 1 = nI t ∧ t ≤ 200 ∧ ∀ j, j < t → g 11 j &&& 255 = X j
theorem c_at (h : TX X t g) {p : Nat} (hp : p < 1000) : am_call 40 [.ref 10, .int (nI p)] g = some (if p < t then X p else -1, g) := by
  have ht := h.2.1
  rw [eX5_at_10, if_neg (nI_pos (by omega)), h.1]
  by_cases e : p < t
  · rw [if_pos (nI_lt e (by omega)), am_ald_in _ _ _ (show p < 200 by omega) (by decide), h.2.2 p e, if_pos e]
  · rw [if_neg (nI_nlt (by omega) (by omega)), if_neg e]
theorem c_endL (h : TX X t g) : ∀ d s, s + d = t → am_run 41 2 [.ref 10, .null, .int (nI s)] [] g = some (nI (eF X d s), g) := by
  have ht := h.2.1
  intro d
  induction d with
  | zero =>
    intro s hs
    rw [eX5_endOfFigures_2_10, h.1, if_neg (nI_nlt (by omega) (by omega))]; rfl
  | succ d ih =>
    intro s hs
    rw [eX5_endOfFigures_2_10, h.1, if_pos (nI_lt (by omega) (by omega)), c_at h (by omega), if_pos (by omega), am_cal_some, c_within', am_cal_some, nI_1, ih (s + 1) (by omega), eF]
    show (if bi (fgB X s) = 0 then _ else _) = _
    cases fgB X s <;> rfl
theorem c_endF (h : TX X t g) {s : Nat} (hs : s < 1000) : am_call 41 [.ref 10, .int (nI s)] g = some (nI (eT X t s), g) := by
  rw [eX5_endOfFigures_10]
  by_cases e : s ≤ t
  · exact c_endL h (t - s) s (by omega)
  · have ht := h.2.1
    rw [eX5_endOfFigures_2_10, h.1, if_neg (nI_nlt (by omega) (by omega)), eT_big (by omega)]
theorem c_numL (h : TX X t g) {s e : Nat} (he : e ≤ t) (hf : ∀ j, s ≤ j → j < e → fgB X j = true) : ∀ d i, s + i + d = e → i + d ≤ 5 → am_run 42 18 [.ref 10, .null, .int (nI e), .int (nI (vN X i s 0)), .int (nI (s + i))] [] g = some (nI (vN X (i + d) s 0), g) := by
  have ht := h.2.1
  intro d
  induction d with
  | zero =>
    intro i hi _
    rw [eX5_number_18_10, if_neg (nI_nlt (by omega) (by omega))]; rfl
  | succ d ih =>
    intro i hi h5
    obtain ⟨x1, x2⟩ := fg_dg (hf (s + i) (by omega) (by omega))
    have hv := (vN_lt5 (X := X) (d := i) (s := s) (by omega) (fun j h1 h2 => hf j h1 (by omega))).1
    have e1 : nI (vN X i s 0) * 10 + X (s + i) - 48 = nI (vN X (i + 1) s 0) := by
      rw [x1, vN_last]
      show nI (vN X i s 0) * nI 10 + nI (48 + dg X (s + i)) - nI 48 = _
      rw [pk_mul, nI_add, pk_sub (by omega)]
      congr 1
      omega
    rw [eX5_number_18_10, if_pos (nI_lt (by omega) (by omega)), c_at h (by omega), if_pos (by omega), am_cal_some, e1, nI_1]
    have := ih (i + 1) (by omega) (by omega)
    rw [show s + (i + 1) = s + i + 1 by omega] at this
    rw [this, show i + 1 + d = i + (d + 1) by omega]
theorem c_num (h : TX X t g) {s e : Nat} (hse : s ≤ e) (he : e ≤ t ∨ e = s) (hb : e < 1000) (hf : ∀ j, s ≤ j → j < e → fgB X j = true) : am_call 42 [.ref 10, .int (nI s), .int (nI e)] g = some (if 1 ≤ e - s ∧ e - s ≤ 5 then nI (vN X (e - s) s 0) else -1, g) := by
  have hw : wi (nI (e - s)) 1 5 = (decide (1 ≤ e - s) && decide (e - s ≤ 5)) := wi_nI (lo := 1) (hi := 5) (by omega) (by omega) (by omega)
  rw [eX5_number_10, pk_sub hse, c_within', am_cal_some, hw]
  by_cases e1 : 1 ≤ e - s ∧ e - s ≤ 5
  · rw [decide_eq_true e1.1, decide_eq_true e1.2, if_pos e1]
    have := c_numL h (s := s) (e := e) (by omega) hf (e - s) 0 (by omega) (by omega)
    rw [Nat.add_zero, Nat.zero_add] at this
    rw [show (true && true) = true from rfl, bi_t, if_neg one_ne]
    exact this
  · have : (decide (1 ≤ e - s) && decide (e - s ≤ 5)) = false := by
      rw [← Bool.not_eq_true]
      intro z
      exact e1 (by simpa using z)
    rw [this, bi_f, if_pos rfl, if_neg e1]
theorem wi0 {a hi : Nat} (hhi : hi < 2 ^ 31) (ha : a < 2 ^ 31) : wi (nI a) 0 (nI hi) = decide (a ≤ hi) := by
  have := wi_nI (s := a) (lo := 0) (hi := hi) (by omega) hhi ha
  have h0 : wi (nI a) (nI 0) (nI hi) = wi (nI a) 0 (nI hi) := rfl
  rw [← h0, this, decide_eq_true (Nat.zero_le a), Bool.true_and]
theorem wi_m {a : Nat} (ha : a < 100000) : wi (nI a) 1 9999 = decide (1 ≤ a ∧ a ≤ 9999) := by
  have : wi (nI a) 1 9999 = _ := wi_nI (s := a) (lo := 1) (hi := 9999) (by omega) (by omega) (by omega)
  rw [this]
  by_cases h1 : 1 ≤ a <;> by_cases h2 : a ≤ 9999 <;> simp [h1, h2]
theorem c_item (g : Hp) (l : Int32) {a b : Nat} (ha : a < 100000) (hb : b < 100000) : am_call 4 [.int l, .int (nI a), .int (nI b)] g = some (bi (iiB l a b), g) := by
  have wd : wi (nI b) 0 14600 = decide (b ≤ 14600) := wi0 (hi := 14600) (by omega) (by omega)
  have w9 : wi (nI a) 0 9999 = decide (a ≤ 9999) := wi0 (hi := 9999) (by omega) (by omega)
  have w4 : wi (nI a) 0 40 = decide (a ≤ 40) := wi0 (hi := 40) (by omega) (by omega)
  have w5a : wi (nI a) 0 5 = decide (a ≤ 5) := wi0 (hi := 5) (by omega) (by omega)
  have w5b : wi (nI b) 0 5 = decide (b ≤ 5) := wi0 (hi := 5) (by omega) (by omega)
  have hsu : (if nI a < (9 : Int32) then (if nI b < 9 then (if nI a = nI b then some ((0 : Int32), g) else some (1, g)) else some (0, g)) else some (0, g)) = some (bi (decide (a ≤ 8) && (decide (b ≤ 8) && decide (a ≠ b))), g) := by
    by_cases e1 : a ≤ 8
    · rw [if_pos (show nI a < (9 : Int32) from nI_lt (b := 9) (by omega) (by decide)), decide_eq_true e1]
      by_cases e2 : b ≤ 8
      · rw [if_pos (show nI b < (9 : Int32) from nI_lt (b := 9) (by omega) (by decide)), decide_eq_true e2]
        by_cases e3 : a = b
        · subst e3; rw [if_pos rfl]; simp [bi]
        · rw [if_neg (fun z => e3 ((nI_eq (by omega) (by omega)).mp z)), decide_eq_true e3]; rfl
      · rw [if_neg (show ¬ nI b < (9 : Int32) from nI_nlt (b := 9) (by omega) (by omega)), decide_eq_false e2]; rfl
    · rw [if_neg (show ¬ nI a < (9 : Int32) from nI_nlt (b := 9) (by omega) (by omega)), decide_eq_false e1]; rfl
  have two : ∀ (x y : Bool), (if bi x = 0 then some ((0 : Int32), g) else if bi y = 0 then some (0, g) else some (1, g)) = some (bi (x && y), g) := fun x y => by cases x <;> cases y <;> rfl
  rw [eX0_isItem]
  simp only [c_within', c_isDay, c_isLetter, am_cal_some, am_z0, am_z1, wd, w9, w4, w5a, w5b, wi_m ha, two, hsu]
  unfold iiB
  by_cases e1 : l = 109
  · rw [if_pos e1, if_pos e1]
  rw [if_neg e1, if_neg e1]
  by_cases e2 : l = 110
  · rw [if_pos e2, if_pos e2]
  rw [if_neg e2, if_neg e2]
  by_cases e3 : l = 111
  · rw [if_pos e3, if_pos e3]
  rw [if_neg e3, if_neg e3]
  by_cases e4 : l = 115
  · rw [if_pos (Or.inl e4), e4, if_neg (by decide), if_neg (by decide), if_neg (by decide), if_pos rfl]
  by_cases e5 : l = 117
  · rw [if_pos (Or.inr e5), e5, if_neg (by decide), if_neg (by decide), if_neg (by decide), if_neg (by decide), if_neg (by decide), if_pos rfl]
  rw [if_neg (show ¬ (l = 115 ∨ l = 117) from fun z => by rcases z with z | z <;> contradiction)]
  by_cases e6 : l = 121
  · rw [if_pos e6, e6, if_neg (by decide), if_neg (by decide), if_neg (by decide), if_neg (by decide), if_neg (by decide), if_neg (by decide), if_neg (by decide), if_neg (by decide), if_neg (by decide), if_pos rfl]
  · rw [if_neg e4, if_neg e5, if_neg e6, if_neg e6]
    simp [bi]
end Parse
