/-- the right shapes of a day, as the class's cells say it -/
def Rd (a b l x y : Nat → Int32) (n c : Nat) (lk ln : Nat → Nat) (day : Int32) (S : Nat) : Bool := rtB a b l x y n c day (WS lk ln n S) S
def Wd (lk ln : Nat → Nat) (n S : Nat) : Nat := (WS lk ln n S).getD 0
theorem Rd_W {a b l x y : Nat → Int32} {n c : Nat} {lk ln : Nat → Nat} {day : Int32} {S : Nat} (h : Rd a b l x y n c lk ln day S = true) : WS lk ln n S = some (Wd lk ln n S) := by
  unfold Rd rtB at h
  unfold Wd
  cases hw : WS lk ln n S with
  | none => rw [hw] at h; simp at h
  | some z => rfl
theorem Rd_b {a b l x y : Nat → Int32} {n c : Nat} {lk ln : Nat → Nat} {day : Int32} (h9 : n ≤ 9) (hlb : ∀ i, lk i ≤ 500) (hnb : ∀ i, ln i ≤ 500) : ∀ S, S < 2 ^ n → Rd a b l x y n c lk ln day S = true → Wd lk ln n S ≤ 1000 * cnt S n := by
  intro S hS h
  have h5 := pow9 h9
  have := WS_lt h9 hlb hnb (show S < 512 by omega) _ (Rd_W h)
  omega
section Shapes
variable {f : Hp} {n c : Nat} {lk ln : Nat → Nat}
theorem c_shapeOn (h : CS n lk ln c f) (hw : WC n lk ln f) (h24 : f 24 0 = 0) {day : Int32} (hc : f 22 8 = day → SV (Rd (f 3) (f 4) (f 17) (f 18) (f 19) n c lk ln day) (Wd lk ln n) n f) : ∃ g, am_call 23 [.ref 22, .int day] f = some (0, g) ∧ CS n lk ln c g ∧ WC n lk ln g ∧ (∀ q, q ∉ [2, 8, 9, 22, 23, 24, 25, 26] → g q = f q) ∧ (∀ j, j ≠ 8 → g 2 j = f 2 j) ∧ (∀ j, j ≠ 6 → j ≠ 7 → j ≠ 8 → g 22 j = f 22 j) ∧ g 22 8 = day ∧ g 24 0 = 0 ∧ SV (Rd (f 3) (f 4) (f 17) (f 18) (f 19) n c lk ln day) (Wd lk ln n) n g := by
  rw [eX3_shapeOn_22]
  by_cases hd : f 22 8 = day
  · rw [if_pos hd]
    exact ⟨f, rfl, h, hw, fun _ _ => rfl, fun _ _ => rfl, fun _ _ _ _ => rfl, hd, h24, hc hd⟩
  · have h5 := pow9 h.2.1
    have hp := Nat.two_pow_pos n
    rw [if_neg hd, eX4_allSides_2, h.1, all_eq h.2.1, am_cal_some, c_dayLooked h.2.2.2.2.2.2.1 h.2.2.2.2.2.2.2, am_cal_some, c_most h.2.2.2.2.2.2.1 h.2.2.2.2.2.2.2, am_cal_some]
    obtain ⟨g1, e1, e2, e3, e4, e5, e6⟩ := c_shLoop (f0 := f) (day := day) (R := Rd (f 3) (f 4) (f 17) (f 18) (f 19) n c lk ln day) (Wt := Wd lk ln n) (n := n) (c := c) (lk := lk) (ln := ln) (fun S _ _ => rfl) (fun p _ _ hR => Rd_W hR) (Rd_b h.2.1 h.2.2.2.1 h.2.2.2.2.2.1) (2 ^ n - 1) 1 f (by omega) (by omega) h hw (fun _ _ => rfl) (fun _ _ => rfl) ⟨fun p a b => absurd b (by omega), fun T hT => by
      have : T = 0 := by omega
      subst this
      rw [h24]; rfl, fun T a b => absurd b (by omega)⟩
    have e1' : am_run 23 37 [.ref 22, .int day, .int (nI (2 ^ n - 1)), .int (ltD (f 17) (f 18) (f 19) c day), .int (moD (f 17) (f 18) (f 19) c day), .int 1, .null] [] f = _ := e1
    rw [e1']
    obtain ⟨g, k1, k2, k3, k4, k5⟩ := c_shEnd (g := g1) (day := day) h.2.1 (Rd_b h.2.1 h.2.2.2.1 h.2.2.2.2.2.1) e6
    refine ⟨g, k1, ?_, ?_, fun q hq => ?_, fun j hj => ?_, fun j a b d => ?_, k4, ?_, k5⟩
    · obtain ⟨a1, a2, a3, a4, a5, a6, a7, a8⟩ := e2
      exact ⟨by rw [k2 2 (by decide) (by decide)]; exact a1, a2, by rw [k2 7 (by decide) (by decide)]; exact a3, a4, by rw [k2 5 (by decide) (by decide)]; exact a5, a6, by rw [k2 16 (by decide) (by decide)]; exact a7, a8⟩
    · rcases e3 with e3 | ⟨a1, a2, a3⟩
      · exact Or.inl (by rw [k2 2 (by decide) (by decide)]; exact e3)
      · exact Or.inr ⟨by rw [k2 2 (by decide) (by decide)]; exact a1, by rw [k2 9 (by decide) (by decide)]; exact a2, by rw [k2 8 (by decide) (by decide)]; exact a3⟩
    · simp only [List.mem_cons, List.not_mem_nil, or_false, not_or] at hq
      obtain ⟨q1, q2, q3, q4, q5, q6, q7, q8⟩ := hq
      rw [k2 q q4 q8]
      exact e4 q (by simp [q1, q2, q3, q5, q6, q7])
    · rw [k2 2 (by decide) (by decide)]
      exact e5 j hj
    · rw [k3 j a b d, e4 22 (by decide)]
    · rw [k2 24 (by decide) (by decide), e6.2.1 0 hp]; rfl
/-- a right shape has the side -/
def inR (R : Nat → Bool) (n v : Nat) : Nat → Bool
  | 0 => false
  | S + 1 => inR R n v S || (decide (1 ≤ S) && R S && S.testBit v)
theorem inR_true {R : Nat → Bool} {n v : Nat} : ∀ {k : Nat}, inR R n v k = true ↔ ∃ S, 1 ≤ S ∧ S < k ∧ R S = true ∧ S.testBit v = true
  | 0 => by simp [inR]
  | k + 1 => by
    rw [inR, Bool.or_eq_true, inR_true]
    simp only [Bool.and_eq_true, decide_eq_true_eq]
    constructor
    · rintro (⟨S, a, b, d⟩ | ⟨⟨a, b⟩, d⟩)
      · exact ⟨S, a, by omega, d⟩
      · exact ⟨k, a, by omega, b, d⟩
    · rintro ⟨S, a, b, d⟩
      by_cases hk : S = k
      · subst hk
        exact Or.inr ⟨⟨a, d.1⟩, d.2⟩
      · exact Or.inl ⟨S, a, by omega, d⟩
theorem c_isInRight {R : Nat → Bool} (hn : f 2 7 = nI n) (h9 : n ≤ 9) (hr : ∀ p, 1 ≤ p → p < 2 ^ n → f 23 p = bi (R p)) {v : Nat} (hv : v < n) : am_call 26 [.ref 22, .int (nI v)] f = some (bi (inR R n v (2 ^ n)), f) := by
  have h5 := pow9 h9
  have key : ∀ d S, S + d = 2 ^ n → 1 ≤ S → inR R n v S = false → am_run 26 2 [.ref 22, .int (nI v), .int (nI S)] [] f = some (bi (inR R n v (2 ^ n)), f) := by
    intro d
    induction d with
    | zero =>
      intro S hS h1 hf
      have : S = 2 ^ n := by omega
      subst this
      rw [eX3_isInRight_2_22, eX4_allSides_2, hn, all_eq h9, am_cal_some, if_pos (nI_lt (by omega) (by omega)), hf]
      exact am_z0 _
    | succ d ih =>
      intro S hS h1 hf
      rw [eX3_isInRight_2_22, eX4_allSides_2, hn, all_eq h9, am_cal_some, if_neg (nI_nlt (by omega) (by omega)), am_ald_in _ _ _ (show S < 512 by omega) (by decide), hr S h1 (by omega), c_hasSide (by omega) (by omega), am_cal_some, nI_1]
      simp only [bi_eq0]
      cases hR : R S
      · rw [if_pos rfl]
        exact ih (S + 1) (by omega) (by omega) (by rw [inR, hf, hR]; simp)
      · rw [if_neg (by decide)]
        cases hb : S.testBit v
        · rw [if_pos rfl]
          exact ih (S + 1) (by omega) (by omega) (by rw [inR, hf, hb]; simp)
        · rw [if_neg (by decide)]
          have : inR R n v (2 ^ n) = true := inR_true.2 ⟨S, h1, by omega, hR, hb⟩
          rw [this]
          exact am_z1 _
  rw [eX3_isInRight_22]
  exact key (2 ^ n - 1) 1 (by have := Nat.two_pow_pos n; omega) (by omega) rfl
/-- the first side that no right shape has -/
def barF (R : Nat → Bool) (n : Nat) : Nat → Nat → Int32
  | 0, _ => -4
  | d + 1, v => if inR R n v (2 ^ n) then barF R n d (v + 1) else nI v
theorem c_barL {R : Nat → Bool} (hn : f 2 7 = nI n) (h9 : n ≤ 9) (hr : ∀ p, 1 ≤ p → p < 2 ^ n → f 23 p = bi (R p)) : ∀ d v, v + d = n → am_run 25 12 [.ref 22, .int (nI v)] [] f = some (barF R n d v, f) := by
  intro d
  induction d with
  | zero =>
    intro v hv
    rw [eX3_bar_12_22, hn, if_neg (nI_nlt (by omega) (by omega))]
    rfl
  | succ d ih =>
    intro v hv
    rw [eX3_bar_12_22, hn, if_pos (nI_lt (by omega) (by omega)), c_isInRight hn h9 hr (by omega), am_cal_some, nI_1, ih (v + 1) (by omega), barF]
    simp only [bi_eq0]
    cases inR R n v (2 ^ n) <;> simp
theorem c_bar {R : Nat → Bool} {Wt : Nat → Nat} (hn : f 2 7 = nI n) (h9 : n ≤ 9) (hs : SV R Wt n f) : am_call 25 [.ref 22] f = some (if SH R Wt n = [] then barF R n n 0 else -4, f) := by
  have hl : (SH R Wt n).length < 100 := by
    unfold SH
    split
    · decide
    · have : ∀ F S, (shL R Wt F S).length ≤ F := by
        intro F
        induction F with
        | zero => intro S; exact Nat.le_refl 0
        | succ F ih =>
          intro S
          rw [shL]
          split
          · exact Nat.zero_le _
          · split
            · exact Nat.zero_le _
            · have := ih (S ^^^ (by assumption : Nat × Nat).2)
              rw [List.length_cons]
              exact Nat.succ_le_succ (ih _)
      have := this 9 (2 ^ n - 1)
      omega
  rw [eX3_bar_22, hs.2.1]
  cases hS : SH R Wt n with
  | nil =>
    rw [if_neg (by decide), if_pos rfl]
    exact c_barL hn h9 hs.1 n 0 (by omega)
  | cons a l =>
    rw [hS] at hl
    rw [if_pos (show (0 : Int32) < nI (a :: l).length from nI_lt (a := 0) (by simp) (by omega)), if_neg (by simp)]
end Shapes
