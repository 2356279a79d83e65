section LayCodes
variable {n : Nat} {ww x : Nat → Nat}
theorem cx_imp {p q : Nat → Bool} (h : ∀ d, p d = true → q d = true) : ∀ n, cx p n ≤ cx q n
  | 0 => Nat.le_refl _
  | n + 1 => by
    have := cx_imp h n
    rw [cx, cx]
    by_cases e : p n = true
    · rw [e, h n e]; omega
    · have e0 : p n = false := by simpa using e
      rw [e0]
      simp only [Bool.false_eq_true, if_false]
      omega
theorem cx_usd (ww : Nat → Nat) (N : Nat) : ∀ n, cx (usd ww n) N ≤ n
  | 0 => by
    have : ∀ d, usd ww 0 d = false := fun d => rfl
    have h : ∀ N, cx (usd ww 0) N = 0 := by
      intro N
      induction N with
      | zero => rfl
      | succ N ih => rw [cx, ih, this]; rfl
    rw [h]
    exact Nat.le_refl _
  | n + 1 => by
    have ih := cx_usd ww N n
    have h1 := cx_drop (p := usd ww (n + 1)) (x := ww n) (usd_iff.mpr ⟨n, by omega, rfl⟩) N
    have h2 : cx (fun d => usd ww (n + 1) d && !decide (ww n = d)) N ≤ cx (usd ww n) N := by
      refine cx_imp (fun d hd => ?_) N
      simp only [Bool.and_eq_true, Bool.not_eq_true', decide_eq_false_iff_not] at hd
      obtain ⟨s, s1, s2⟩ := usd_iff.mp hd.1
      by_cases e : s = n
      · subst e; exact absurd s2 hd.2
      · exact usd_iff.mpr ⟨s, by omega, s2⟩
    split at h1 <;> omega
theorem setC_up (f : Hp) (q j : Nat) (x : Int32) (g : Nat → Int32) : setC (am_up f q j x) q g = setC f q g := by
  funext a
  by_cases e : a = q
  · subst e; rw [setC_eq, setC_eq]
  · rw [setC_ne e, setC_ne e, am_up_ne e]
/-- the words of sides below n -/
def TN (n : Nat) (ww : Nat → Nat) (w : Nat → Int32) : Prop := ∀ s, s < n → w s = nI (ww s) ∧ ww s < 36
theorem TN_bit {w : Nat → Int32} (h : TN n ww w) {y t : Nat} (hy : y < 36) : (wSet w (nI y) n).testBit t = (decide (t < n) && decide (ww t = y)) := by
  unfold wSet
  rw [setOf_bit]
  by_cases ht : t < n
  · obtain ⟨t1, t2⟩ := h t ht
    rw [t1, decide_eq_true ht, Bool.true_and, Bool.true_and]
    by_cases e : ww t = y
    · rw [e]; simp
    · rw [decide_eq_false e, decide_eq_false (fun z => e ((nI_eq (by omega) (by omega)).mp z))]
  · rw [decide_eq_false ht, Bool.false_and, Bool.false_and]
theorem TN_zero {w : Nat → Int32} (h : TN n ww w) {y : Nat} (hy : y < 36) : (wSet w (nI y) n = 0) = (usd ww n y = false) := by
  refine propext ⟨fun e => ?_, fun e => ?_⟩
  · cases hu : usd ww n y with
    | false => rfl
    | true =>
      obtain ⟨s, s1, s2⟩ := usd_iff.mp hu
      have := TN_bit h (t := s) hy
      rw [e, Nat.zero_testBit, decide_eq_true s1, decide_eq_true s2] at this
      cases this
  · apply Nat.eq_of_testBit_eq
    intro t
    rw [TN_bit h hy, Nat.zero_testBit]
    by_cases ht : t < n
    · by_cases e2 : ww t = y
      · rw [usd_iff.mpr ⟨t, ht, e2⟩] at e; cases e
      · rw [decide_eq_false e2, Bool.and_false]
    · rw [decide_eq_false ht, Bool.false_and]
theorem m_weightOf {g : Hp} {c S : Nat} {u : Nat → Nat} (hc : g 50 31 = nI c) (h9 : c ≤ 9) (hu : ∀ i, i < c → g 74 i = nI (u i)) (hS : S < 512) : am_call 177 [.ref 50, .int (nI S)] g = some (nI (smN (fun i => if S.testBit i then u i else 0) c), g) := by
  have key : ∀ d i, i + d = c → am_run 177 4 [.ref 50, .int (nI S), .int (nI (smN (fun i => if S.testBit i then u i else 0) i)), .int (nI i)] [] g = some (nI (smN (fun i => if S.testBit i then u i else 0) c), g) := by
    intro d
    induction d with
    | zero =>
      intro i hi
      have : i = c := by omega
      subst this
      rw [eX9_weightOf_4_50, hc, if_neg (nI_nlt (by omega) (by omega))]
    | succ d ih =>
      intro i hi
      rw [← ih (i + 1) (by omega), eX9_weightOf_4_50, hc, if_pos (nI_lt (by omega) (by omega)), m_has (by omega) (by omega), am_cal_some, am_ald_in _ _ _ (show i < 9 by omega) (by decide), hu i (by omega), nI_1, nI_add]
      simp only [bi_eq0, smN]
      cases S.testBit i <;> simp
  rw [eX9_weightOf_50]
  exact key c 0 (by omega)
theorem m_layCodes {f : Hp} {day : Int32} (hn : f 50 0 = nI n) (h9 : n ≤ 9) (hw : TN n ww (f 60)) (hx : ∀ s, s < n → f 54 s * (f 51 s + f 52 s * (day / 365)) = nI (x s)) : ∃ g, am_call 176 [.ref 50, .int day] f = some (0, g) ∧ (∀ q, q ≠ 50 → q ≠ 73 → q ≠ 74 → g q = f q) ∧ (∀ j, j ≠ 31 → g 50 j = f 50 j) ∧ g 50 31 = nI (cx (usd ww n) 36) ∧ LD2 (ldS x (ixB ww n) n) (cx (usd ww n) 36) g := by
  have hcn := cx_usd ww 36 n
  -- one code's weight
  have k0 : ∀ y (i : Nat), i < 9 → y < 36 → ∀ d t g, t + d = n → (∀ q, q ≠ 50 → q ≠ 73 → q ≠ 74 → g q = f q) → g 50 0 = nI n → g 50 31 = nI i → g 74 i = nI (smN (fun u => if ww u = y then x u else 0) t) → ∃ T, am_run 176 46 [.ref 50, .int day, .int (nI y), .int (nI (wSet (f 60) (nI y) n)), .int (nI t)] [] g = am_run 176 7 [.ref 50, .int day, .int (nI (y + 1)), .null, .null] [] (am_up (setC g 74 T) 50 31 (nI (i + 1))) ∧ T i = nI (smN (fun u => if ww u = y then x u else 0) n) ∧ ∀ j, j ≠ i → T j = g 74 j := by
    intro y i hi hy d
    have hlt : wSet (f 60) (nI y) n < 2 ^ n := wSet_lt _ _ n
    have h5 := pow9 h9
    induction d with
    | zero =>
      intro t g ht a1 a2 a3 a4
      have : t = n := by omega
      subst this
      refine ⟨g 74, ?_, a4, fun j _ => rfl⟩
      rw [eX9_layCodes_46_50, a2, if_neg (nI_nlt (Nat.le_refl _) (by omega)), a3, nI_1, nI_1, setC_self]
    | succ d ih =>
      intro t g ht a1 a2 a3 a4
      rw [eX9_layCodes_46_50, a2, if_pos (nI_lt (by omega) (by omega)), a3, am_ald_in _ _ _ hi (by decide), m_has (by omega) (by omega), am_cal_some, TN_bit hw hy, decide_eq_true (show t < n by omega), Bool.true_and, am_ast_in _ _ _ _ hi (by decide), nI_1]
      by_cases e : ww t = y
      · rw [decide_eq_true e, bi_t, if_neg (by decide), am_ald_in _ _ _ (show t < 9 by omega) (by decide), m_doorsAt (by omega), am_cal_some, am_ast_in _ _ _ _ hi (by decide), a1 54 (by decide) (by decide) (by decide), a1 51 (by decide) (by decide) (by decide), a1 52 (by decide) (by decide) (by decide), hx t (by omega), a4, nI_add]
        obtain ⟨T, e1, e2, e3⟩ := ih (t + 1) (am_up g 74 i (nI (smN (fun u => if ww u = y then x u else 0) t + x t))) (by omega) (fun q p r s => by rw [am_up_ne s]; exact a1 q p r s) (by rw [am_up_ne (by decide)]; exact a2) (by rw [am_up_ne (by decide)]; exact a3) (by rw [am_up_same, smN, if_pos e])
        refine ⟨T, ?_, e2, fun j hj => by rw [e3 j hj, am_up_j hj]⟩
        rw [e1]
        congr 2
        exact setC_up _ _ _ _ _
      · rw [decide_eq_false e, bi_f, if_pos rfl, a4, Int32.add_zero]
        obtain ⟨T, e1, e2, e3⟩ := ih (t + 1) (am_up g 74 i (nI (smN (fun u => if ww u = y then x u else 0) t))) (by omega) (fun q p r s => by rw [am_up_ne s]; exact a1 q p r s) (by rw [am_up_ne (by decide)]; exact a2) (by rw [am_up_ne (by decide)]; exact a3) (by rw [am_up_same, smN, if_neg e, Nat.add_zero])
        refine ⟨T, ?_, e2, fun j hj => by rw [e3 j hj, am_up_j hj]⟩
        rw [e1]
        congr 2
        exact setC_up _ _ _ _ _
  have k1 : ∀ d y g, y + d = 36 → (∀ q, q ≠ 50 → q ≠ 73 → q ≠ 74 → g q = f q) → (∀ j, j ≠ 31 → g 50 j = f 50 j) → g 50 31 = nI (cx (usd ww n) y) → (∀ t, t < y → usd ww n t = true → g 74 (cx (usd ww n) t) = nI (smN (fun u => if ww u = t then x u else 0) n)) → ∃ g', am_run 176 7 [.ref 50, .int day, .int (nI y), .null, .null] [] g = some (0, g') ∧ (∀ q, q ≠ 50 → q ≠ 73 → q ≠ 74 → g' q = f q) ∧ (∀ j, j ≠ 31 → g' 50 j = f 50 j) ∧ g' 50 31 = nI (cx (usd ww n) 36) ∧ ∀ t, t < 36 → usd ww n t = true → g' 74 (cx (usd ww n) t) = nI (smN (fun u => if ww u = t then x u else 0) n) := by
    intro d
    induction d with
    | zero =>
      intro y g hy a1 a2 a3 a4
      have : y = 36 := by omega
      subst this
      refine ⟨g, ?_, a1, a2, a3, a4⟩
      rw [eX9_layCodes_7_50, if_neg (by decide)]
    | succ d ih =>
      intro y g hy a1 a2 a3 a4
      have hlt : wSet (f 60) (nI y) n < 2 ^ n := wSet_lt _ _ n
      have h5 := pow9 h9
      have hg0 : g 50 0 = nI n := by rw [a2 0 (by decide)]; exact hn
      rw [eX9_layCodes_7_50, if_pos (show nI y < (36 : Int32) from nI_lt (b := 36) (by omega) (by decide)), m_codeOf hg0 h9, am_cal_some, a1 60 (by decide) (by decide) (by decide)]
      by_cases hu : usd ww n y = true
      · have hne : ¬ wSet (f 60) (nI y) n = 0 := by rw [TN_zero hw (by omega), hu]; decide
        have hi : cx (usd ww n) y < 9 := by have := cx_lt (p := usd ww n) (show y < 36 by omega) hu; omega
        rw [if_neg (nI_nez hne (by omega)), a3, am_ast_in _ _ _ _ hi (by decide), am_up_ne (show 50 ≠ 73 by decide), a3, am_ast_in _ _ _ _ hi (by decide)]
        obtain ⟨T, e1, e2, e3⟩ := k0 y (cx (usd ww n) y) hi (by omega) n 0 (am_up (am_up g 73 (cx (usd ww n) y) (nI (wSet (f 60) (nI y) n))) 74 (cx (usd ww n) y) 0) (by omega) (fun q p r s => by rw [am_up_ne s, am_up_ne r]; exact a1 q p r s) (by rw [am_up_ne (by decide), am_up_ne (by decide)]; exact hg0) (by rw [am_up_ne (by decide), am_up_ne (by decide)]; exact a3) (am_up_same _ _ _ _)
        have e1' : am_run 176 46 [.ref 50, .int day, .int (nI y), .int (nI (wSet (f 60) (nI y) n)), .int 0] [] (am_up (am_up g 73 (cx (usd ww n) y) (nI (wSet (f 60) (nI y) n))) 74 (cx (usd ww n) y) 0) = _ := e1
        rw [e1']
        refine ih (y + 1) _ (by omega) (fun q p r s => by rw [am_up_ne p, setC_ne s, am_up_ne s, am_up_ne r]; exact a1 q p r s) (fun j hj => by rw [am_up_j hj, setC_ne (by decide), am_up_ne (by decide), am_up_ne (by decide)]; exact a2 j hj) ?_ (fun t ht htu => ?_)
        · rw [am_up_same, cx, hu]; rfl
        · rw [am_up_ne (by decide), setC_eq]
          by_cases e : t = y
          · subst e; exact e2
          · have := cx_lt (p := usd ww n) (show t < y by omega) htu
            rw [e3 _ (by omega), am_up_j (by omega), am_up_ne (by decide)]
            exact a4 t (by omega) htu
      · have hu0 : usd ww n y = false := by simpa using hu
        have hz : wSet (f 60) (nI y) n = 0 := by rw [TN_zero hw (by omega)]; exact hu0
        rw [hz, if_pos nI_0, nI_1]
        refine ih (y + 1) g (by omega) a1 a2 ?_ (fun t ht htf => ?_)
        · rw [a3, cx, hu0]; rfl
        · by_cases e : t = y
          · subst e; rw [hu0] at htf; cases htf
          · exact a4 t (by omega) htf
  obtain ⟨g1, e1, e2, e3, e4, e5⟩ := k1 36 0 (am_up f 50 31 0) (by omega) (fun q a _ _ => am_up_ne a) (fun j hj => am_up_j hj) (am_up_same _ _ _ _) (fun t ht => absurd ht (Nat.not_lt_zero _))
  have e1' : am_run 176 7 [.ref 50, .int day, .int 0, .null, .null] [] (am_up f 50 31 0) = _ := e1
  have hu : ∀ i, i < cx (usd ww n) 36 → g1 74 i = nI (smN (fun t => if ixB ww n t = i then x t else 0) n) := by
    intro i hi
    obtain ⟨d, d1, d2, d3⟩ := cx_surj hi
    rw [← d3, e5 d d1 d2]
    congr 1
    refine smN_congr fun t ht => ?_
    have : (ww t = d) = (ixB ww n t = cx (usd ww n) d) := by
      unfold ixB
      exact propext (cx_inj (usd_iff.mpr ⟨t, ht, rfl⟩) d2).symm
    simp only [this]
  refine ⟨g1, by rw [eX9_layCodes_50, e1'], e2, e3, e4, fun g' h1 h2 p hp => ?_⟩
  have h5 := pow9 (show cx (usd ww n) 36 ≤ 9 by omega)
  rw [m_weightOf (c := cx (usd ww n) 36) (u := fun i => smN (fun t => if ixB ww n t = i then x t else 0) n) (by rw [h1]; exact e4) (by omega) (by rw [h2]; exact hu) (by omega), ld_ex (fun t ht => ixB_lt ht (hw t ht).2)]
end LayCodes
