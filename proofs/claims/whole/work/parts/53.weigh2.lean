section Weigh2
variable {n : Nat} {ww x : Nat → Nat}
theorem c_weigh {f : Hp} {day : Int32} (hn : f 2 7 = nI n) (h9 : n ≤ 9) (hw : TW n ww (f 38)) (hx : ∀ s, s < n → f 6 s * (f 3 s + f 4 s * (day / 365)) = nI (x s)) : ∃ g, am_call 17 [.ref 33, .ref 2, .ref 37, .int day] f = some (0, g) ∧ (∀ q, q ≠ 33 → q ≠ 34 → q ≠ 35 → g q = f q) ∧ (∀ j, j ≠ 3 → g 33 j = f 33 j) ∧ g 33 3 = nI (cx (fst1 ww) n) ∧ ∀ p, 1 ≤ p → p < 2 ^ cx (fst1 ww) n → g 35 p = nI (ldS x (ixA ww n) n p) := by
  have hcn := cx_le (stand := fst1 ww) n
  -- the sides that are there
  have k1 : ∀ d s g, s + d = n → (∀ q, q ≠ 33 → q ≠ 34 → g q = f q) → (∀ j, j ≠ 3 → g 33 j = f 33 j) → g 33 3 = nI (cx (fst1 ww) s) → (∀ t, t < s → fst1 ww t = true → g 34 (cx (fst1 ww) t) = nI (smN (fun u => if ww u = ww t then x u else 0) n)) → ∃ g', am_run 17 8 [.ref 33, .ref 2, .ref 37, .int day, .int (nI s), .null] [] g = am_run 17 8 [.ref 33, .ref 2, .ref 37, .int day, .int (nI n), .null] [] g' ∧ (∀ q, q ≠ 33 → q ≠ 34 → g' q = f q) ∧ (∀ j, j ≠ 3 → g' 33 j = f 33 j) ∧ g' 33 3 = nI (cx (fst1 ww) n) ∧ ∀ t, t < n → fst1 ww t = true → g' 34 (cx (fst1 ww) t) = nI (smN (fun u => if ww u = ww t then x u else 0) n) := by
    intro d
    induction d with
    | zero =>
      intro s g hs a1 a2 a3 a4
      have : s = n := by omega
      subst this
      exact ⟨g, rfl, a1, a2, a3, a4⟩
    | succ d ih =>
      intro s g hs a1 a2 a3 a4
      have hsn : s < n := by omega
      obtain ⟨s1, s2⟩ := hw.1 s hsn
      have hlt : wSet (f 38) (nI (ww s)) 9 < 512 := wSet_lt _ _ 9
      have hp9 : 2 ^ s < 2 ^ 9 := Nat.pow_lt_pow_right (by decide) (by omega)
      have hlb : lowb (wSet (f 38) (nI (ww s)) 9) < 512 := by
        have h1 := low_sub hlt
        have h2 : lowb (wSet (f 38) (nI (ww s)) 9) &&& wSet (f 38) (nI (ww s)) 9 ≤ wSet (f 38) (nI (ww s)) 9 := Nat.and_le_right
        omega
      have hcode : am_call 47 [.ref 37, .int (nI s)] g = some (nI (wSet (f 38) (nI (ww s)) 9), g) := by
        rw [c_codeOf (by omega), a1 38 (by decide) (by decide), s1, if_neg (nI_pos (by omega))]
      have hcl := cx_le (stand := fst1 ww) s
      rw [eX2_weigh_8_33_2_37, if_pos (show nI s < (9 : Int32) from nI_lt (b := 9) (by omega) (by decide)), hcode, am_cal_some, lowI hlt, shl_one (by omega), nI_1]
      by_cases hf : fst1 ww s = true
      · have he : lowb (wSet (f 38) (nI (ww s)) 9) = 2 ^ s := by rw [TW_low hw h9 hsn]; exact hf
        rw [if_pos (by rw [he]), a3, if_pos (show nI (cx (fst1 ww) s) < (9 : Int32) from nI_lt (b := 9) (by omega) (by decide)), c_weightOf (by rw [a1 2 (by decide) (by decide)]; exact hn) h9 (by omega), am_cal_some, a1 6 (by decide) (by decide), a1 3 (by decide) (by decide), a1 4 (by decide) (by decide), TW_sum hw h9 hx hsn, am_ast_in _ _ _ _ (show cx (fst1 ww) s < 9 by omega) (by decide)]
        refine ih (s + 1) _ (by omega) (fun q a b => by rw [am_up_ne a, am_up_ne b, a1 q a b]) (fun j hj => by rw [am_up_j hj, am_up_ne (by decide), a2 j hj]) ?_ (fun t ht htf => ?_)
        · rw [am_up_same, am_up_ne (by decide), a3, nI_1, cx, hf]
          rfl
        · rw [am_up_ne (by decide)]
          by_cases e : t = s
          · subst e; exact am_up_same _ _ _ _
          · have := cx_lt (p := fst1 ww) (show t < s by omega) htf
            rw [am_up_j (by omega)]
            exact a4 t (by omega) htf
      · have hf0 : fst1 ww s = false := by simpa using hf
        rw [if_neg (fun z => hf (by rw [← TW_low hw h9 hsn]; exact (nI_eq (by omega) (by omega)).mp z))]
        refine ih (s + 1) g (by omega) a1 a2 ?_ (fun t ht htf => ?_)
        · rw [a3, cx, hf0]; rfl
        · by_cases e : t = s
          · subst e; rw [hf0] at htf; cases htf
          · exact a4 t (by omega) htf
  -- the sides that are not
  have k2 : ∀ d s g, s + d = 9 → n ≤ s → g 38 = f 38 → am_run 17 8 [.ref 33, .ref 2, .ref 37, .int day, .int (nI s), .null] [] g = am_run 17 80 [.ref 33, .null, .null, .null, .int 1, .null] [] g := by
    intro d
    induction d with
    | zero =>
      intro s g hs _ _
      have : s = 9 := by omega
      subst this
      rw [eX2_weigh_8_33_2_37, if_neg (by decide)]
    | succ d ih =>
      intro s g hs hns h38
      have hp9 : 2 ^ s < 2 ^ 9 := Nat.pow_lt_pow_right (by decide) (by omega)
      have hpp := Nat.two_pow_pos s
      have e0 : nI 0 &&& -nI 0 = nI 0 := by decide
      rw [eX2_weigh_8_33_2_37, if_pos (show nI s < (9 : Int32) from nI_lt (b := 9) (by omega) (by decide)), c_codeOf (by omega), h38, hw.2 s hns (by omega), if_pos (by decide), am_cal_some, e0, shl_one (by omega), if_neg (fun z => by have := (nI_eq (a := 0) (b := 2 ^ s) (by omega) (by omega)).mp z; omega), nI_1]
      exact ih (s + 1) g (by omega) (by omega) h38
  obtain ⟨g1, e1, e2, e3, e4, e5⟩ := k1 n 0 (am_up f 33 3 0) (by omega) (fun q a _ => am_up_ne a) (fun j hj => am_up_j hj) (am_up_same _ _ _ _) (fun t ht => absurd ht (Nat.not_lt_zero _))
  have e1' : am_run 17 8 [.ref 33, .ref 2, .ref 37, .int day, .int 0, .null] [] (am_up f 33 3 0) = _ := e1
  rw [eX2_weigh_33_2_37, e1', k2 (9 - n) n g1 (by omega) (Nat.le_refl n) (e2 38 (by decide) (by decide))]
  -- the weights by codes, and the loads
  have hu : ∀ i, i < cx (fst1 ww) n → g1 34 i = nI (smN (fun t => if ixA ww n t = i then x t else 0) n) := by
    intro i hi
    obtain ⟨d, d1, d2, d3⟩ := cx_surj hi
    rw [← d3, e5 d d1 d2]
    congr 1
    refine smN_congr fun t ht => ?_
    have ed : ixA ww n d = cx (fst1 ww) d := by unfold ixA; rw [led1_self d1 d2]
    have : (ww t = ww d) = (ixA ww n t = cx (fst1 ww) d) := by rw [← ed]; exact propext (ixA_inj ht d1).symm
    simp only [this]
  have hc9 : cx (fst1 ww) n ≤ 9 := by omega
  have h5 := pow9 hc9
  have k3 : ∀ d S T, S + d = 2 ^ cx (fst1 ww) n → 1 ≤ S → (∀ p, 1 ≤ p → p < S → T p = nI (ldS x (ixA ww n) n p)) → ∃ T', am_run 17 80 [.ref 33, .null, .null, .null, .int (nI S), .null] [] (setC g1 35 T) = some (0, setC g1 35 T') ∧ ∀ p, 1 ≤ p → p < 2 ^ cx (fst1 ww) n → T' p = nI (ldS x (ixA ww n) n p) := by
    intro d
    induction d with
    | zero =>
      intro S T hS h1 hT
      have : S = 2 ^ cx (fst1 ww) n := by omega
      subst this
      refine ⟨T, ?_, hT⟩
      rw [eX2_weigh_80_33, setC_ne (by decide), e4, shl_one (by omega), if_neg (nI_nlt (Nat.le_refl _) (by omega))]
    | succ d ih =>
      intro S T hS h1 hT
      rw [eX2_weigh_80_33, setC_ne (by decide), e4, shl_one (by omega), if_pos (nI_lt (by omega) (by omega)), c_loadOf (c := cx (fst1 ww) n) (u := fun i => smN (fun t => if ixA ww n t = i then x t else 0) n) (by rw [setC_ne (by decide)]; exact e4) hc9 (by rw [setC_ne (by decide)]; exact hu) (by omega), am_cal_some, ld_ex (fun t ht => ixA_lt ht), am_ast_in _ _ _ _ (show S < 512 by omega) (by decide), up_setC, nI_1]
      refine ih (S + 1) _ (by omega) (by omega) (fun p a b => ?_)
      by_cases e : p = S
      · subst e; rw [upd_same]
      · rw [upd_ne e]; exact hT p a (by omega)
  obtain ⟨T, t1, t2⟩ := k3 (2 ^ cx (fst1 ww) n - 1) 1 (g1 35) (by have := Nat.two_pow_pos (cx (fst1 ww) n); omega) (by omega) (fun p a b => absurd b (by omega))
  rw [setC_self] at t1
  have t1' : am_run 17 80 [.ref 33, .null, .null, .null, .int 1, .null] [] g1 = _ := t1
  rw [t1']
  refine ⟨setC g1 35 T, rfl, fun q a b d => by rw [setC_ne d, e2 q a b], fun j hj => by rw [setC_ne (by decide), e3 j hj], by rw [setC_ne (by decide)]; exact e4, fun p a b => by rw [setC_eq]; exact t2 p a b⟩
end Weigh2
