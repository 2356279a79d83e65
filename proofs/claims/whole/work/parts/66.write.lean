section Write
variable {n : Nat} {lk ln : Nat → Nat} {c : Nat} {mr : Nat → Nat} {t kc : Nat} {f g : Hp}
theorem b255 : ∀ i, i < 32 → (255 : BitVec 32).getLsbD i = decide (i < 8) := by decide
theorem b255L : ∀ i, i < 32 → (255 : BitVec 64).getLsbD i = decide (i < 8) := by decide
theorem byte_mask (y : Int64) : (y.toInt32.toInt8.toInt32.toInt8.toInt32) &&& 255 = (y &&& 255).toInt32 := by
  apply Int32.toBitVec_inj.1
  rw [Int32.toBitVec_and, Int8.toBitVec_toInt32, Int32.toBitVec_toInt8, Int8.toBitVec_toInt32, Int32.toBitVec_toInt8, Int64.toBitVec_toInt32, Int64.toBitVec_toInt32, Int64.toBitVec_and]
  apply BitVec.eq_of_getLsbD_eq
  intro i hi
  have e1 : ((255 : Int32).toBitVec).getLsbD i = decide (i < 8) := b255 i hi
  have e2 : ((255 : Int64).toBitVec).getLsbD i = decide (i < 8) := b255L i hi
  rw [BitVec.getLsbD_and, BitVec.getLsbD_signExtend (x := y.toBitVec &&& Int64.toBitVec 255), BitVec.getLsbD_and, e1, e2]
  by_cases h8 : i < 8
  · have h64 : i < 64 := by omega
    rw [if_pos h64, BitVec.getLsbD_signExtend, if_pos h8, BitVec.getLsbD_signExtend, if_pos hi, BitVec.getLsbD_signExtend, if_pos h8, BitVec.getLsbD_signExtend, if_pos hi, BitVec.getLsbD_signExtend, if_pos h64]
    simp only [h8, hi, decide_true, Bool.true_and, Bool.and_true]
  · simp [h8, show i < 64 by omega]
/-- the byte that comes k places ahead of the last -/
def byC (v : Int64) (k : Nat) : Int32 := (((v >>> ((8 * nI k).toInt64 &&& 63)).toInt32).toInt8.toInt32).toInt8.toInt32
def byM (v : Int64) (k : Nat) : Int32 := ((v >>> ((8 * nI k).toInt64 &&& 63)) &&& 255).toInt32
theorem byC_M (v : Int64) (k : Nat) : byM v k = byC v k &&& 255 := (byte_mask _).symm
theorem c_app (v : Int64) : ∀ r u g, u + r ≤ 200 → g 10 1 = nI u → ∃ g', am_run 39 5 [.ref 10, .null, .long v, .null, .int (nI r + (-1))] [] g = some (0, g') ∧ (∀ q, q ≠ 10 → q ≠ 11 → g' q = g q) ∧ g' 10 1 = nI (u + r) ∧ (∀ j, j < u → g' 11 j = g 11 j) ∧ ∀ i, i < r → g' 11 (u + i) = byC v (r - 1 - i) := by
  intro r
  induction r with
  | zero =>
    intro u g hu hg
    refine ⟨g, ?_, fun _ _ _ => rfl, hg, fun _ _ => rfl, fun i hi => absurd hi (Nat.not_lt_zero _)⟩
    rw [eX5_append_5_10, if_pos (by decide)]
  | succ r ih =>
    intro u g hu hg
    obtain ⟨g', a1, a2, a3, a4, a5⟩ := ih (u + 1) (am_up (am_up g 11 u (byC v r)) 10 1 (nI (u + 1))) (by omega) (am_up_same _ _ _ _)
    refine ⟨g', ?_, fun q p s => by rw [a2 q p s, am_up_ne p, am_up_ne s], by rw [a3]; congr 1; omega, fun j hj => ?_, fun i hi => ?_⟩
    · rw [pk_m1, eX5_append_5_10, if_neg (nI_pos (by omega)), hg, if_pos (show nI u < (200 : Int32) from nI_lt (b := 200) (by omega) (by decide)), am_ast_in _ _ _ _ (show u < 200 by omega) (by decide), am_up_ne (show 10 ≠ 11 by decide), hg, nI_1]
      exact a1
    · rw [a4 j (by omega), am_up_ne (by decide), am_up_j (by omega)]
    · cases i with
      | zero =>
        rw [Nat.add_zero, a4 u (by omega), am_up_ne (by decide), am_up_same]
        rfl
      | succ i =>
        have := a5 i (by omega)
        rw [show u + (i + 1) = u + 1 + i by omega, this]
        congr 1
        omega
theorem m_app (v : Int64) : ∀ r u g, u + r ≤ 200 → g 50 6 = nI u → ∃ g', am_run 133 34 [.ref 50, .null, .long v, .null, .int (nI r + (-1))] [] g = some (nI (u + r), g') ∧ (∀ q, q ≠ 50 → q ≠ 56 → g' q = g q) ∧ (∀ j, j ≠ 6 → g' 50 j = g 50 j) ∧ g' 50 6 = nI (u + r) ∧ (∀ j, j < u → g' 56 j = g 56 j) ∧ ∀ i, i < r → g' 56 (u + i) = byM v (r - 1 - i) := by
  intro r
  induction r with
  | zero =>
    intro u g hu hg
    refine ⟨g, ?_, fun _ _ _ => rfl, fun _ _ => rfl, hg, fun _ _ => rfl, fun i hi => absurd hi (Nat.not_lt_zero _)⟩
    rw [eX9_write_34_50, if_pos (by decide), hg]; rfl
  | succ r ih =>
    intro u g hu hg
    obtain ⟨g', a1, a2, a2', a3, a4, a5⟩ := ih (u + 1) (am_up (am_up g 56 u (byM v r)) 50 6 (nI (u + 1))) (by omega) (am_up_same _ _ _ _)
    refine ⟨g', ?_, fun q p s => by rw [a2 q p s, am_up_ne p, am_up_ne s], fun j hj => by rw [a2' j hj, am_up_j hj, am_up_ne (by decide)], by rw [a3]; congr 1; omega, fun j hj => ?_, fun i hi => ?_⟩
    · rw [pk_m1, eX9_write_34_50, if_neg (nI_pos (by omega)), hg, am_ast_in _ _ _ _ (show u < 200 by omega) (by decide), am_up_ne (show 50 ≠ 56 by decide), hg, nI_1, show u + (r + 1) = u + 1 + r by omega]
      exact a1
    · rw [a4 j (by omega), am_up_ne (by decide), am_up_j (by omega)]
    · cases i with
      | zero =>
        rw [Nat.add_zero, a4 u (by omega), am_up_ne (by decide), am_up_same]
        rfl
      | succ i =>
        have := a5 i (by omega)
        rw [show u + (i + 1) = u + 1 + i by omega, this]
        congr 1
        omega
theorem op_write (h : Iv n lk ln c mr t kc f) (a1 : Int32) (v : Int64) : OP 73 133 [.int a1, .long v] f := by
  by_cases e1 : wi a1 1 8 = true
  case neg =>
    have e1 : wi a1 1 8 = false := by simpa using e1
    exact OP.same h (r := -1) (by rw [eX8_write_1, c_within', am_cal_some, e1, bi_f, if_pos rfl]) (by rw [eX9_write_50, m_in' _ _ 1 8 (by decide) (by decide), am_cal_some, e1, bi_f, if_pos rfl])
  obtain ⟨m, m1, m8, rfl⟩ := wi_nat (lo := 1) (hi := 8) (by omega) (by omega) e1
  have ht := h.2.2.1.2.1
  have h10 := h.2.2.1.1
  have h50 := h.2.2.1.2.2.1
  by_cases e2 : 200 < t + m
  · have e2' : (200 : Int32) < nI (t + m) := nI_lt (a := 200) e2 (by omega)
    exact OP.same h (r := -3) (by rw [eX8_write_1, c_within', am_cal_some, e1, bi_t, if_neg one_ne, h10, nI_add, if_pos e2']) (by rw [eX9_write_50, m_in' _ _ 1 8 (by decide) (by decide), am_cal_some, e1, bi_t, if_neg one_ne, h50, nI_add, if_pos e2'])
  have e2' : ¬ (200 : Int32) < nI (t + m) := nI_nlt (a := 200) (by omega) (by decide)
  have hm1 : nI m - 1 = nI m + (-1) := Int32.sub_eq_add_neg _ _
  obtain ⟨G, c1, c2, c3, c4, c5⟩ := c_app v m t f (by omega) h10
  obtain ⟨H, d1, d2, d2', d3, d4, d5⟩ := m_app v m t G (by omega) (by rw [c2 50 (by decide) (by decide)]; exact h50)
  have dc : ∀ q, q ∉ [10, 11, 50, 56] → H q = f q := fun q hq => by
    simp only [List.mem_cons, List.not_mem_nil, or_false, not_or] at hq
    rw [d2 q (by omega) (by omega), c2 q (by omega) (by omega)]
  have d50 : ∀ j, j ≠ 6 → H 50 j = f 50 j := fun j hj => by rw [d2' j hj, c2 50 (by decide) (by decide)]
  refine OP.act (r := nI (t + m)) (g := G) (h := H) ?_ ?_ ⟨c2 0 (by decide) (by decide), c2 77 (by decide) (by decide)⟩ ⟨d2 0 (by decide) (by decide), d2 77 (by decide) (by decide)⟩ ⟨n, lk, ln, c, mr, t + m, kc, h.1.keep (by rw [dc 2 (by decide)]) (fun q hq => dc q (fun z => ?_)) (d50 0 (by decide)), h.2.1.keep (by rw [dc 16 (by decide)]) (by rw [dc 57 (by decide)]) (dc 17 (by decide)) (dc 18 (by decide)) (dc 19 (by decide)) (fun j _ => by rw [dc 58 (by decide)]), ⟨by rw [d2 10 (by decide) (by decide)]; exact c3, by omega, d3, fun j hj => ?_⟩, h.M.keep (dc 21 (by decide)) (dc 59 (by decide)), h.K.keep (by rw [dc 1 (by decide)]) (d50 16 (by decide)) (fun q hq => dc q (fun z => ?_)), h.C.keep (by rw [dc 2 (by decide)]) (fun q hq => dc q (fun z => ?_))⟩
  · show am_call 73 [.ref 1, .int (nI m), .long v] f = _
    rw [eX8_write_1, c_within', am_cal_some, e1, bi_t, if_neg one_ne, h10, nI_add, if_neg e2', eX5_append_10, hm1, c1, am_cal_some, c3]
  · show am_call 133 [.ref 50, .int (nI m), .long v] G = _
    rw [eX9_write_50, m_in' _ _ 1 8 (by decide) (by decide), am_cal_some, e1, bi_t, if_neg one_ne, c2 50 (by decide) (by decide), h50, nI_add, if_neg e2', hm1, d1]
  · simp only [List.mem_cons, List.not_mem_nil, or_false] at z hq
    omega
  · rw [d2 11 (by decide) (by decide)]
    by_cases e : j < t
    · rw [d4 j e, c4 j e, c2 56 (by decide) (by decide)]
      exact h.2.2.1.2.2.2 j e
    · have p1 := c5 (j - t) (by omega)
      have p2 := d5 (j - t) (by omega)
      rw [show t + (j - t) = j by omega] at p1 p2
      rw [p1, p2, byC_M]
  · simp only [List.mem_cons, List.not_mem_nil, or_false] at z hq
    omega
  · simp only [List.mem_cons, List.not_mem_nil, or_false] at z hq
    omega
end Write
