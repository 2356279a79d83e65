section LayW3
variable {stand : Nat → Bool} {n c : Nat} {lk ln sh mr : Nat → Nat} {l k : Nat}
/-- the reference's best so far -/
def MWD (l k : Nat) (acc : WAcc) (g : Hp) : Prop := g 50 27 = encB acc ∧ ∀ z, acc = some z → z.1 < 1000000 ∧ ∀ i, i < k → g 71 i = nI (wd l (z.2 i))
theorem m_one {g : Hp} (hm : MWI stand lk ln n c sh mr l k g) {D : Nat → Nat} (hD : ∀ j, j < k → D j < l * l) {acc : WAcc} (hacc : MWD l k acc g) : ∃ g', am_run 160 32 [.ref 50, .int (nI l), .int (nI ((l * l) ^ k)), .int (nI (val (l * l) D k)), .null, .null, .null, .null, .null, .null] [] g = am_run 160 32 [.ref 50, .int (nI l), .int (nI ((l * l) ^ k)), .int (nI (val (l * l) D k + 1)), .null, .null, .null, .null, .null, .null] [] g' ∧ FRW g g' ∧ MWD l k (dfs (fun d => stand (wd l d)) (hmN lk n sh mr l) (l * l) 0 k D acc) g' := by
  have hm0 := hm
  obtain ⟨m1, m2, m3, m4, m5, m6, m7, m8, m9⟩ := hm
  have hB : l * l ≤ 4 * 4 := Nat.mul_le_mul m7 m7
  have hB0 : 2 * 2 ≤ l * l := Nat.mul_le_mul m6 m6
  have hpk : (l * l) ^ k ≤ 65536 := by
    have h2 : (l * l) ^ k ≤ 16 ^ k := Nat.pow_le_pow_left hB _
    have h3 : 16 ^ k ≤ 16 ^ 4 := Nat.pow_le_pow_right (by decide) (by omega)
    omega
  have hvl := val_lt (B := l * l) (D := D) (by omega) (i := k) hD
  obtain ⟨g1, e1, e2, e3⟩ := m_digits hm0 hD (tot := (l * l) ^ k) (N := val (l * l) D k) (k - 1) g (by omega) (fun _ _ => rfl) (fun j a b => absurd b (by omega))
  rw [show k - 1 + 1 = k by omega, Nat.sub_self] at e1
  have e1' : am_run 160 51 [.ref 50, .int (nI l), .int (nI ((l * l) ^ k)), .int (nI (val (l * l) D k)), .int (nI (val (l * l) D k)), .int 1, .int (nI (k - 1)), .null, .null, .null] [] g = _ := e1
  have ek : nI k - 1 = nI (k - 1) := pk_sub (b := 1) m4
  rw [eX9_layWords_32_50, if_pos (nI_lt hvl (by omega)), m3, ek, e1', dfs]
  have hfr : FRW g g1 := ⟨fun q _ _ d => e2 q d, fun j _ => by rw [e2 50 (by decide)]⟩
  have hm1 := hfr.MWI hm0
  cases hl : lgl (fun d => stand (wd l d)) D k
  · refine ⟨g1, ?_, hfr, ?_⟩
    · rw [eX9_layWords_179_50, if_pos (show bi false = 0 from rfl), if_pos (show bi false = 0 from rfl), nI_1, ite_self]
    · simp only [Bool.false_eq_true, if_false]
      exact ⟨by rw [e2 50 (by decide)]; exact hacc.1, fun z hz => by rw [e2 71 (by decide)]; exact hacc.2 z hz⟩
  · have hh := m_harm hm1 hD e3 (tot := (l * l) ^ k) (N := val (l * l) D k) k 0 (by omega)
    have hh' : am_run 160 179 [.ref 50, .int (nI l), .int (nI ((l * l) ^ k)), .int (nI (val (l * l) D k)), .null, .int (bi true), .int 0, .int 0, .null, .null] [] g1 = _ := hh
    have hle := hs_le (hm := hmN lk n sh mr l) (D := D) (a := k) m5 (fun i j x y => hmN_le m2 m6 m7 (hD i (by omega)) (hD j y))
    rw [hh', eX9_layWords_179_50, hm1.2.2.1, if_neg (nI_nlt (by omega) (by omega)), if_neg (by decide), e2 50 (by decide), hacc.1, if_pos rfl]
    have put : ∃ g', am_run 160 321 [.ref 50, .int (nI l), .int (nI ((l * l) ^ k)), .int (nI (val (l * l) D k)), .null, .null, .null, .int 0, .null, .null] [] (am_up g1 50 27 (nI (hs (hmN lk n sh mr l) D k))) = am_run 160 32 [.ref 50, .int (nI l), .int (nI ((l * l) ^ k)), .int (nI (val (l * l) D k + 1)), .null, .null, .null, .null, .null, .null] [] g' ∧ FRW g g' ∧ MWD l k (some (hs (hmN lk n sh mr l) D k, D)) g' := by
      obtain ⟨g2, c1, c2, c3⟩ := m_copy (g := am_up g1 50 27 (nI (hs (hmN lk n sh mr l) D k))) (l' := nI l) (tot' := nI ((l * l) ^ k)) (N' := nI (val (l * l) D k))
      rw [nI_1] at c1
      refine ⟨g2, c1, ⟨fun q a b d => by rw [c2 q b, am_up_ne a, e2 q d], fun j hj => by rw [c2 50 (by decide), am_up_j hj, e2 50 (by decide)]⟩, by rw [c2 50 (by decide), am_up_same]; rfl, fun z hz => ?_⟩
      have hz : (hs (hmN lk n sh mr l) D k, D) = z := Option.some.inj hz
      rw [← hz]
      refine ⟨by show hs (hmN lk n sh mr l) D k < 1000000; omega, fun i hi => ?_⟩
      rw [c3 i (by omega), am_up_ne (by decide)]
      exact e3 i hi
    cases acc with
    | none =>
      rw [if_pos (show encB none = -4 from rfl)]
      exact put
    | some z =>
      obtain ⟨z1, z2⟩ := hacc.2 z rfl
      rw [if_neg (show ¬ encB (some z) = -4 from enc4_ne (by omega))]
      unfold wput
      by_cases hlt : hs (hmN lk n sh mr l) D k < z.1
      · rw [if_pos (show nI (hs (hmN lk n sh mr l) D k) < encB (some z) from nI_lt hlt (by omega))]
        simp only [hlt, if_true]
        exact put
      · rw [if_neg (show ¬ nI (hs (hmN lk n sh mr l) D k) < encB (some z) from nI_nlt (by omega) (by omega)), nI_1]
        simp only [hlt, if_false]
        exact ⟨g1, rfl, hfr, by rw [e2 50 (by decide)]; exact hacc.1, fun y hy => by rw [e2 71 (by decide)]; exact hacc.2 y hy⟩
theorem m_all : ∀ m a (D : Nat → Nat) (g : Hp) (acc : WAcc), MWI stand lk ln n c sh mr l k g → a + m = k → (∀ j, j < a → D j < l * l) → MWD l k acc g → ∃ g', am_run 160 32 [.ref 50, .int (nI l), .int (nI ((l * l) ^ k)), .int (nI (val (l * l) D a * (l * l) ^ m)), .null, .null, .null, .null, .null, .null] [] g = am_run 160 32 [.ref 50, .int (nI l), .int (nI ((l * l) ^ k)), .int (nI ((val (l * l) D a + 1) * (l * l) ^ m)), .null, .null, .null, .null, .null, .null] [] g' ∧ FRW g g' ∧ MWD l k (dfs (fun d => stand (wd l d)) (hmN lk n sh mr l) (l * l) m a D acc) g' := by
  intro m
  induction m with
  | zero =>
    intro a D g acc hm ha hD hacc
    have : a = k := by omega
    subst this
    have := m_one hm hD hacc
    rw [Nat.pow_zero, Nat.mul_one, Nat.mul_one]
    exact this
  | succ m ih =>
    intro a D g acc hm ha hD hacc
    have key : ∀ e d h, d + e = l * l → FRW g h → MWD l k (fo (fun d acc => dfs (fun d => stand (wd l d)) (hmN lk n sh mr l) (l * l) m (a + 1) (setD D a d) acc) d acc) h → ∃ g', am_run 160 32 [.ref 50, .int (nI l), .int (nI ((l * l) ^ k)), .int (nI ((val (l * l) D a * (l * l) + d) * (l * l) ^ m)), .null, .null, .null, .null, .null, .null] [] h = am_run 160 32 [.ref 50, .int (nI l), .int (nI ((l * l) ^ k)), .int (nI ((val (l * l) D a * (l * l) + l * l) * (l * l) ^ m)), .null, .null, .null, .null, .null, .null] [] g' ∧ FRW g g' ∧ MWD l k (fo (fun d acc => dfs (fun d => stand (wd l d)) (hmN lk n sh mr l) (l * l) m (a + 1) (setD D a d) acc) (l * l) acc) g' := by
      intro e
      induction e with
      | zero =>
        intro d h hd hf hh
        have : d = l * l := by omega
        subst this
        exact ⟨h, rfl, hf, hh⟩
      | succ e ihe =>
        intro d h hd hf hh
        obtain ⟨g1, e1, e2, e3⟩ := ih (a + 1) (setD D a d) h _ (hf.MWI hm) (by omega) (fun j hj => by
          by_cases e : j = a
          · subst e; rw [setD_eq]; omega
          · rw [setD_ne e]; exact hD j (by omega)) hh
        rw [val_setD] at e1
        obtain ⟨g2, f1, f2, f3⟩ := ihe (d + 1) g1 (by omega) (hf.trans e2) (by rw [fo]; exact e3)
        exact ⟨g2, by rw [e1, Nat.add_assoc, f1], f2, f3⟩
    obtain ⟨g', e1, e2, e3⟩ := key (l * l) 0 g (by omega) (FRW.refl g) hacc
    have p1 : val (l * l) D a * (l * l) ^ (m + 1) = (val (l * l) D a * (l * l) + 0) * (l * l) ^ m := by
      rw [Nat.add_zero (val (l * l) D a * (l * l)), Nat.pow_succ, Nat.mul_comm ((l * l) ^ m) (l * l), Nat.mul_assoc (val (l * l) D a) (l * l) ((l * l) ^ m)]
    have p2 : (val (l * l) D a + 1) * (l * l) ^ (m + 1) = (val (l * l) D a * (l * l) + l * l) * (l * l) ^ m := by
      rw [Nat.pow_succ, Nat.mul_comm ((l * l) ^ m) (l * l), ← Nat.mul_assoc (val (l * l) D a + 1) (l * l) ((l * l) ^ m), Nat.add_mul (val (l * l) D a) 1 (l * l), Nat.one_mul]
    rw [p1, p2, dfs]
    exact ⟨g', e1, e2, e3⟩
theorem m_layWords {g : Hp} (hm : MWI stand lk ln n c sh mr l k g) : ∃ g', am_call 160 [.ref 50, .int (nI l)] g = some (bi (!decide (WB (fun d => stand (wd l d)) (hmN lk n sh mr l) (l * l) k = none)), g') ∧ FRW g g' ∧ MWD l k (WB (fun d => stand (wd l d)) (hmN lk n sh mr l) (l * l) k) g' := by
  have hm0 := hm
  obtain ⟨m1, m2, m3, m4, m5, m6, m7, m8, m9⟩ := hm
  have hB : l * l ≤ 4 * 4 := Nat.mul_le_mul m7 m7
  have hpk : (l * l) ^ k ≤ 65536 := by
    have h2 : (l * l) ^ k ≤ 16 ^ k := Nat.pow_le_pow_left hB _
    have h3 : 16 ^ k ≤ 16 ^ 4 := Nat.pow_le_pow_right (by decide) (by omega)
    omega
  generalize hg1 : am_up g 50 27 (-4) = g1
  have hfr : FRW g g1 := ⟨fun q a _ _ => by rw [← hg1, am_up_ne a], fun j hj => by rw [← hg1, am_up_j hj]⟩
  have hm1 := hfr.MWI hm0
  have tot : ∀ e i, i + e = k → am_run 160 10 [.ref 50, .int (nI l), .int (nI ((l * l) ^ i)), .int (nI i), .null, .null, .null, .null, .null, .null] [] g1 = am_run 160 32 [.ref 50, .int (nI l), .int (nI ((l * l) ^ k)), .int 0, .null, .null, .null, .null, .null, .null] [] g1 := by
    intro e
    induction e with
    | zero =>
      intro i hi
      have : i = k := by omega
      subst this
      rw [eX9_layWords_10_50, hm1.2.2.1, if_neg (nI_nlt (by omega) (by omega))]
    | succ e ih =>
      intro i hi
      rw [eX9_layWords_10_50, hm1.2.2.1, if_pos (nI_lt (by omega) (by omega)), pk_mul, pk_mul, nI_1, ← Nat.pow_succ]
      exact ih (i + 1) (by omega)
  have t0 := tot k 0 (by omega)
  have t0' : am_run 160 10 [.ref 50, .int (nI l), .int 1, .int 0, .null, .null, .null, .null, .null, .null] [] g1 = _ := t0
  obtain ⟨g', e1, e2, e3⟩ := m_all (stand := stand) (n := n) (c := c) (lk := lk) (ln := ln) (sh := sh) (mr := mr) (l := l) (k := k) k 0 (fun _ => 0) g1 none hm1 (by omega) (fun j hj => absurd hj (Nat.not_lt_zero _)) ⟨by rw [← hg1, am_up_same]; rfl, fun z hz => by cases hz⟩
  rw [val, Nat.zero_mul, Nat.zero_add, Nat.one_mul] at e1
  have e1' : am_run 160 32 [.ref 50, .int (nI l), .int (nI ((l * l) ^ k)), .int 0, .null, .null, .null, .null, .null, .null] [] g1 = _ := e1
  have e3' : MWD l k (WB (fun d => stand (wd l d)) (hmN lk n sh mr l) (l * l) k) g' := e3
  rw [eX9_layWords_50, hg1, t0', e1', eX9_layWords_32_50, if_neg (nI_nlt (Nat.le_refl _) (by omega)), e3'.1, am_z0, am_z1]
  refine ⟨g', ?_, hfr.trans e2, e3'⟩
  cases hW : WB (fun d => stand (wd l d)) (hmN lk n sh mr l) (l * l) k with
  | none => rw [if_pos (show encB none = -4 from rfl)]; rfl
  | some z =>
    have := (e3'.2 z hW).1
    rw [if_neg (show ¬ encB (some z) = -4 from enc4_ne (by omega))]
    rfl
end LayW3
