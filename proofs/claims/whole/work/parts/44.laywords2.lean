def encB : WAcc → Int32
  | none => -4
  | some z => nI z.1
theorem dvN {x : Nat} (h0 : 0 < x) (h : x < 2 ^ 31) (r : Option Rs) : am_dv (nI x) r = r := by
  unfold am_dv
  rw [if_neg (nI_ne0 h0 h)]
section LayW2
variable {stand : Nat → Bool} {n c : Nat} {lk ln sh mr : Nat → Nat} {l k : Nat}
theorem m_dif {g : Hp} {D : Nat → Nat} {i tot N : Nat} {a4 : Int32} (hk : g 50 25 = nI k) (hk4 : k ≤ 4) (h2 : 2 ≤ l) (h4 : l ≤ 4) (hD : ∀ j, j < k → D j < l * l) (hi : i < k) (hw : ∀ j, i ≤ j → j < k → g 72 j = nI (wd l (D j))) : ∀ e j b, j + e = k → i < j → am_run 160 123 [.ref 50, .int (nI l), .int (nI tot), .int (nI N), .int a4, .int (bi b), .int (nI i), .null, .int (nI j), .null] [] g = am_run 160 51 [.ref 50, .int (nI l), .int (nI tot), .int (nI N), .int a4, .int (bi (b && dfB D i e j)), .int (nI i + (-1)), .null, .null, .null] [] g := by
  intro e
  induction e with
  | zero =>
    intro j b hj hij
    rw [eX9_layWords_123_50, hk, if_neg (nI_nlt (by omega) (by omega)), dfB, Bool.and_true]
  | succ e ih =>
    intro j b hj hij
    have i0 := ih (j + 1) false (by omega) (by omega)
    have i1 := ih (j + 1) true (by omega) (by omega)
    have i0' : am_run 160 123 [.ref 50, .int (nI l), .int (nI tot), .int (nI N), .int a4, .int 0, .int (nI i), .null, .int (nI (j + 1)), .null] [] g = _ := i0
    have i1' : am_run 160 123 [.ref 50, .int (nI l), .int (nI tot), .int (nI N), .int a4, .int 1, .int (nI i), .null, .int (nI (j + 1)), .null] [] g = _ := i1
    have w1 := wd_ok h2 h4 (hD j (by omega))
    have w2 := wd_ok h2 h4 (hD i hi)
    rw [eX9_layWords_123_50, hk, if_pos (nI_lt (by omega) (by omega)), am_ald_in _ _ _ (show j < 4 by omega) (by decide), am_ald_in _ _ _ (show i < 4 by omega) (by decide), hw j (by omega) (by omega), hw i (by omega) hi, nI_1, i0', i1', dfB]
    simp only [bi_eq0]
    cases b
    · rw [if_pos rfl]; rfl
    · rw [if_neg (by decide)]
      by_cases he : D j = D i
      · rw [if_pos (by rw [he])]
        simp [he]
      · rw [if_neg (fun z => he ((wd_inj h2 h4 (hD j (by omega)) (hD i hi)).mp ((nI_eq (by omega) (by omega)).mp z)))]
        simp [he]
theorem m_dstep {g : Hp} (hm : MWI stand lk ln n c sh mr l k g) {D : Nat → Nat} (hD : ∀ j, j < k → D j < l * l) {tot N i : Nat} (hi : i < k) (hw : ∀ j, i < j → j < k → g 72 j = nI (wd l (D j))) : ∃ g', am_run 160 51 [.ref 50, .int (nI l), .int (nI tot), .int (nI N), .int (nI (val (l * l) D (i + 1))), .int (bi (lgD (fun d => stand (wd l d)) D k (k - (i + 1)) (i + 1))), .int (nI i), .null, .null, .null] [] g = am_run 160 51 [.ref 50, .int (nI l), .int (nI tot), .int (nI N), .int (nI (val (l * l) D i)), .int (bi (lgD (fun d => stand (wd l d)) D k (k - i) i)), .int (nI i + (-1)), .null, .null, .null] [] g' ∧ (∀ q, q ≠ 72 → g' q = g q) ∧ ∀ j, i ≤ j → j < k → g' 72 j = nI (wd l (D j)) := by
  obtain ⟨m1, m2, m3, m4, m5, m6, m7, m8, m9⟩ := hm
  have hB : l * l ≤ 4 * 4 := Nat.mul_le_mul m7 m7
  have hB0 : 2 * 2 ≤ l * l := Nat.mul_le_mul m6 m6
  have hDi := hD i hi
  have hw36 := wd_ok m6 m7 hDi
  have hv : val (l * l) D (i + 1) < 65536 + 1 := by
    have h1 := val_lt (B := l * l) (D := D) (by omega) (i := i + 1) (fun j hj => hD j (by omega))
    have h2 : (l * l) ^ (i + 1) ≤ 16 ^ (i + 1) := Nat.pow_le_pow_left hB _
    have h3 : 16 ^ (i + 1) ≤ 16 ^ 4 := Nat.pow_le_pow_right (by decide) (by omega)
    omega
  obtain ⟨v1, v2⟩ := val_div (B := l * l) (D := D) (by omega) hDi
  have e1 : nI (val (l * l) D (i + 1)) / nI (l * l) = nI (val (l * l) D i) := by rw [pk_div (by omega) (by omega) (by omega), v1]
  have e2 : nI (val (l * l) D (i + 1)) - nI (val (l * l) D (i + 1)) / nI (l * l) * nI (l * l) = nI (D i) := by rw [pk_rem (by omega) (by omega) (by omega), v2]
  have e3 : nI (D i) / nI l = nI (D i / l) := pk_div (by omega) (by omega) (by omega)
  have e4 : nI (D i) - nI (D i) / nI l * nI l = nI (D i % l) := pk_rem (by omega) (by omega) (by omega)
  have e5 : 6 * nI (D i / l) + nI (D i % l) = nI (wd l (D i)) := by
    show nI 6 * nI (D i / l) + nI (D i % l) = _
    rw [pk_mul, nI_add]
    rfl
  generalize hg1 : am_up g 72 i (nI (wd l (D i))) = g1
  have hne : ∀ q, q ≠ 72 → g1 q = g q := fun q h => by rw [← hg1, am_up_ne h]
  have hw1 : ∀ j, i ≤ j → j < k → g1 72 j = nI (wd l (D j)) := by
    intro j h1 h2
    rw [← hg1]
    by_cases e : j = i
    · subst e; exact am_up_same _ _ _ _
    · rw [am_up_j e]; exact hw j (by omega) h2
  have hdif := m_dif (g := g1) (D := D) (i := i) (tot := tot) (N := N) (a4 := nI (val (l * l) D i)) (by rw [hne 50 (by decide)]; exact m3) m5 m6 m7 hD hi hw1 (k - (i + 1)) (i + 1)
  have d0 := hdif false (by omega) (by omega)
  have d1 := hdif true (by omega) (by omega)
  have d0' : am_run 160 123 [.ref 50, .int (nI l), .int (nI tot), .int (nI N), .int (nI (val (l * l) D i)), .int 0, .int (nI i), .null, .int (nI (i + 1)), .null] [] g1 = _ := d0
  have d1' : am_run 160 123 [.ref 50, .int (nI l), .int (nI tot), .int (nI N), .int (nI (val (l * l) D i)), .int 1, .int (nI i), .null, .int (nI (i + 1)), .null] [] g1 = _ := d1
  have hst := m9 (wd l (D i)) hw36.1 g1 (hne 57 (by decide)) (hne 58 (by decide))
  refine ⟨g1, ?_, hne, hw1⟩
  rw [eX9_layWords_51_50, if_neg (nI_pos (by omega)), pk_mul, dvN (by omega) (by omega), dvN (by omega) (by omega), dvN (by omega) (by omega), dvN (by omega) (by omega), e2, e1, e3, show nI (D i) - nI (D i / l) * nI l = nI (D i % l) by rw [← e3]; exact e4, e5, am_ast_in _ _ _ _ (show i < 4 by omega) (by decide), hg1, am_ald_in _ _ _ (show i < 4 by omega) (by decide), hw1 i (by omega) hi, hst, am_cal_some, nI_1, d0', d1', show k - i = (k - (i + 1)) + 1 by omega, lgD]
  simp only [bi_eq0]
  cases lgD (fun d => stand (wd l d)) D k (k - (i + 1)) (i + 1)
  · rw [if_pos rfl]; rfl
  · rw [if_neg (by decide)]
    cases stand (wd l (D i))
    · rw [if_pos rfl]; rfl
    · rw [if_neg (by decide)]; rfl
theorem m_digits {g0 : Hp} (hm : MWI stand lk ln n c sh mr l k g0) {D : Nat → Nat} (hD : ∀ j, j < k → D j < l * l) {tot N : Nat} : ∀ i g, i < k → (∀ q, q ≠ 72 → g q = g0 q) → (∀ j, i < j → j < k → g 72 j = nI (wd l (D j))) → ∃ g', am_run 160 51 [.ref 50, .int (nI l), .int (nI tot), .int (nI N), .int (nI (val (l * l) D (i + 1))), .int (bi (lgD (fun d => stand (wd l d)) D k (k - (i + 1)) (i + 1))), .int (nI i), .null, .null, .null] [] g = am_run 160 179 [.ref 50, .int (nI l), .int (nI tot), .int (nI N), .null, .int (bi (lgl (fun d => stand (wd l d)) D k)), .int 0, .int 0, .null, .null] [] g' ∧ (∀ q, q ≠ 72 → g' q = g0 q) ∧ ∀ j, j < k → g' 72 j = nI (wd l (D j)) := by
  intro i
  induction i with
  | zero =>
    intro g hi hq hw
    have hfr : FRW g0 g := ⟨fun q _ _ d => hq q d, fun j _ => by rw [hq 50 (by decide)]⟩
    obtain ⟨g', e1, e2, e3⟩ := m_dstep (hfr.MWI hm) hD (tot := tot) (N := N) hi hw
    refine ⟨g', ?_, fun q h => by rw [e2 q h, hq q h], fun j hj => e3 j (by omega) hj⟩
    rw [e1, eX9_layWords_51_50, if_pos (by decide), Nat.sub_zero, lgD_lgl]
  | succ i ih =>
    intro g hi hq hw
    have hfr : FRW g0 g := ⟨fun q _ _ d => hq q d, fun j _ => by rw [hq 50 (by decide)]⟩
    obtain ⟨g1, e1, e2, e3⟩ := m_dstep (hfr.MWI hm) hD (tot := tot) (N := N) hi hw
    obtain ⟨g', f1, f2, f3⟩ := ih g1 (by omega) (fun q h => by rw [e2 q h, hq q h]) (fun j a b => e3 j (by omega) b)
    exact ⟨g', by rw [e1, pk_m1, f1], f2, f3⟩
/-- the harm, counted -/
theorem m_harm {g : Hp} (hm : MWI stand lk ln n c sh mr l k g) {D : Nat → Nat} (hD : ∀ j, j < k → D j < l * l) (hw : ∀ j, j < k → g 72 j = nI (wd l (D j))) {tot N : Nat} : ∀ e j, j + e = k → am_run 160 179 [.ref 50, .int (nI l), .int (nI tot), .int (nI N), .null, .int 1, .int (nI (hs (hmN lk n sh mr l) D j)), .int (nI j), .null, .null] [] g = am_run 160 179 [.ref 50, .int (nI l), .int (nI tot), .int (nI N), .null, .int 1, .int (nI (hs (hmN lk n sh mr l) D k)), .int (nI k), .null, .null] [] g := by
  obtain ⟨m1, m2, m3, m4, m5, m6, m7, m8, m9⟩ := hm
  have inner : ∀ j, j < k → ∀ e i, i + e = j → am_run 160 196 [.ref 50, .int (nI l), .int (nI tot), .int (nI N), .null, .int 1, .int (nI (hs (hmN lk n sh mr l) D j + hl (hmN lk n sh mr l) D j i)), .int (nI j), .int (nI i), .null] [] g = am_run 160 179 [.ref 50, .int (nI l), .int (nI tot), .int (nI N), .null, .int 1, .int (nI (hs (hmN lk n sh mr l) D (j + 1))), .int (nI (j + 1)), .null, .null] [] g := by
    intro j hj e
    induction e with
    | zero =>
      intro i hi
      have : i = j := by omega
      subst this
      rw [eX9_layWords_196_50, if_neg (nI_nlt (by omega) (by omega)), nI_1, hs]
    | succ e ih =>
      intro i hi
      have wi := (wd_ok m6 m7 (hD i (by omega))).1
      have wj := (wd_ok m6 m7 (hD j hj)).1
      have r1 := (rdW_nI m2 wi wj).1
      have r2 := (rdW_nI m2 wj wi).1
      obtain ⟨s1, s2⟩ := m8 i (by omega)
      obtain ⟨s3, s4⟩ := m8 j hj
      rw [eX9_layWords_196_50, if_pos (nI_lt (by omega) (by omega)), am_ald_in _ _ _ (show i < 4 by omega) (by decide), am_ald_in _ _ _ (show j < 4 by omega) (by decide), hw i (by omega), hw j hj, m_readAs wi wj, am_cal_some, am_ald_in _ _ _ (show j < 4 by omega) (by decide), am_ald_in _ _ _ (show i < 4 by omega) (by decide), hw i (by omega), hw j hj, m_readAs wj wi, am_cal_some, am_ald_in _ _ _ (show i < 9 by omega) (by decide), am_ald_in _ _ _ (show j < 9 by omega) (by decide), s1, s3, m_areLinked m1 s2 s4, am_cal_some, r1, r2, nI_add, nI_1, ← ih (i + 1) (by omega), hl]
      simp only [bi_eq0]
      have e3 : (3 : Int32) * nI (rWN mr (wd l (D i)) (wd l (D j)) + rWN mr (wd l (D j)) (wd l (D i))) = nI ((rWN mr (wd l (D i)) (wd l (D j)) + rWN mr (wd l (D j)) (wd l (D i))) * 3) := by
        show nI 3 * nI _ = _
        rw [pk_mul, Nat.mul_comm]
      rw [e3, nI_add, nI_add]
      unfold hmN tmN
      cases lnk lk n (sh i) (sh j)
      · rw [if_pos rfl]
        simp only [Bool.false_eq_true, if_false, Nat.mul_one, Nat.add_assoc]
      · rw [if_neg (by decide)]
        simp only [if_true, Nat.add_assoc]
  intro e
  induction e with
  | zero =>
    intro j hj
    have : j = k := by omega
    subst this
    rfl
  | succ e ih =>
    intro j hj
    have hin := inner j (by omega) j 0 (by omega)
    have hin' : am_run 160 196 [.ref 50, .int (nI l), .int (nI tot), .int (nI N), .null, .int 1, .int (nI (hs (hmN lk n sh mr l) D j)), .int (nI j), .int 0, .null] [] g = _ := hin
    rw [eX9_layWords_179_50, m3, if_pos (nI_lt (by omega) (by omega)), if_neg (by decide), hin', ih (j + 1) (by omega)]
theorem m_copy {g : Hp} {l' tot' N' : Int32} : ∃ g', am_run 160 321 [.ref 50, .int l', .int tot', .int N', .null, .null, .null, .int 0, .null, .null] [] g = am_run 160 32 [.ref 50, .int l', .int tot', .int (N' + 1), .null, .null, .null, .null, .null, .null] [] g' ∧ (∀ q, q ≠ 71 → g' q = g q) ∧ ∀ i, i < 4 → g' 71 i = g 72 i := by
  have key : ∀ e i h, i + e = 4 → (∀ q, q ≠ 71 → h q = g q) → (∀ j, j < i → h 71 j = g 72 j) → ∃ g', am_run 160 321 [.ref 50, .int l', .int tot', .int N', .null, .null, .null, .int (nI i), .null, .null] [] h = am_run 160 32 [.ref 50, .int l', .int tot', .int (N' + 1), .null, .null, .null, .null, .null, .null] [] g' ∧ (∀ q, q ≠ 71 → g' q = g q) ∧ ∀ i, i < 4 → g' 71 i = g 72 i := by
    intro e
    induction e with
    | zero =>
      intro i h hi h1 h2
      have : i = 4 := by omega
      subst this
      refine ⟨h, ?_, h1, h2⟩
      rw [eX9_layWords_321_50, if_neg (by decide)]
    | succ e ih =>
      intro i h hi h1 h2
      rw [eX9_layWords_321_50, if_pos (show nI i < (4 : Int32) from nI_lt (b := 4) (by omega) (by decide)), am_ald_in _ _ _ (show i < 4 by omega) (by decide), am_ast_in _ _ _ _ (show i < 4 by omega) (by decide), h1 72 (by decide), nI_1]
      refine ih (i + 1) _ (by omega) (fun q hq => by rw [am_up_ne hq, h1 q hq]) (fun j hj => ?_)
      by_cases e : j = i
      · subst e; exact am_up_same _ _ _ _
      · rw [am_up_j e]; exact h2 j (by omega)
  exact key 4 0 g (by omega) (fun _ _ => rfl) (fun j hj => absurd hj (Nat.not_lt_zero _))
end LayW2
