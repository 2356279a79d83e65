def encH : WAcc → Int32
  | none => 1000000
  | some z => nI z.1
/-- what stays while the class chooses -/
def CHI (stand : Nat → Bool) (hm : Nat → Nat → Nat → Nat → Nat) (l B k : Nat) (g : Hp) : Prop := g 27 9 = nI (cx stand B) ∧ g 27 10 = nI k ∧ B ≤ 16 ∧ k ≤ 4 ∧ (∀ d, d < B → stand d = true → g 28 (cx stand d) = nI (wd l d)) ∧ (∀ i j d e, i < k → j < k → d < B → e < B → stand d = true → stand e = true → g 29 (cx stand d * 16 + cx stand e) * g 30 (i * 4 + j) = nI (hm i j d e)) ∧ ∀ i j d e, i < k → j < k → d < B → e < B → hm i j d e ≤ 60000
/-- what is chosen, and the best so far -/
def CHD (stand : Nat → Bool) (l k : Nat) (D : Nat → Nat) (a : Nat) (acc : WAcc) (g : Hp) : Prop := (∀ i, i < a → g 31 i = nI (cx stand (D i))) ∧ g 27 11 = encH acc ∧ ∀ z, acc = some z → z.1 < 1000000 ∧ ∀ i, i < k → g 32 i = nI (wd l (z.2 i))
def FRC (a : Nat) (g g' : Hp) : Prop := (∀ q, q ≠ 27 → q ≠ 31 → q ≠ 32 → g' q = g q) ∧ (∀ j, j ≠ 11 → g' 27 j = g 27 j) ∧ ∀ i, i < a → g' 31 i = g 31 i
theorem FRC.trans {a : Nat} {g h j : Hp} (x : FRC a g h) (y : FRC a h j) : FRC a g j := ⟨fun q p r s => by rw [y.1 q p r s, x.1 q p r s], fun i hi => by rw [y.2.1 i hi, x.2.1 i hi], fun i hi => by rw [y.2.2 i hi, x.2.2 i hi]⟩
theorem FRC.refl (a : Nat) (g : Hp) : FRC a g g := ⟨fun _ _ _ _ => rfl, fun _ _ => rfl, fun _ _ => rfl⟩
theorem FRC.weak {a b : Nat} {g h : Hp} (x : FRC a g h) (hb : b ≤ a) : FRC b g h := ⟨x.1, x.2.1, fun i hi => x.2.2 i (by omega)⟩
section Choose
variable {stand : Nat → Bool} {hm : Nat → Nat → Nat → Nat → Nat} {l B k : Nat}
theorem FRC.CHI {a : Nat} {g h : Hp} (x : FRC a g h) (c : CHI stand hm l B k g) : CHI stand hm l B k h := by
  obtain ⟨c1, c2, c3, c4, c5, c6, c7⟩ := c
  refine ⟨by rw [x.2.1 9 (by decide)]; exact c1, by rw [x.2.1 10 (by decide)]; exact c2, c3, c4, ?_, ?_, c7⟩
  · rw [x.1 28 (by decide) (by decide) (by decide)]; exact c5
  · rw [x.1 29 (by decide) (by decide) (by decide), x.1 30 (by decide) (by decide) (by decide)]; exact c6
theorem hl_le {D : Nat → Nat} {j : Nat} (h : ∀ i, i < j → hm i j (D i) (D j) ≤ 60000) : ∀ i, i ≤ j → hl hm D j i ≤ 60000 * i
  | 0, _ => Nat.le_refl _
  | i + 1, hi => by
    have h1 := hl_le h i (by omega)
    have h2 := h i (by omega)
    rw [hl]
    omega
theorem hs_le {D : Nat → Nat} {a : Nat} (h4 : a ≤ 4) (h : ∀ i j, i < j → j < a → hm i j (D i) (D j) ≤ 60000) : hs hm D a ≤ 60000 * (a * 4) := by
  induction a with
  | zero => exact Nat.zero_le _
  | succ a ih =>
    have h1 := ih (by omega) (fun i j x y => h i j x (by omega))
    have h2 := hl_le (hm := hm) (D := D) (j := a) (fun i hi => h i a hi (by omega)) a (Nat.le_refl a)
    rw [hs]
    omega
theorem c_isChosen {g : Hp} {D : Nat → Nat} {a d : Nat} (h4 : a ≤ 4) (hd : stand d = true) (hd16 : d < 16) (hD : ∀ i, i < a → stand (D i) = true ∧ D i < 16) (hc : ∀ i, i < a → g 31 i = nI (cx stand (D i))) : am_call 64 [.ref 27, .int (nI (cx stand d)), .int (nI a)] g = some (bi (!neqB D d a), g) := by
  have key : ∀ e i, i + e = a → neqB D d i = true → am_run 64 2 [.ref 27, .int (nI (cx stand d)), .int (nI a), .int (nI i)] [] g = some (bi (!neqB D d a), g) := by
    intro e
    induction e with
    | zero =>
      intro i hi hq
      have : i = a := by omega
      subst this
      rw [eX7_isChosen_2_27, if_neg (nI_nlt (by omega) (by omega)), hq]
      exact am_z0 _
    | succ e ih =>
      intro i hi hq
      obtain ⟨s1, s2⟩ := hD i (by omega)
      have l1 := cx_le (stand := stand) (D i)
      have l2 := cx_le (stand := stand) d
      rw [eX7_isChosen_2_27, if_pos (nI_lt (by omega) (by omega)), am_ald_in _ _ _ (show i < 4 by omega) (by decide), hc i (by omega), nI_1]
      by_cases he : D i = d
      · rw [if_pos (by rw [he])]
        have : neqB D d a = false := by
          cases hn : neqB D d a with
          | false => rfl
          | true => exact absurd he (neqB_iff.mp hn i (by omega))
        rw [this]
        exact am_z1 _
      · rw [if_neg (fun e => he ((cx_inj s1 hd).mp ((nI_eq (by omega) (by omega)).mp e)))]
        exact ih (i + 1) (by omega) (by rw [neqB, hq]; simp [he])
  rw [eX7_isChosen_27]
  exact key a 0 (by omega) rfl
theorem c_harmOfLast {g : Hp} {D : Nat → Nat} {a : Nat} (hi : CHI stand hm l B k g) (ha : a < k) (hD : ∀ i, i ≤ a → stand (D i) = true ∧ D i < B) (hc : ∀ i, i ≤ a → g 31 i = nI (cx stand (D i))) : am_call 65 [.ref 27, .int (nI a)] g = some (nI (hl hm D a a), g) := by
  obtain ⟨c1, c2, c3, c4, c5, c6, c7⟩ := hi
  have key : ∀ e i, i + e = a → am_run 65 4 [.ref 27, .int (nI a), .int (nI (hl hm D a i)), .int (nI i)] [] g = some (nI (hl hm D a a), g) := by
    intro e
    induction e with
    | zero =>
      intro i hi
      have : i = a := by omega
      subst this
      rw [eX7_harmOfLast_4_27, if_neg (nI_nlt (by omega) (by omega))]
    | succ e ih =>
      intro i hi
      obtain ⟨s1, s2⟩ := hD i (by omega)
      obtain ⟨t1, t2⟩ := hD a (by omega)
      have l1 := cx_le (stand := stand) (D i)
      have l2 := cx_le (stand := stand) (D a)
      rw [eX7_harmOfLast_4_27, if_pos (nI_lt (by omega) (by omega)), am_ald_in _ _ _ (show i < 4 by omega) (by decide), am_ald_in _ _ _ (show a < 4 by omega) (by decide), hc i (by omega), hc a (by omega), idx16, am_ald_in _ _ _ (show cx stand (D i) * 16 + cx stand (D a) < 256 by omega) (by decide), idx4, am_ald_in _ _ _ (show i * 4 + a < 16 by omega) (by decide), c6 i a _ _ (by omega) ha s2 t2 s1 t1, nI_add, nI_1]
      exact ih (i + 1) (by omega)
  rw [eX7_harmOfLast_27]
  exact key a 0 (by omega)
/-- the call number m chooses from the place a on -/
def ChOK (stand : Nat → Bool) (hm : Nat → Nat → Nat → Nat → Nat) (l B k m a : Nat) : Prop := ∀ g D acc, CHI stand hm l B k g → CHD stand l k D a acc g → lgl stand D a = true → (∀ i, i < a → D i < B) → a ≤ k → ∃ g', am_call m [.ref 27, .int (nI a), .int (nI (hs hm D a))] g = some (0, g') ∧ FRC a g g' ∧ CHD stand l k D a (dfs stand hm B (k - a) a D acc) g'
theorem dfs_b {D : Nat → Nat} {m a : Nat} (h4 : a + m ≤ 4) (hb : ∀ i j d e, i < a + m → j < a + m → d < B → e < B → hm i j d e ≤ 60000) (hD : ∀ i, i < a → D i < B) : ∀ acc : WAcc, (∀ z, acc = some z → z.1 < 1000000) → ∀ z, dfs stand hm B m a D acc = some z → z.1 < 1000000 := by
  intro acc hacc
  refine dfs_all (P := fun acc => ∀ z, acc = some z → z.1 < 1000000) (fun E h1 h2 h3 acc h z hz => ?_) acc hacc
  have hE : ∀ j, j < a + m → E j < B := fun j hj => by
    by_cases hja : j < a
    · rw [h1 j hja]; exact hD j hja
    · exact h2 j (by omega) hj
  have hle := hs_le (hm := hm) (D := E) (a := a + m) h4 (fun i j x y => hb i j _ _ (by omega) y (hE i (by omega)) (hE j y))
  unfold wput at hz
  cases acc with
  | none =>
    have : (hs hm E (a + m), E) = z := Option.some.inj hz
    rw [← this]
    show hs hm E (a + m) < 1000000
    omega
  | some y =>
    have hz : (if hs hm E (a + m) < y.1 then some (hs hm E (a + m), E) else some y) = some z := hz
    split at hz
    · have : (hs hm E (a + m), E) = z := Option.some.inj hz
      rw [← this]
      show hs hm E (a + m) < 1000000
      omega
    · exact h z hz
theorem c_ch1_29 {g : Hp} {D : Nat → Nat} (hi : CHI stand hm l B k g) (hD : ∀ i, i < k → stand (D i) = true ∧ D i < B) (hc : ∀ i, i < k → g 31 i = nI (cx stand (D i))) : ∃ g', am_run 59 29 [.ref 27, .null, .null, .int 0] [] g = some (0, g') ∧ (∀ q, q ≠ 32 → g' q = g q) ∧ ∀ i, i < k → g' 32 i = nI (wd l (D i)) := by
  obtain ⟨c1, c2, c3, c4, c5, c6, c7⟩ := hi
  have key : ∀ e i h, i + e = k → (∀ q, q ≠ 32 → h q = g q) → (∀ j, j < i → h 32 j = nI (wd l (D j))) → ∃ g', am_run 59 29 [.ref 27, .null, .null, .int (nI i)] [] h = some (0, g') ∧ (∀ q, q ≠ 32 → g' q = g q) ∧ ∀ i, i < k → g' 32 i = nI (wd l (D i)) := by
    intro e
    induction e with
    | zero =>
      intro i h hi h1 h2
      have : i = k := by omega
      subst this
      refine ⟨h, ?_, h1, h2⟩
      rw [eX7_choose_1_29_27, h1 27 (by decide), c2, if_neg (nI_nlt (by omega) (by omega))]
    | succ e ih =>
      intro i h hi h1 h2
      obtain ⟨s1, s2⟩ := hD i (by omega)
      have l1 := cx_le (stand := stand) (D i)
      rw [eX7_choose_1_29_27, h1 27 (by decide), c2, if_pos (nI_lt (by omega) (by omega)), am_ald_in _ _ _ (show i < 4 by omega) (by decide), h1 31 (by decide), hc i (by omega), am_ald_in _ _ _ (show cx stand (D i) < 16 by omega) (by decide), h1 28 (by decide), c5 _ s2 s1, am_ast_in _ _ _ _ (show i < 4 by omega) (by decide), nI_1]
      refine ih (i + 1) _ (by omega) (fun q hq => by rw [am_up_ne hq, h1 q hq]) (fun j hj => ?_)
      by_cases hji : j = i
      · subst hji; exact am_up_same _ _ _ _
      · rw [am_up_j hji]
        exact h2 j (by omega)
  exact key k 0 g (by omega) (fun _ _ => rfl) (fun j hj => absurd hj (Nat.not_lt_zero _))
theorem c_ch1 : ChOK stand hm l B k 59 4 := by
  intro g D acc hi hd hl hB hak
  have hi0 := hi
  obtain ⟨c1, c2, c3, c4, c5, c6, c7⟩ := hi
  obtain ⟨d1, d2, d3⟩ := hd
  have hst := (lgl_iff.mp hl).1
  have hle := hs_le (hm := hm) (D := D) (a := 4) (by omega) (fun i j x y => c7 i j _ _ (by omega) (by omega) (hB i (by omega)) (hB j y))
  rw [eX7_choose_1_27, d2]
  cases acc with
  | some z =>
    obtain ⟨z1, z2⟩ := d3 z rfl
    by_cases hlt : hs hm D 4 < z.1
    · rw [if_pos (show nI (hs hm D 4) < encH (some z) from nI_lt hlt (by omega))]
      rw [if_neg (show ¬ (4 : Int32) < nI 4 by decide)]
      by_cases hk : 4 = k
      · rw [c2, if_pos (by rw [hk])]
        have hup : ∀ q, q ≠ 27 → am_up g 27 11 (nI (hs hm D 4)) q = g q := fun q h => am_up_ne h
        have hfr : FRC 4 g (am_up g 27 11 (nI (hs hm D 4))) := ⟨fun q a _ _ => hup q a, fun j hj => am_up_j hj, fun i _ => by rw [hup 31 (by decide)]⟩
        obtain ⟨g', e1, e2, e3⟩ := c_ch1_29 (hfr.CHI hi0) (D := D) (fun i hik => ⟨hst i (by omega), hB i (by omega)⟩) (fun i hik => by rw [hup 31 (by decide)]; exact d1 i (by omega))
        have hdf : dfs stand hm B (k - 4) 4 D (some z) = some (hs hm D 4, D) := by
          rw [show k - 4 = 0 by omega, dfs, hl, if_pos rfl]
          unfold wput; simp only [hlt, if_true]
        refine ⟨g', e1, ⟨fun q a b d => by rw [e2 q d, hup q a], fun j hj => by rw [e2 27 (by decide), am_up_j hj], fun i _ => by rw [e2 31 (by decide), hup 31 (by decide)]⟩, fun i hia => by rw [e2 31 (by decide), hup 31 (by decide)]; exact d1 i hia, by rw [e2 27 (by decide), am_up_same, hdf]; rfl, fun y hy => ?_⟩
        rw [hdf] at hy
        have hy : (hs hm D 4, D) = y := Option.some.inj hy
        rw [← hy]
        exact ⟨by show hs hm D 4 < 1000000; omega, e3⟩
      · exact absurd (show 4 = k by omega) hk
    · rw [if_neg (show ¬ nI (hs hm D 4) < encH (some z) from nI_nlt (by omega) (by omega)), dfs_cut _ _ _ _ (by omega)]
      exact ⟨g, rfl, FRC.refl _ _, d1, d2, d3⟩
  | none =>
    have hlt : True := trivial
    rw [if_pos (show nI (hs hm D 4) < encH none from nI_lt (b := 1000000) (by omega) (by decide))]
    rw [if_neg (show ¬ (4 : Int32) < nI 4 by decide)]
    by_cases hk : 4 = k
    · rw [c2, if_pos (by rw [hk])]
      have hup : ∀ q, q ≠ 27 → am_up g 27 11 (nI (hs hm D 4)) q = g q := fun q h => am_up_ne h
      have hfr : FRC 4 g (am_up g 27 11 (nI (hs hm D 4))) := ⟨fun q a _ _ => hup q a, fun j hj => am_up_j hj, fun i _ => by rw [hup 31 (by decide)]⟩
      obtain ⟨g', e1, e2, e3⟩ := c_ch1_29 (hfr.CHI hi0) (D := D) (fun i hik => ⟨hst i (by omega), hB i (by omega)⟩) (fun i hik => by rw [hup 31 (by decide)]; exact d1 i (by omega))
      have hdf : dfs stand hm B (k - 4) 4 D (none) = some (hs hm D 4, D) := by
        rw [show k - 4 = 0 by omega, dfs, hl, if_pos rfl]
        rfl
      refine ⟨g', e1, ⟨fun q a b d => by rw [e2 q d, hup q a], fun j hj => by rw [e2 27 (by decide), am_up_j hj], fun i _ => by rw [e2 31 (by decide), hup 31 (by decide)]⟩, fun i hia => by rw [e2 31 (by decide), hup 31 (by decide)]; exact d1 i hia, by rw [e2 27 (by decide), am_up_same, hdf]; rfl, fun y hy => ?_⟩
      rw [hdf] at hy
      have hy : (hs hm D 4, D) = y := Option.some.inj hy
      rw [← hy]
      exact ⟨by show hs hm D 4 < 1000000; omega, e3⟩
    · exact absurd (show 4 = k by omega) hk
theorem c_ch2_29 {g : Hp} {D : Nat → Nat} (hi : CHI stand hm l B k g) (hD : ∀ i, i < k → stand (D i) = true ∧ D i < B) (hc : ∀ i, i < k → g 31 i = nI (cx stand (D i))) : ∃ g', am_run 60 29 [.ref 27, .null, .null, .int 0] [] g = some (0, g') ∧ (∀ q, q ≠ 32 → g' q = g q) ∧ ∀ i, i < k → g' 32 i = nI (wd l (D i)) := by
  obtain ⟨c1, c2, c3, c4, c5, c6, c7⟩ := hi
  have key : ∀ e i h, i + e = k → (∀ q, q ≠ 32 → h q = g q) → (∀ j, j < i → h 32 j = nI (wd l (D j))) → ∃ g', am_run 60 29 [.ref 27, .null, .null, .int (nI i)] [] h = some (0, g') ∧ (∀ q, q ≠ 32 → g' q = g q) ∧ ∀ i, i < k → g' 32 i = nI (wd l (D i)) := by
    intro e
    induction e with
    | zero =>
      intro i h hi h1 h2
      have : i = k := by omega
      subst this
      refine ⟨h, ?_, h1, h2⟩
      rw [eX7_choose_2_29_27, h1 27 (by decide), c2, if_neg (nI_nlt (by omega) (by omega))]
    | succ e ih =>
      intro i h hi h1 h2
      obtain ⟨s1, s2⟩ := hD i (by omega)
      have l1 := cx_le (stand := stand) (D i)
      rw [eX7_choose_2_29_27, h1 27 (by decide), c2, if_pos (nI_lt (by omega) (by omega)), am_ald_in _ _ _ (show i < 4 by omega) (by decide), h1 31 (by decide), hc i (by omega), am_ald_in _ _ _ (show cx stand (D i) < 16 by omega) (by decide), h1 28 (by decide), c5 _ s2 s1, am_ast_in _ _ _ _ (show i < 4 by omega) (by decide), nI_1]
      refine ih (i + 1) _ (by omega) (fun q hq => by rw [am_up_ne hq, h1 q hq]) (fun j hj => ?_)
      by_cases hji : j = i
      · subst hji; exact am_up_same _ _ _ _
      · rw [am_up_j hji]
        exact h2 j (by omega)
  exact key k 0 g (by omega) (fun _ _ => rfl) (fun j hj => absurd hj (Nat.not_lt_zero _))
theorem c_ch2 (hnx : ChOK stand hm l B k 59 (3 + 1)) : ChOK stand hm l B k 60 3 := by
  intro g D acc hi hd hl hB hak
  have hi0 := hi
  obtain ⟨c1, c2, c3, c4, c5, c6, c7⟩ := hi
  obtain ⟨d1, d2, d3⟩ := hd
  have hst := (lgl_iff.mp hl).1
  have hle := hs_le (hm := hm) (D := D) (a := 3) (by omega) (fun i j x y => c7 i j _ _ (by omega) (by omega) (hB i (by omega)) (hB j y))
  rw [eX7_choose_2_27, d2]
  cases acc with
  | some z =>
    obtain ⟨z1, z2⟩ := d3 z rfl
    by_cases hlt : hs hm D 3 < z.1
    · rw [if_pos (show nI (hs hm D 3) < encH (some z) from nI_lt hlt (by omega))]
      rw [if_neg (show ¬ (4 : Int32) < nI 3 by decide)]
      by_cases hk : 3 = k
      · rw [c2, if_pos (by rw [hk])]
        have hup : ∀ q, q ≠ 27 → am_up g 27 11 (nI (hs hm D 3)) q = g q := fun q h => am_up_ne h
        have hfr : FRC 3 g (am_up g 27 11 (nI (hs hm D 3))) := ⟨fun q a _ _ => hup q a, fun j hj => am_up_j hj, fun i _ => by rw [hup 31 (by decide)]⟩
        obtain ⟨g', e1, e2, e3⟩ := c_ch2_29 (hfr.CHI hi0) (D := D) (fun i hik => ⟨hst i (by omega), hB i (by omega)⟩) (fun i hik => by rw [hup 31 (by decide)]; exact d1 i (by omega))
        have hdf : dfs stand hm B (k - 3) 3 D (some z) = some (hs hm D 3, D) := by
          rw [show k - 3 = 0 by omega, dfs, hl, if_pos rfl]
          unfold wput; simp only [hlt, if_true]
        refine ⟨g', e1, ⟨fun q a b d => by rw [e2 q d, hup q a], fun j hj => by rw [e2 27 (by decide), am_up_j hj], fun i _ => by rw [e2 31 (by decide), hup 31 (by decide)]⟩, fun i hia => by rw [e2 31 (by decide), hup 31 (by decide)]; exact d1 i hia, by rw [e2 27 (by decide), am_up_same, hdf]; rfl, fun y hy => ?_⟩
        rw [hdf] at hy
        have hy : (hs hm D 3, D) = y := Option.some.inj hy
        rw [← hy]
        exact ⟨by show hs hm D 3 < 1000000; omega, e3⟩
      · rw [c2, if_neg (fun e => hk ((nI_eq (a := 3) (b := k) (by omega) (by omega)).mp e))]
        have key : ∀ e d h, d + e = B → FRC 3 g h → CHD stand l k D 3 (fo (fun d acc => dfs stand hm B (k - 3 - 1) (3 + 1) (setD D 3 d) acc) d (some z)) h → ∃ g', am_run 60 63 [.ref 27, .int (nI 3), .int (nI (hs hm D 3)), .int (nI (cx stand d))] [] h = some (0, g') ∧ FRC 3 g g' ∧ CHD stand l k D 3 (fo (fun d acc => dfs stand hm B (k - 3 - 1) (3 + 1) (setD D 3 d) acc) B (some z)) g' := by
          intro e
          induction e with
          | zero =>
            intro d h hde hf hh
            have : d = B := by omega
            subst this
            refine ⟨h, ?_, hf, hh⟩
            have l1 := cx_le (stand := stand) d
            rw [eX7_choose_2_63_27, (hf.CHI hi0).1, if_neg (nI_nlt (by omega) (by omega))]
          | succ e ih =>
            intro d h hde hf hh
            have hic := hf.CHI hi0
            have l1 := cx_le (stand := stand) d
            have l2 := cx_le (stand := stand) B
            have hsame : lgl stand (setD D 3 d) (3 + 1) = false → CHD stand l k D 3 (fo (fun d acc => dfs stand hm B (k - 3 - 1) (3 + 1) (setD D 3 d) acc) (d + 1) (some z)) h := by
              intro hf
              rw [fo, dfs_no _ _ _ _ hf]
              exact hh
            cases hsd : stand d with
            | false =>
              have ec : cx stand (d + 1) = cx stand d := by rw [cx, hsd]; rfl
              have := ih (d + 1) h (by omega) hf (hsame (by rw [lgl_setD, hsd]; simp))
              rwa [ec] at this
            | true =>
              have ec : cx stand (d + 1) = cx stand d + 1 := by rw [cx, hsd]; rfl
              have hcl : cx stand d < cx stand B := by
                have := cx_mono (stand := stand) (show d + 1 ≤ B by omega)
                omega
              have hih := fun h' a b => ih (d + 1) h' (by omega) a b
              rw [ec] at hih
              rw [eX7_choose_2_63_27, hic.1, if_pos (nI_lt hcl (by omega)), c_isChosen (D := D) (by omega) hsd (by omega) (fun i hia => ⟨hst i hia, by have := hB i hia; omega⟩) hh.1, am_cal_some, nI_1 3, nI_1 (cx stand d)]
              simp only [bi_eq0]
              cases hn : neqB D d 3 with
              | false =>
                rw [Bool.not_false, if_neg (by decide)]
                exact hih h hf (hsame (by rw [lgl_setD, hn]; simp))
              | true =>
                rw [Bool.not_true, if_pos rfl, am_ast_in _ _ _ _ (show 3 < 4 by decide) (by decide)]
                have hfu : FRC 3 h (am_up h 31 3 (nI (cx stand d))) := ⟨fun q _ b _ => am_up_ne b, fun j _ => by rw [am_up_ne (by decide)], fun i hia => am_up_j (by omega)⟩
                have hch : ∀ i, i < 3 + 1 → am_up h 31 3 (nI (cx stand d)) 31 i = nI (cx stand (setD D 3 d i)) := by
                  intro i hia
                  by_cases hiA : i = 3
                  · subst hiA; rw [am_up_same, setD_eq]
                  · rw [am_up_j hiA, setD_ne hiA]; exact hh.1 i (by omega)
                have hsB : ∀ i, i < 3 + 1 → setD D 3 d i < B := by
                  intro i hia
                  by_cases hiA : i = 3
                  · subst hiA; rw [setD_eq]; omega
                  · rw [setD_ne hiA]; exact hB i (by omega)
                have hlg : lgl stand (setD D 3 d) (3 + 1) = true := by rw [lgl_setD, hl, hsd, hn]; rfl
                have hsl := (lgl_iff.mp hlg).1
                rw [c_harmOfLast (D := setD D 3 d) (hfu.CHI hic) (show 3 < k by omega) (fun i hia => ⟨hsl i (by omega), hsB i (by omega)⟩) (fun i hia => hch i (by omega)), am_cal_some, nI_add, ← hs_setD]
                obtain ⟨g', e1, e2, e3⟩ := hnx (am_up h 31 3 (nI (cx stand d))) (setD D 3 d) _ (hfu.CHI hic) ⟨hch, by rw [am_up_ne (by decide)]; exact hh.2.1, fun z hz => by rw [am_up_ne (by decide)]; exact hh.2.2 z hz⟩ hlg hsB (by omega)
                rw [e1, am_cal_some]
                have hf2 := hf.trans (hfu.trans (e2.weak (by omega)))
                refine hih g' hf2 ⟨fun i hia => by rw [hf2.2.2 i hia]; exact d1 i hia, ?_, ?_⟩
                · rw [fo, show k - 3 - 1 = k - (3 + 1) by omega]; rw [show k - 3 - 1 = k - (3 + 1) by omega] at e3; exact e3.2.1
                · rw [fo, show k - 3 - 1 = k - (3 + 1) by omega]; rw [show k - 3 - 1 = k - (3 + 1) by omega] at e3; exact e3.2.2
        have hdf : dfs stand hm B (k - 3) 3 D (some z) = fo (fun d acc => dfs stand hm B (k - 3 - 1) (3 + 1) (setD D 3 d) acc) B (some z) := by
          rw [show k - 3 = (k - 3 - 1) + 1 by omega, dfs]
          rfl
        rw [hdf]
        exact key B 0 g (by omega) (FRC.refl _ _) ⟨d1, d2, d3⟩
    · rw [if_neg (show ¬ nI (hs hm D 3) < encH (some z) from nI_nlt (by omega) (by omega)), dfs_cut _ _ _ _ (by omega)]
      exact ⟨g, rfl, FRC.refl _ _, d1, d2, d3⟩
  | none =>
    have hlt : True := trivial
    rw [if_pos (show nI (hs hm D 3) < encH none from nI_lt (b := 1000000) (by omega) (by decide))]
    rw [if_neg (show ¬ (4 : Int32) < nI 3 by decide)]
    by_cases hk : 3 = k
    · rw [c2, if_pos (by rw [hk])]
      have hup : ∀ q, q ≠ 27 → am_up g 27 11 (nI (hs hm D 3)) q = g q := fun q h => am_up_ne h
      have hfr : FRC 3 g (am_up g 27 11 (nI (hs hm D 3))) := ⟨fun q a _ _ => hup q a, fun j hj => am_up_j hj, fun i _ => by rw [hup 31 (by decide)]⟩
      obtain ⟨g', e1, e2, e3⟩ := c_ch2_29 (hfr.CHI hi0) (D := D) (fun i hik => ⟨hst i (by omega), hB i (by omega)⟩) (fun i hik => by rw [hup 31 (by decide)]; exact d1 i (by omega))
      have hdf : dfs stand hm B (k - 3) 3 D (none) = some (hs hm D 3, D) := by
        rw [show k - 3 = 0 by omega, dfs, hl, if_pos rfl]
        rfl
      refine ⟨g', e1, ⟨fun q a b d => by rw [e2 q d, hup q a], fun j hj => by rw [e2 27 (by decide), am_up_j hj], fun i _ => by rw [e2 31 (by decide), hup 31 (by decide)]⟩, fun i hia => by rw [e2 31 (by decide), hup 31 (by decide)]; exact d1 i hia, by rw [e2 27 (by decide), am_up_same, hdf]; rfl, fun y hy => ?_⟩
      rw [hdf] at hy
      have hy : (hs hm D 3, D) = y := Option.some.inj hy
      rw [← hy]
      exact ⟨by show hs hm D 3 < 1000000; omega, e3⟩
    · rw [c2, if_neg (fun e => hk ((nI_eq (a := 3) (b := k) (by omega) (by omega)).mp e))]
      have key : ∀ e d h, d + e = B → FRC 3 g h → CHD stand l k D 3 (fo (fun d acc => dfs stand hm B (k - 3 - 1) (3 + 1) (setD D 3 d) acc) d (none)) h → ∃ g', am_run 60 63 [.ref 27, .int (nI 3), .int (nI (hs hm D 3)), .int (nI (cx stand d))] [] h = some (0, g') ∧ FRC 3 g g' ∧ CHD stand l k D 3 (fo (fun d acc => dfs stand hm B (k - 3 - 1) (3 + 1) (setD D 3 d) acc) B (none)) g' := by
        intro e
        induction e with
        | zero =>
          intro d h hde hf hh
          have : d = B := by omega
          subst this
          refine ⟨h, ?_, hf, hh⟩
          have l1 := cx_le (stand := stand) d
          rw [eX7_choose_2_63_27, (hf.CHI hi0).1, if_neg (nI_nlt (by omega) (by omega))]
        | succ e ih =>
          intro d h hde hf hh
          have hic := hf.CHI hi0
          have l1 := cx_le (stand := stand) d
          have l2 := cx_le (stand := stand) B
          have hsame : lgl stand (setD D 3 d) (3 + 1) = false → CHD stand l k D 3 (fo (fun d acc => dfs stand hm B (k - 3 - 1) (3 + 1) (setD D 3 d) acc) (d + 1) (none)) h := by
            intro hf
            rw [fo, dfs_no _ _ _ _ hf]
            exact hh
          cases hsd : stand d with
          | false =>
            have ec : cx stand (d + 1) = cx stand d := by rw [cx, hsd]; rfl
            have := ih (d + 1) h (by omega) hf (hsame (by rw [lgl_setD, hsd]; simp))
            rwa [ec] at this
          | true =>
            have ec : cx stand (d + 1) = cx stand d + 1 := by rw [cx, hsd]; rfl
            have hcl : cx stand d < cx stand B := by
              have := cx_mono (stand := stand) (show d + 1 ≤ B by omega)
              omega
            have hih := fun h' a b => ih (d + 1) h' (by omega) a b
            rw [ec] at hih
            rw [eX7_choose_2_63_27, hic.1, if_pos (nI_lt hcl (by omega)), c_isChosen (D := D) (by omega) hsd (by omega) (fun i hia => ⟨hst i hia, by have := hB i hia; omega⟩) hh.1, am_cal_some, nI_1 3, nI_1 (cx stand d)]
            simp only [bi_eq0]
            cases hn : neqB D d 3 with
            | false =>
              rw [Bool.not_false, if_neg (by decide)]
              exact hih h hf (hsame (by rw [lgl_setD, hn]; simp))
            | true =>
              rw [Bool.not_true, if_pos rfl, am_ast_in _ _ _ _ (show 3 < 4 by decide) (by decide)]
              have hfu : FRC 3 h (am_up h 31 3 (nI (cx stand d))) := ⟨fun q _ b _ => am_up_ne b, fun j _ => by rw [am_up_ne (by decide)], fun i hia => am_up_j (by omega)⟩
              have hch : ∀ i, i < 3 + 1 → am_up h 31 3 (nI (cx stand d)) 31 i = nI (cx stand (setD D 3 d i)) := by
                intro i hia
                by_cases hiA : i = 3
                · subst hiA; rw [am_up_same, setD_eq]
                · rw [am_up_j hiA, setD_ne hiA]; exact hh.1 i (by omega)
              have hsB : ∀ i, i < 3 + 1 → setD D 3 d i < B := by
                intro i hia
                by_cases hiA : i = 3
                · subst hiA; rw [setD_eq]; omega
                · rw [setD_ne hiA]; exact hB i (by omega)
              have hlg : lgl stand (setD D 3 d) (3 + 1) = true := by rw [lgl_setD, hl, hsd, hn]; rfl
              have hsl := (lgl_iff.mp hlg).1
              rw [c_harmOfLast (D := setD D 3 d) (hfu.CHI hic) (show 3 < k by omega) (fun i hia => ⟨hsl i (by omega), hsB i (by omega)⟩) (fun i hia => hch i (by omega)), am_cal_some, nI_add, ← hs_setD]
              obtain ⟨g', e1, e2, e3⟩ := hnx (am_up h 31 3 (nI (cx stand d))) (setD D 3 d) _ (hfu.CHI hic) ⟨hch, by rw [am_up_ne (by decide)]; exact hh.2.1, fun z hz => by rw [am_up_ne (by decide)]; exact hh.2.2 z hz⟩ hlg hsB (by omega)
              rw [e1, am_cal_some]
              have hf2 := hf.trans (hfu.trans (e2.weak (by omega)))
              refine hih g' hf2 ⟨fun i hia => by rw [hf2.2.2 i hia]; exact d1 i hia, ?_, ?_⟩
              · rw [fo, show k - 3 - 1 = k - (3 + 1) by omega]; rw [show k - 3 - 1 = k - (3 + 1) by omega] at e3; exact e3.2.1
              · rw [fo, show k - 3 - 1 = k - (3 + 1) by omega]; rw [show k - 3 - 1 = k - (3 + 1) by omega] at e3; exact e3.2.2
      have hdf : dfs stand hm B (k - 3) 3 D (none) = fo (fun d acc => dfs stand hm B (k - 3 - 1) (3 + 1) (setD D 3 d) acc) B (none) := by
        rw [show k - 3 = (k - 3 - 1) + 1 by omega, dfs]
        rfl
      rw [hdf]
      exact key B 0 g (by omega) (FRC.refl _ _) ⟨d1, d2, d3⟩
theorem c_ch3_29 {g : Hp} {D : Nat → Nat} (hi : CHI stand hm l B k g) (hD : ∀ i, i < k → stand (D i) = true ∧ D i < B) (hc : ∀ i, i < k → g 31 i = nI (cx stand (D i))) : ∃ g', am_run 61 29 [.ref 27, .null, .null, .int 0] [] g = some (0, g') ∧ (∀ q, q ≠ 32 → g' q = g q) ∧ ∀ i, i < k → g' 32 i = nI (wd l (D i)) := by
  obtain ⟨c1, c2, c3, c4, c5, c6, c7⟩ := hi
  have key : ∀ e i h, i + e = k → (∀ q, q ≠ 32 → h q = g q) → (∀ j, j < i → h 32 j = nI (wd l (D j))) → ∃ g', am_run 61 29 [.ref 27, .null, .null, .int (nI i)] [] h = some (0, g') ∧ (∀ q, q ≠ 32 → g' q = g q) ∧ ∀ i, i < k → g' 32 i = nI (wd l (D i)) := by
    intro e
    induction e with
    | zero =>
      intro i h hi h1 h2
      have : i = k := by omega
      subst this
      refine ⟨h, ?_, h1, h2⟩
      rw [eX7_choose_3_29_27, h1 27 (by decide), c2, if_neg (nI_nlt (by omega) (by omega))]
    | succ e ih =>
      intro i h hi h1 h2
      obtain ⟨s1, s2⟩ := hD i (by omega)
      have l1 := cx_le (stand := stand) (D i)
      rw [eX7_choose_3_29_27, h1 27 (by decide), c2, if_pos (nI_lt (by omega) (by omega)), am_ald_in _ _ _ (show i < 4 by omega) (by decide), h1 31 (by decide), hc i (by omega), am_ald_in _ _ _ (show cx stand (D i) < 16 by omega) (by decide), h1 28 (by decide), c5 _ s2 s1, am_ast_in _ _ _ _ (show i < 4 by omega) (by decide), nI_1]
      refine ih (i + 1) _ (by omega) (fun q hq => by rw [am_up_ne hq, h1 q hq]) (fun j hj => ?_)
      by_cases hji : j = i
      · subst hji; exact am_up_same _ _ _ _
      · rw [am_up_j hji]
        exact h2 j (by omega)
  exact key k 0 g (by omega) (fun _ _ => rfl) (fun j hj => absurd hj (Nat.not_lt_zero _))
theorem c_ch3 (hnx : ChOK stand hm l B k 60 (2 + 1)) : ChOK stand hm l B k 61 2 := by
  intro g D acc hi hd hl hB hak
  have hi0 := hi
  obtain ⟨c1, c2, c3, c4, c5, c6, c7⟩ := hi
  obtain ⟨d1, d2, d3⟩ := hd
  have hst := (lgl_iff.mp hl).1
  have hle := hs_le (hm := hm) (D := D) (a := 2) (by omega) (fun i j x y => c7 i j _ _ (by omega) (by omega) (hB i (by omega)) (hB j y))
  rw [eX7_choose_3_27, d2]
  cases acc with
  | some z =>
    obtain ⟨z1, z2⟩ := d3 z rfl
    by_cases hlt : hs hm D 2 < z.1
    · rw [if_pos (show nI (hs hm D 2) < encH (some z) from nI_lt hlt (by omega))]
      rw [if_neg (show ¬ (4 : Int32) < nI 2 by decide)]
      by_cases hk : 2 = k
      · rw [c2, if_pos (by rw [hk])]
        have hup : ∀ q, q ≠ 27 → am_up g 27 11 (nI (hs hm D 2)) q = g q := fun q h => am_up_ne h
        have hfr : FRC 2 g (am_up g 27 11 (nI (hs hm D 2))) := ⟨fun q a _ _ => hup q a, fun j hj => am_up_j hj, fun i _ => by rw [hup 31 (by decide)]⟩
        obtain ⟨g', e1, e2, e3⟩ := c_ch3_29 (hfr.CHI hi0) (D := D) (fun i hik => ⟨hst i (by omega), hB i (by omega)⟩) (fun i hik => by rw [hup 31 (by decide)]; exact d1 i (by omega))
        have hdf : dfs stand hm B (k - 2) 2 D (some z) = some (hs hm D 2, D) := by
          rw [show k - 2 = 0 by omega, dfs, hl, if_pos rfl]
          unfold wput; simp only [hlt, if_true]
        refine ⟨g', e1, ⟨fun q a b d => by rw [e2 q d, hup q a], fun j hj => by rw [e2 27 (by decide), am_up_j hj], fun i _ => by rw [e2 31 (by decide), hup 31 (by decide)]⟩, fun i hia => by rw [e2 31 (by decide), hup 31 (by decide)]; exact d1 i hia, by rw [e2 27 (by decide), am_up_same, hdf]; rfl, fun y hy => ?_⟩
        rw [hdf] at hy
        have hy : (hs hm D 2, D) = y := Option.some.inj hy
        rw [← hy]
        exact ⟨by show hs hm D 2 < 1000000; omega, e3⟩
      · rw [c2, if_neg (fun e => hk ((nI_eq (a := 2) (b := k) (by omega) (by omega)).mp e))]
        have key : ∀ e d h, d + e = B → FRC 2 g h → CHD stand l k D 2 (fo (fun d acc => dfs stand hm B (k - 2 - 1) (2 + 1) (setD D 2 d) acc) d (some z)) h → ∃ g', am_run 61 63 [.ref 27, .int (nI 2), .int (nI (hs hm D 2)), .int (nI (cx stand d))] [] h = some (0, g') ∧ FRC 2 g g' ∧ CHD stand l k D 2 (fo (fun d acc => dfs stand hm B (k - 2 - 1) (2 + 1) (setD D 2 d) acc) B (some z)) g' := by
          intro e
          induction e with
          | zero =>
            intro d h hde hf hh
            have : d = B := by omega
            subst this
            refine ⟨h, ?_, hf, hh⟩
            have l1 := cx_le (stand := stand) d
            rw [eX7_choose_3_63_27, (hf.CHI hi0).1, if_neg (nI_nlt (by omega) (by omega))]
          | succ e ih =>
            intro d h hde hf hh
            have hic := hf.CHI hi0
            have l1 := cx_le (stand := stand) d
            have l2 := cx_le (stand := stand) B
            have hsame : lgl stand (setD D 2 d) (2 + 1) = false → CHD stand l k D 2 (fo (fun d acc => dfs stand hm B (k - 2 - 1) (2 + 1) (setD D 2 d) acc) (d + 1) (some z)) h := by
              intro hf
              rw [fo, dfs_no _ _ _ _ hf]
              exact hh
            cases hsd : stand d with
            | false =>
              have ec : cx stand (d + 1) = cx stand d := by rw [cx, hsd]; rfl
              have := ih (d + 1) h (by omega) hf (hsame (by rw [lgl_setD, hsd]; simp))
              rwa [ec] at this
            | true =>
              have ec : cx stand (d + 1) = cx stand d + 1 := by rw [cx, hsd]; rfl
              have hcl : cx stand d < cx stand B := by
                have := cx_mono (stand := stand) (show d + 1 ≤ B by omega)
                omega
              have hih := fun h' a b => ih (d + 1) h' (by omega) a b
              rw [ec] at hih
              rw [eX7_choose_3_63_27, hic.1, if_pos (nI_lt hcl (by omega)), c_isChosen (D := D) (by omega) hsd (by omega) (fun i hia => ⟨hst i hia, by have := hB i hia; omega⟩) hh.1, am_cal_some, nI_1 2, nI_1 (cx stand d)]
              simp only [bi_eq0]
              cases hn : neqB D d 2 with
              | false =>
                rw [Bool.not_false, if_neg (by decide)]
                exact hih h hf (hsame (by rw [lgl_setD, hn]; simp))
              | true =>
                rw [Bool.not_true, if_pos rfl, am_ast_in _ _ _ _ (show 2 < 4 by decide) (by decide)]
                have hfu : FRC 2 h (am_up h 31 2 (nI (cx stand d))) := ⟨fun q _ b _ => am_up_ne b, fun j _ => by rw [am_up_ne (by decide)], fun i hia => am_up_j (by omega)⟩
                have hch : ∀ i, i < 2 + 1 → am_up h 31 2 (nI (cx stand d)) 31 i = nI (cx stand (setD D 2 d i)) := by
                  intro i hia
                  by_cases hiA : i = 2
                  · subst hiA; rw [am_up_same, setD_eq]
                  · rw [am_up_j hiA, setD_ne hiA]; exact hh.1 i (by omega)
                have hsB : ∀ i, i < 2 + 1 → setD D 2 d i < B := by
                  intro i hia
                  by_cases hiA : i = 2
                  · subst hiA; rw [setD_eq]; omega
                  · rw [setD_ne hiA]; exact hB i (by omega)
                have hlg : lgl stand (setD D 2 d) (2 + 1) = true := by rw [lgl_setD, hl, hsd, hn]; rfl
                have hsl := (lgl_iff.mp hlg).1
                rw [c_harmOfLast (D := setD D 2 d) (hfu.CHI hic) (show 2 < k by omega) (fun i hia => ⟨hsl i (by omega), hsB i (by omega)⟩) (fun i hia => hch i (by omega)), am_cal_some, nI_add, ← hs_setD]
                obtain ⟨g', e1, e2, e3⟩ := hnx (am_up h 31 2 (nI (cx stand d))) (setD D 2 d) _ (hfu.CHI hic) ⟨hch, by rw [am_up_ne (by decide)]; exact hh.2.1, fun z hz => by rw [am_up_ne (by decide)]; exact hh.2.2 z hz⟩ hlg hsB (by omega)
                rw [e1, am_cal_some]
                have hf2 := hf.trans (hfu.trans (e2.weak (by omega)))
                refine hih g' hf2 ⟨fun i hia => by rw [hf2.2.2 i hia]; exact d1 i hia, ?_, ?_⟩
                · rw [fo, show k - 2 - 1 = k - (2 + 1) by omega]; rw [show k - 2 - 1 = k - (2 + 1) by omega] at e3; exact e3.2.1
                · rw [fo, show k - 2 - 1 = k - (2 + 1) by omega]; rw [show k - 2 - 1 = k - (2 + 1) by omega] at e3; exact e3.2.2
        have hdf : dfs stand hm B (k - 2) 2 D (some z) = fo (fun d acc => dfs stand hm B (k - 2 - 1) (2 + 1) (setD D 2 d) acc) B (some z) := by
          rw [show k - 2 = (k - 2 - 1) + 1 by omega, dfs]
          rfl
        rw [hdf]
        exact key B 0 g (by omega) (FRC.refl _ _) ⟨d1, d2, d3⟩
    · rw [if_neg (show ¬ nI (hs hm D 2) < encH (some z) from nI_nlt (by omega) (by omega)), dfs_cut _ _ _ _ (by omega)]
      exact ⟨g, rfl, FRC.refl _ _, d1, d2, d3⟩
  | none =>
    have hlt : True := trivial
    rw [if_pos (show nI (hs hm D 2) < encH none from nI_lt (b := 1000000) (by omega) (by decide))]
    rw [if_neg (show ¬ (4 : Int32) < nI 2 by decide)]
    by_cases hk : 2 = k
    · rw [c2, if_pos (by rw [hk])]
      have hup : ∀ q, q ≠ 27 → am_up g 27 11 (nI (hs hm D 2)) q = g q := fun q h => am_up_ne h
      have hfr : FRC 2 g (am_up g 27 11 (nI (hs hm D 2))) := ⟨fun q a _ _ => hup q a, fun j hj => am_up_j hj, fun i _ => by rw [hup 31 (by decide)]⟩
      obtain ⟨g', e1, e2, e3⟩ := c_ch3_29 (hfr.CHI hi0) (D := D) (fun i hik => ⟨hst i (by omega), hB i (by omega)⟩) (fun i hik => by rw [hup 31 (by decide)]; exact d1 i (by omega))
      have hdf : dfs stand hm B (k - 2) 2 D (none) = some (hs hm D 2, D) := by
        rw [show k - 2 = 0 by omega, dfs, hl, if_pos rfl]
        rfl
      refine ⟨g', e1, ⟨fun q a b d => by rw [e2 q d, hup q a], fun j hj => by rw [e2 27 (by decide), am_up_j hj], fun i _ => by rw [e2 31 (by decide), hup 31 (by decide)]⟩, fun i hia => by rw [e2 31 (by decide), hup 31 (by decide)]; exact d1 i hia, by rw [e2 27 (by decide), am_up_same, hdf]; rfl, fun y hy => ?_⟩
      rw [hdf] at hy
      have hy : (hs hm D 2, D) = y := Option.some.inj hy
      rw [← hy]
      exact ⟨by show hs hm D 2 < 1000000; omega, e3⟩
    · rw [c2, if_neg (fun e => hk ((nI_eq (a := 2) (b := k) (by omega) (by omega)).mp e))]
      have key : ∀ e d h, d + e = B → FRC 2 g h → CHD stand l k D 2 (fo (fun d acc => dfs stand hm B (k - 2 - 1) (2 + 1) (setD D 2 d) acc) d (none)) h → ∃ g', am_run 61 63 [.ref 27, .int (nI 2), .int (nI (hs hm D 2)), .int (nI (cx stand d))] [] h = some (0, g') ∧ FRC 2 g g' ∧ CHD stand l k D 2 (fo (fun d acc => dfs stand hm B (k - 2 - 1) (2 + 1) (setD D 2 d) acc) B (none)) g' := by
        intro e
        induction e with
        | zero =>
          intro d h hde hf hh
          have : d = B := by omega
          subst this
          refine ⟨h, ?_, hf, hh⟩
          have l1 := cx_le (stand := stand) d
          rw [eX7_choose_3_63_27, (hf.CHI hi0).1, if_neg (nI_nlt (by omega) (by omega))]
        | succ e ih =>
          intro d h hde hf hh
          have hic := hf.CHI hi0
          have l1 := cx_le (stand := stand) d
          have l2 := cx_le (stand := stand) B
          have hsame : lgl stand (setD D 2 d) (2 + 1) = false → CHD stand l k D 2 (fo (fun d acc => dfs stand hm B (k - 2 - 1) (2 + 1) (setD D 2 d) acc) (d + 1) (none)) h := by
            intro hf
            rw [fo, dfs_no _ _ _ _ hf]
            exact hh
          cases hsd : stand d with
          | false =>
            have ec : cx stand (d + 1) = cx stand d := by rw [cx, hsd]; rfl
            have := ih (d + 1) h (by omega) hf (hsame (by rw [lgl_setD, hsd]; simp))
            rwa [ec] at this
          | true =>
            have ec : cx stand (d + 1) = cx stand d + 1 := by rw [cx, hsd]; rfl
            have hcl : cx stand d < cx stand B := by
              have := cx_mono (stand := stand) (show d + 1 ≤ B by omega)
              omega
            have hih := fun h' a b => ih (d + 1) h' (by omega) a b
            rw [ec] at hih
            rw [eX7_choose_3_63_27, hic.1, if_pos (nI_lt hcl (by omega)), c_isChosen (D := D) (by omega) hsd (by omega) (fun i hia => ⟨hst i hia, by have := hB i hia; omega⟩) hh.1, am_cal_some, nI_1 2, nI_1 (cx stand d)]
            simp only [bi_eq0]
            cases hn : neqB D d 2 with
            | false =>
              rw [Bool.not_false, if_neg (by decide)]
              exact hih h hf (hsame (by rw [lgl_setD, hn]; simp))
            | true =>
              rw [Bool.not_true, if_pos rfl, am_ast_in _ _ _ _ (show 2 < 4 by decide) (by decide)]
              have hfu : FRC 2 h (am_up h 31 2 (nI (cx stand d))) := ⟨fun q _ b _ => am_up_ne b, fun j _ => by rw [am_up_ne (by decide)], fun i hia => am_up_j (by omega)⟩
              have hch : ∀ i, i < 2 + 1 → am_up h 31 2 (nI (cx stand d)) 31 i = nI (cx stand (setD D 2 d i)) := by
                intro i hia
                by_cases hiA : i = 2
                · subst hiA; rw [am_up_same, setD_eq]
                · rw [am_up_j hiA, setD_ne hiA]; exact hh.1 i (by omega)
              have hsB : ∀ i, i < 2 + 1 → setD D 2 d i < B := by
                intro i hia
                by_cases hiA : i = 2
                · subst hiA; rw [setD_eq]; omega
                · rw [setD_ne hiA]; exact hB i (by omega)
              have hlg : lgl stand (setD D 2 d) (2 + 1) = true := by rw [lgl_setD, hl, hsd, hn]; rfl
              have hsl := (lgl_iff.mp hlg).1
              rw [c_harmOfLast (D := setD D 2 d) (hfu.CHI hic) (show 2 < k by omega) (fun i hia => ⟨hsl i (by omega), hsB i (by omega)⟩) (fun i hia => hch i (by omega)), am_cal_some, nI_add, ← hs_setD]
              obtain ⟨g', e1, e2, e3⟩ := hnx (am_up h 31 2 (nI (cx stand d))) (setD D 2 d) _ (hfu.CHI hic) ⟨hch, by rw [am_up_ne (by decide)]; exact hh.2.1, fun z hz => by rw [am_up_ne (by decide)]; exact hh.2.2 z hz⟩ hlg hsB (by omega)
              rw [e1, am_cal_some]
              have hf2 := hf.trans (hfu.trans (e2.weak (by omega)))
              refine hih g' hf2 ⟨fun i hia => by rw [hf2.2.2 i hia]; exact d1 i hia, ?_, ?_⟩
              · rw [fo, show k - 2 - 1 = k - (2 + 1) by omega]; rw [show k - 2 - 1 = k - (2 + 1) by omega] at e3; exact e3.2.1
              · rw [fo, show k - 2 - 1 = k - (2 + 1) by omega]; rw [show k - 2 - 1 = k - (2 + 1) by omega] at e3; exact e3.2.2
      have hdf : dfs stand hm B (k - 2) 2 D (none) = fo (fun d acc => dfs stand hm B (k - 2 - 1) (2 + 1) (setD D 2 d) acc) B (none) := by
        rw [show k - 2 = (k - 2 - 1) + 1 by omega, dfs]
        rfl
      rw [hdf]
      exact key B 0 g (by omega) (FRC.refl _ _) ⟨d1, d2, d3⟩
theorem c_ch4_29 {g : Hp} {D : Nat → Nat} (hi : CHI stand hm l B k g) (hD : ∀ i, i < k → stand (D i) = true ∧ D i < B) (hc : ∀ i, i < k → g 31 i = nI (cx stand (D i))) : ∃ g', am_run 62 29 [.ref 27, .null, .null, .int 0] [] g = some (0, g') ∧ (∀ q, q ≠ 32 → g' q = g q) ∧ ∀ i, i < k → g' 32 i = nI (wd l (D i)) := by
  obtain ⟨c1, c2, c3, c4, c5, c6, c7⟩ := hi
  have key : ∀ e i h, i + e = k → (∀ q, q ≠ 32 → h q = g q) → (∀ j, j < i → h 32 j = nI (wd l (D j))) → ∃ g', am_run 62 29 [.ref 27, .null, .null, .int (nI i)] [] h = some (0, g') ∧ (∀ q, q ≠ 32 → g' q = g q) ∧ ∀ i, i < k → g' 32 i = nI (wd l (D i)) := by
    intro e
    induction e with
    | zero =>
      intro i h hi h1 h2
      have : i = k := by omega
      subst this
      refine ⟨h, ?_, h1, h2⟩
      rw [eX7_choose_4_29_27, h1 27 (by decide), c2, if_neg (nI_nlt (by omega) (by omega))]
    | succ e ih =>
      intro i h hi h1 h2
      obtain ⟨s1, s2⟩ := hD i (by omega)
      have l1 := cx_le (stand := stand) (D i)
      rw [eX7_choose_4_29_27, h1 27 (by decide), c2, if_pos (nI_lt (by omega) (by omega)), am_ald_in _ _ _ (show i < 4 by omega) (by decide), h1 31 (by decide), hc i (by omega), am_ald_in _ _ _ (show cx stand (D i) < 16 by omega) (by decide), h1 28 (by decide), c5 _ s2 s1, am_ast_in _ _ _ _ (show i < 4 by omega) (by decide), nI_1]
      refine ih (i + 1) _ (by omega) (fun q hq => by rw [am_up_ne hq, h1 q hq]) (fun j hj => ?_)
      by_cases hji : j = i
      · subst hji; exact am_up_same _ _ _ _
      · rw [am_up_j hji]
        exact h2 j (by omega)
  exact key k 0 g (by omega) (fun _ _ => rfl) (fun j hj => absurd hj (Nat.not_lt_zero _))
theorem c_ch4 (hnx : ChOK stand hm l B k 61 (1 + 1)) : ChOK stand hm l B k 62 1 := by
  intro g D acc hi hd hl hB hak
  have hi0 := hi
  obtain ⟨c1, c2, c3, c4, c5, c6, c7⟩ := hi
  obtain ⟨d1, d2, d3⟩ := hd
  have hst := (lgl_iff.mp hl).1
  have hle := hs_le (hm := hm) (D := D) (a := 1) (by omega) (fun i j x y => c7 i j _ _ (by omega) (by omega) (hB i (by omega)) (hB j y))
  rw [eX7_choose_4_27, d2]
  cases acc with
  | some z =>
    obtain ⟨z1, z2⟩ := d3 z rfl
    by_cases hlt : hs hm D 1 < z.1
    · rw [if_pos (show nI (hs hm D 1) < encH (some z) from nI_lt hlt (by omega))]
      rw [if_neg (show ¬ (4 : Int32) < nI 1 by decide)]
      by_cases hk : 1 = k
      · rw [c2, if_pos (by rw [hk])]
        have hup : ∀ q, q ≠ 27 → am_up g 27 11 (nI (hs hm D 1)) q = g q := fun q h => am_up_ne h
        have hfr : FRC 1 g (am_up g 27 11 (nI (hs hm D 1))) := ⟨fun q a _ _ => hup q a, fun j hj => am_up_j hj, fun i _ => by rw [hup 31 (by decide)]⟩
        obtain ⟨g', e1, e2, e3⟩ := c_ch4_29 (hfr.CHI hi0) (D := D) (fun i hik => ⟨hst i (by omega), hB i (by omega)⟩) (fun i hik => by rw [hup 31 (by decide)]; exact d1 i (by omega))
        have hdf : dfs stand hm B (k - 1) 1 D (some z) = some (hs hm D 1, D) := by
          rw [show k - 1 = 0 by omega, dfs, hl, if_pos rfl]
          unfold wput; simp only [hlt, if_true]
        refine ⟨g', e1, ⟨fun q a b d => by rw [e2 q d, hup q a], fun j hj => by rw [e2 27 (by decide), am_up_j hj], fun i _ => by rw [e2 31 (by decide), hup 31 (by decide)]⟩, fun i hia => by rw [e2 31 (by decide), hup 31 (by decide)]; exact d1 i hia, by rw [e2 27 (by decide), am_up_same, hdf]; rfl, fun y hy => ?_⟩
        rw [hdf] at hy
        have hy : (hs hm D 1, D) = y := Option.some.inj hy
        rw [← hy]
        exact ⟨by show hs hm D 1 < 1000000; omega, e3⟩
      · rw [c2, if_neg (fun e => hk ((nI_eq (a := 1) (b := k) (by omega) (by omega)).mp e))]
        have key : ∀ e d h, d + e = B → FRC 1 g h → CHD stand l k D 1 (fo (fun d acc => dfs stand hm B (k - 1 - 1) (1 + 1) (setD D 1 d) acc) d (some z)) h → ∃ g', am_run 62 63 [.ref 27, .int (nI 1), .int (nI (hs hm D 1)), .int (nI (cx stand d))] [] h = some (0, g') ∧ FRC 1 g g' ∧ CHD stand l k D 1 (fo (fun d acc => dfs stand hm B (k - 1 - 1) (1 + 1) (setD D 1 d) acc) B (some z)) g' := by
          intro e
          induction e with
          | zero =>
            intro d h hde hf hh
            have : d = B := by omega
            subst this
            refine ⟨h, ?_, hf, hh⟩
            have l1 := cx_le (stand := stand) d
            rw [eX7_choose_4_63_27, (hf.CHI hi0).1, if_neg (nI_nlt (by omega) (by omega))]
          | succ e ih =>
            intro d h hde hf hh
            have hic := hf.CHI hi0
            have l1 := cx_le (stand := stand) d
            have l2 := cx_le (stand := stand) B
            have hsame : lgl stand (setD D 1 d) (1 + 1) = false → CHD stand l k D 1 (fo (fun d acc => dfs stand hm B (k - 1 - 1) (1 + 1) (setD D 1 d) acc) (d + 1) (some z)) h := by
              intro hf
              rw [fo, dfs_no _ _ _ _ hf]
              exact hh
            cases hsd : stand d with
            | false =>
              have ec : cx stand (d + 1) = cx stand d := by rw [cx, hsd]; rfl
              have := ih (d + 1) h (by omega) hf (hsame (by rw [lgl_setD, hsd]; simp))
              rwa [ec] at this
            | true =>
              have ec : cx stand (d + 1) = cx stand d + 1 := by rw [cx, hsd]; rfl
              have hcl : cx stand d < cx stand B := by
                have := cx_mono (stand := stand) (show d + 1 ≤ B by omega)
                omega
              have hih := fun h' a b => ih (d + 1) h' (by omega) a b
              rw [ec] at hih
              rw [eX7_choose_4_63_27, hic.1, if_pos (nI_lt hcl (by omega)), c_isChosen (D := D) (by omega) hsd (by omega) (fun i hia => ⟨hst i hia, by have := hB i hia; omega⟩) hh.1, am_cal_some, nI_1 1, nI_1 (cx stand d)]
              simp only [bi_eq0]
              cases hn : neqB D d 1 with
              | false =>
                rw [Bool.not_false, if_neg (by decide)]
                exact hih h hf (hsame (by rw [lgl_setD, hn]; simp))
              | true =>
                rw [Bool.not_true, if_pos rfl, am_ast_in _ _ _ _ (show 1 < 4 by decide) (by decide)]
                have hfu : FRC 1 h (am_up h 31 1 (nI (cx stand d))) := ⟨fun q _ b _ => am_up_ne b, fun j _ => by rw [am_up_ne (by decide)], fun i hia => am_up_j (by omega)⟩
                have hch : ∀ i, i < 1 + 1 → am_up h 31 1 (nI (cx stand d)) 31 i = nI (cx stand (setD D 1 d i)) := by
                  intro i hia
                  by_cases hiA : i = 1
                  · subst hiA; rw [am_up_same, setD_eq]
                  · rw [am_up_j hiA, setD_ne hiA]; exact hh.1 i (by omega)
                have hsB : ∀ i, i < 1 + 1 → setD D 1 d i < B := by
                  intro i hia
                  by_cases hiA : i = 1
                  · subst hiA; rw [setD_eq]; omega
                  · rw [setD_ne hiA]; exact hB i (by omega)
                have hlg : lgl stand (setD D 1 d) (1 + 1) = true := by rw [lgl_setD, hl, hsd, hn]; rfl
                have hsl := (lgl_iff.mp hlg).1
                rw [c_harmOfLast (D := setD D 1 d) (hfu.CHI hic) (show 1 < k by omega) (fun i hia => ⟨hsl i (by omega), hsB i (by omega)⟩) (fun i hia => hch i (by omega)), am_cal_some, nI_add, ← hs_setD]
                obtain ⟨g', e1, e2, e3⟩ := hnx (am_up h 31 1 (nI (cx stand d))) (setD D 1 d) _ (hfu.CHI hic) ⟨hch, by rw [am_up_ne (by decide)]; exact hh.2.1, fun z hz => by rw [am_up_ne (by decide)]; exact hh.2.2 z hz⟩ hlg hsB (by omega)
                rw [e1, am_cal_some]
                have hf2 := hf.trans (hfu.trans (e2.weak (by omega)))
                refine hih g' hf2 ⟨fun i hia => by rw [hf2.2.2 i hia]; exact d1 i hia, ?_, ?_⟩
                · rw [fo, show k - 1 - 1 = k - (1 + 1) by omega]; rw [show k - 1 - 1 = k - (1 + 1) by omega] at e3; exact e3.2.1
                · rw [fo, show k - 1 - 1 = k - (1 + 1) by omega]; rw [show k - 1 - 1 = k - (1 + 1) by omega] at e3; exact e3.2.2
        have hdf : dfs stand hm B (k - 1) 1 D (some z) = fo (fun d acc => dfs stand hm B (k - 1 - 1) (1 + 1) (setD D 1 d) acc) B (some z) := by
          rw [show k - 1 = (k - 1 - 1) + 1 by omega, dfs]
          rfl
        rw [hdf]
        exact key B 0 g (by omega) (FRC.refl _ _) ⟨d1, d2, d3⟩
    · rw [if_neg (show ¬ nI (hs hm D 1) < encH (some z) from nI_nlt (by omega) (by omega)), dfs_cut _ _ _ _ (by omega)]
      exact ⟨g, rfl, FRC.refl _ _, d1, d2, d3⟩
  | none =>
    have hlt : True := trivial
    rw [if_pos (show nI (hs hm D 1) < encH none from nI_lt (b := 1000000) (by omega) (by decide))]
    rw [if_neg (show ¬ (4 : Int32) < nI 1 by decide)]
    by_cases hk : 1 = k
    · rw [c2, if_pos (by rw [hk])]
      have hup : ∀ q, q ≠ 27 → am_up g 27 11 (nI (hs hm D 1)) q = g q := fun q h => am_up_ne h
      have hfr : FRC 1 g (am_up g 27 11 (nI (hs hm D 1))) := ⟨fun q a _ _ => hup q a, fun j hj => am_up_j hj, fun i _ => by rw [hup 31 (by decide)]⟩
      obtain ⟨g', e1, e2, e3⟩ := c_ch4_29 (hfr.CHI hi0) (D := D) (fun i hik => ⟨hst i (by omega), hB i (by omega)⟩) (fun i hik => by rw [hup 31 (by decide)]; exact d1 i (by omega))
      have hdf : dfs stand hm B (k - 1) 1 D (none) = some (hs hm D 1, D) := by
        rw [show k - 1 = 0 by omega, dfs, hl, if_pos rfl]
        rfl
      refine ⟨g', e1, ⟨fun q a b d => by rw [e2 q d, hup q a], fun j hj => by rw [e2 27 (by decide), am_up_j hj], fun i _ => by rw [e2 31 (by decide), hup 31 (by decide)]⟩, fun i hia => by rw [e2 31 (by decide), hup 31 (by decide)]; exact d1 i hia, by rw [e2 27 (by decide), am_up_same, hdf]; rfl, fun y hy => ?_⟩
      rw [hdf] at hy
      have hy : (hs hm D 1, D) = y := Option.some.inj hy
      rw [← hy]
      exact ⟨by show hs hm D 1 < 1000000; omega, e3⟩
    · rw [c2, if_neg (fun e => hk ((nI_eq (a := 1) (b := k) (by omega) (by omega)).mp e))]
      have key : ∀ e d h, d + e = B → FRC 1 g h → CHD stand l k D 1 (fo (fun d acc => dfs stand hm B (k - 1 - 1) (1 + 1) (setD D 1 d) acc) d (none)) h → ∃ g', am_run 62 63 [.ref 27, .int (nI 1), .int (nI (hs hm D 1)), .int (nI (cx stand d))] [] h = some (0, g') ∧ FRC 1 g g' ∧ CHD stand l k D 1 (fo (fun d acc => dfs stand hm B (k - 1 - 1) (1 + 1) (setD D 1 d) acc) B (none)) g' := by
        intro e
        induction e with
        | zero =>
          intro d h hde hf hh
          have : d = B := by omega
          subst this
          refine ⟨h, ?_, hf, hh⟩
          have l1 := cx_le (stand := stand) d
          rw [eX7_choose_4_63_27, (hf.CHI hi0).1, if_neg (nI_nlt (by omega) (by omega))]
        | succ e ih =>
          intro d h hde hf hh
          have hic := hf.CHI hi0
          have l1 := cx_le (stand := stand) d
          have l2 := cx_le (stand := stand) B
          have hsame : lgl stand (setD D 1 d) (1 + 1) = false → CHD stand l k D 1 (fo (fun d acc => dfs stand hm B (k - 1 - 1) (1 + 1) (setD D 1 d) acc) (d + 1) (none)) h := by
            intro hf
            rw [fo, dfs_no _ _ _ _ hf]
            exact hh
          cases hsd : stand d with
          | false =>
            have ec : cx stand (d + 1) = cx stand d := by rw [cx, hsd]; rfl
            have := ih (d + 1) h (by omega) hf (hsame (by rw [lgl_setD, hsd]; simp))
            rwa [ec] at this
          | true =>
            have ec : cx stand (d + 1) = cx stand d + 1 := by rw [cx, hsd]; rfl
            have hcl : cx stand d < cx stand B := by
              have := cx_mono (stand := stand) (show d + 1 ≤ B by omega)
              omega
            have hih := fun h' a b => ih (d + 1) h' (by omega) a b
            rw [ec] at hih
            rw [eX7_choose_4_63_27, hic.1, if_pos (nI_lt hcl (by omega)), c_isChosen (D := D) (by omega) hsd (by omega) (fun i hia => ⟨hst i hia, by have := hB i hia; omega⟩) hh.1, am_cal_some, nI_1 1, nI_1 (cx stand d)]
            simp only [bi_eq0]
            cases hn : neqB D d 1 with
            | false =>
              rw [Bool.not_false, if_neg (by decide)]
              exact hih h hf (hsame (by rw [lgl_setD, hn]; simp))
            | true =>
              rw [Bool.not_true, if_pos rfl, am_ast_in _ _ _ _ (show 1 < 4 by decide) (by decide)]
              have hfu : FRC 1 h (am_up h 31 1 (nI (cx stand d))) := ⟨fun q _ b _ => am_up_ne b, fun j _ => by rw [am_up_ne (by decide)], fun i hia => am_up_j (by omega)⟩
              have hch : ∀ i, i < 1 + 1 → am_up h 31 1 (nI (cx stand d)) 31 i = nI (cx stand (setD D 1 d i)) := by
                intro i hia
                by_cases hiA : i = 1
                · subst hiA; rw [am_up_same, setD_eq]
                · rw [am_up_j hiA, setD_ne hiA]; exact hh.1 i (by omega)
              have hsB : ∀ i, i < 1 + 1 → setD D 1 d i < B := by
                intro i hia
                by_cases hiA : i = 1
                · subst hiA; rw [setD_eq]; omega
                · rw [setD_ne hiA]; exact hB i (by omega)
              have hlg : lgl stand (setD D 1 d) (1 + 1) = true := by rw [lgl_setD, hl, hsd, hn]; rfl
              have hsl := (lgl_iff.mp hlg).1
              rw [c_harmOfLast (D := setD D 1 d) (hfu.CHI hic) (show 1 < k by omega) (fun i hia => ⟨hsl i (by omega), hsB i (by omega)⟩) (fun i hia => hch i (by omega)), am_cal_some, nI_add, ← hs_setD]
              obtain ⟨g', e1, e2, e3⟩ := hnx (am_up h 31 1 (nI (cx stand d))) (setD D 1 d) _ (hfu.CHI hic) ⟨hch, by rw [am_up_ne (by decide)]; exact hh.2.1, fun z hz => by rw [am_up_ne (by decide)]; exact hh.2.2 z hz⟩ hlg hsB (by omega)
              rw [e1, am_cal_some]
              have hf2 := hf.trans (hfu.trans (e2.weak (by omega)))
              refine hih g' hf2 ⟨fun i hia => by rw [hf2.2.2 i hia]; exact d1 i hia, ?_, ?_⟩
              · rw [fo, show k - 1 - 1 = k - (1 + 1) by omega]; rw [show k - 1 - 1 = k - (1 + 1) by omega] at e3; exact e3.2.1
              · rw [fo, show k - 1 - 1 = k - (1 + 1) by omega]; rw [show k - 1 - 1 = k - (1 + 1) by omega] at e3; exact e3.2.2
      have hdf : dfs stand hm B (k - 1) 1 D (none) = fo (fun d acc => dfs stand hm B (k - 1 - 1) (1 + 1) (setD D 1 d) acc) B (none) := by
        rw [show k - 1 = (k - 1 - 1) + 1 by omega, dfs]
        rfl
      rw [hdf]
      exact key B 0 g (by omega) (FRC.refl _ _) ⟨d1, d2, d3⟩
theorem c_ch5_29 {g : Hp} {D : Nat → Nat} (hi : CHI stand hm l B k g) (hD : ∀ i, i < k → stand (D i) = true ∧ D i < B) (hc : ∀ i, i < k → g 31 i = nI (cx stand (D i))) : ∃ g', am_run 63 29 [.ref 27, .null, .null, .int 0] [] g = some (0, g') ∧ (∀ q, q ≠ 32 → g' q = g q) ∧ ∀ i, i < k → g' 32 i = nI (wd l (D i)) := by
  obtain ⟨c1, c2, c3, c4, c5, c6, c7⟩ := hi
  have key : ∀ e i h, i + e = k → (∀ q, q ≠ 32 → h q = g q) → (∀ j, j < i → h 32 j = nI (wd l (D j))) → ∃ g', am_run 63 29 [.ref 27, .null, .null, .int (nI i)] [] h = some (0, g') ∧ (∀ q, q ≠ 32 → g' q = g q) ∧ ∀ i, i < k → g' 32 i = nI (wd l (D i)) := by
    intro e
    induction e with
    | zero =>
      intro i h hi h1 h2
      have : i = k := by omega
      subst this
      refine ⟨h, ?_, h1, h2⟩
      rw [eX7_choose_5_29_27, h1 27 (by decide), c2, if_neg (nI_nlt (by omega) (by omega))]
    | succ e ih =>
      intro i h hi h1 h2
      obtain ⟨s1, s2⟩ := hD i (by omega)
      have l1 := cx_le (stand := stand) (D i)
      rw [eX7_choose_5_29_27, h1 27 (by decide), c2, if_pos (nI_lt (by omega) (by omega)), am_ald_in _ _ _ (show i < 4 by omega) (by decide), h1 31 (by decide), hc i (by omega), am_ald_in _ _ _ (show cx stand (D i) < 16 by omega) (by decide), h1 28 (by decide), c5 _ s2 s1, am_ast_in _ _ _ _ (show i < 4 by omega) (by decide), nI_1]
      refine ih (i + 1) _ (by omega) (fun q hq => by rw [am_up_ne hq, h1 q hq]) (fun j hj => ?_)
      by_cases hji : j = i
      · subst hji; exact am_up_same _ _ _ _
      · rw [am_up_j hji]
        exact h2 j (by omega)
  exact key k 0 g (by omega) (fun _ _ => rfl) (fun j hj => absurd hj (Nat.not_lt_zero _))
theorem c_ch5 (hnx : ChOK stand hm l B k 62 (0 + 1)) : ChOK stand hm l B k 63 0 := by
  intro g D acc hi hd hl hB hak
  have hi0 := hi
  obtain ⟨c1, c2, c3, c4, c5, c6, c7⟩ := hi
  obtain ⟨d1, d2, d3⟩ := hd
  have hst := (lgl_iff.mp hl).1
  have hle := hs_le (hm := hm) (D := D) (a := 0) (by omega) (fun i j x y => c7 i j _ _ (by omega) (by omega) (hB i (by omega)) (hB j y))
  rw [eX7_choose_5_27, d2]
  cases acc with
  | some z =>
    obtain ⟨z1, z2⟩ := d3 z rfl
    by_cases hlt : hs hm D 0 < z.1
    · rw [if_pos (show nI (hs hm D 0) < encH (some z) from nI_lt hlt (by omega))]
      rw [if_neg (show ¬ (4 : Int32) < nI 0 by decide)]
      by_cases hk : 0 = k
      · rw [c2, if_pos (by rw [hk])]
        have hup : ∀ q, q ≠ 27 → am_up g 27 11 (nI (hs hm D 0)) q = g q := fun q h => am_up_ne h
        have hfr : FRC 0 g (am_up g 27 11 (nI (hs hm D 0))) := ⟨fun q a _ _ => hup q a, fun j hj => am_up_j hj, fun i _ => by rw [hup 31 (by decide)]⟩
        obtain ⟨g', e1, e2, e3⟩ := c_ch5_29 (hfr.CHI hi0) (D := D) (fun i hik => ⟨hst i (by omega), hB i (by omega)⟩) (fun i hik => by rw [hup 31 (by decide)]; exact d1 i (by omega))
        have hdf : dfs stand hm B (k - 0) 0 D (some z) = some (hs hm D 0, D) := by
          rw [show k - 0 = 0 by omega, dfs, hl, if_pos rfl]
          unfold wput; simp only [hlt, if_true]
        refine ⟨g', e1, ⟨fun q a b d => by rw [e2 q d, hup q a], fun j hj => by rw [e2 27 (by decide), am_up_j hj], fun i _ => by rw [e2 31 (by decide), hup 31 (by decide)]⟩, fun i hia => by rw [e2 31 (by decide), hup 31 (by decide)]; exact d1 i hia, by rw [e2 27 (by decide), am_up_same, hdf]; rfl, fun y hy => ?_⟩
        rw [hdf] at hy
        have hy : (hs hm D 0, D) = y := Option.some.inj hy
        rw [← hy]
        exact ⟨by show hs hm D 0 < 1000000; omega, e3⟩
      · rw [c2, if_neg (fun e => hk ((nI_eq (a := 0) (b := k) (by omega) (by omega)).mp e))]
        have key : ∀ e d h, d + e = B → FRC 0 g h → CHD stand l k D 0 (fo (fun d acc => dfs stand hm B (k - 0 - 1) (0 + 1) (setD D 0 d) acc) d (some z)) h → ∃ g', am_run 63 63 [.ref 27, .int (nI 0), .int (nI (hs hm D 0)), .int (nI (cx stand d))] [] h = some (0, g') ∧ FRC 0 g g' ∧ CHD stand l k D 0 (fo (fun d acc => dfs stand hm B (k - 0 - 1) (0 + 1) (setD D 0 d) acc) B (some z)) g' := by
          intro e
          induction e with
          | zero =>
            intro d h hde hf hh
            have : d = B := by omega
            subst this
            refine ⟨h, ?_, hf, hh⟩
            have l1 := cx_le (stand := stand) d
            rw [eX7_choose_5_63_27, (hf.CHI hi0).1, if_neg (nI_nlt (by omega) (by omega))]
          | succ e ih =>
            intro d h hde hf hh
            have hic := hf.CHI hi0
            have l1 := cx_le (stand := stand) d
            have l2 := cx_le (stand := stand) B
            have hsame : lgl stand (setD D 0 d) (0 + 1) = false → CHD stand l k D 0 (fo (fun d acc => dfs stand hm B (k - 0 - 1) (0 + 1) (setD D 0 d) acc) (d + 1) (some z)) h := by
              intro hf
              rw [fo, dfs_no _ _ _ _ hf]
              exact hh
            cases hsd : stand d with
            | false =>
              have ec : cx stand (d + 1) = cx stand d := by rw [cx, hsd]; rfl
              have := ih (d + 1) h (by omega) hf (hsame (by rw [lgl_setD, hsd]; simp))
              rwa [ec] at this
            | true =>
              have ec : cx stand (d + 1) = cx stand d + 1 := by rw [cx, hsd]; rfl
              have hcl : cx stand d < cx stand B := by
                have := cx_mono (stand := stand) (show d + 1 ≤ B by omega)
                omega
              have hih := fun h' a b => ih (d + 1) h' (by omega) a b
              rw [ec] at hih
              rw [eX7_choose_5_63_27, hic.1, if_pos (nI_lt hcl (by omega)), c_isChosen (D := D) (by omega) hsd (by omega) (fun i hia => ⟨hst i hia, by have := hB i hia; omega⟩) hh.1, am_cal_some, nI_1 0, nI_1 (cx stand d)]
              simp only [bi_eq0]
              cases hn : neqB D d 0 with
              | false =>
                rw [Bool.not_false, if_neg (by decide)]
                exact hih h hf (hsame (by rw [lgl_setD, hn]; simp))
              | true =>
                rw [Bool.not_true, if_pos rfl, am_ast_in _ _ _ _ (show 0 < 4 by decide) (by decide)]
                have hfu : FRC 0 h (am_up h 31 0 (nI (cx stand d))) := ⟨fun q _ b _ => am_up_ne b, fun j _ => by rw [am_up_ne (by decide)], fun i hia => am_up_j (by omega)⟩
                have hch : ∀ i, i < 0 + 1 → am_up h 31 0 (nI (cx stand d)) 31 i = nI (cx stand (setD D 0 d i)) := by
                  intro i hia
                  by_cases hiA : i = 0
                  · subst hiA; rw [am_up_same, setD_eq]
                  · rw [am_up_j hiA, setD_ne hiA]; exact hh.1 i (by omega)
                have hsB : ∀ i, i < 0 + 1 → setD D 0 d i < B := by
                  intro i hia
                  by_cases hiA : i = 0
                  · subst hiA; rw [setD_eq]; omega
                  · rw [setD_ne hiA]; exact hB i (by omega)
                have hlg : lgl stand (setD D 0 d) (0 + 1) = true := by rw [lgl_setD, hl, hsd, hn]; rfl
                have hsl := (lgl_iff.mp hlg).1
                rw [c_harmOfLast (D := setD D 0 d) (hfu.CHI hic) (show 0 < k by omega) (fun i hia => ⟨hsl i (by omega), hsB i (by omega)⟩) (fun i hia => hch i (by omega)), am_cal_some, nI_add, ← hs_setD]
                obtain ⟨g', e1, e2, e3⟩ := hnx (am_up h 31 0 (nI (cx stand d))) (setD D 0 d) _ (hfu.CHI hic) ⟨hch, by rw [am_up_ne (by decide)]; exact hh.2.1, fun z hz => by rw [am_up_ne (by decide)]; exact hh.2.2 z hz⟩ hlg hsB (by omega)
                rw [e1, am_cal_some]
                have hf2 := hf.trans (hfu.trans (e2.weak (by omega)))
                refine hih g' hf2 ⟨fun i hia => by rw [hf2.2.2 i hia]; exact d1 i hia, ?_, ?_⟩
                · rw [fo, show k - 0 - 1 = k - (0 + 1) by omega]; rw [show k - 0 - 1 = k - (0 + 1) by omega] at e3; exact e3.2.1
                · rw [fo, show k - 0 - 1 = k - (0 + 1) by omega]; rw [show k - 0 - 1 = k - (0 + 1) by omega] at e3; exact e3.2.2
        have hdf : dfs stand hm B (k - 0) 0 D (some z) = fo (fun d acc => dfs stand hm B (k - 0 - 1) (0 + 1) (setD D 0 d) acc) B (some z) := by
          rw [show k - 0 = (k - 0 - 1) + 1 by omega, dfs]
          rfl
        rw [hdf]
        exact key B 0 g (by omega) (FRC.refl _ _) ⟨d1, d2, d3⟩
    · rw [if_neg (show ¬ nI (hs hm D 0) < encH (some z) from nI_nlt (by omega) (by omega)), dfs_cut _ _ _ _ (by omega)]
      exact ⟨g, rfl, FRC.refl _ _, d1, d2, d3⟩
  | none =>
    have hlt : True := trivial
    rw [if_pos (show nI (hs hm D 0) < encH none from nI_lt (b := 1000000) (by omega) (by decide))]
    rw [if_neg (show ¬ (4 : Int32) < nI 0 by decide)]
    by_cases hk : 0 = k
    · rw [c2, if_pos (by rw [hk])]
      have hup : ∀ q, q ≠ 27 → am_up g 27 11 (nI (hs hm D 0)) q = g q := fun q h => am_up_ne h
      have hfr : FRC 0 g (am_up g 27 11 (nI (hs hm D 0))) := ⟨fun q a _ _ => hup q a, fun j hj => am_up_j hj, fun i _ => by rw [hup 31 (by decide)]⟩
      obtain ⟨g', e1, e2, e3⟩ := c_ch5_29 (hfr.CHI hi0) (D := D) (fun i hik => ⟨hst i (by omega), hB i (by omega)⟩) (fun i hik => by rw [hup 31 (by decide)]; exact d1 i (by omega))
      have hdf : dfs stand hm B (k - 0) 0 D (none) = some (hs hm D 0, D) := by
        rw [show k - 0 = 0 by omega, dfs, hl, if_pos rfl]
        rfl
      refine ⟨g', e1, ⟨fun q a b d => by rw [e2 q d, hup q a], fun j hj => by rw [e2 27 (by decide), am_up_j hj], fun i _ => by rw [e2 31 (by decide), hup 31 (by decide)]⟩, fun i hia => by rw [e2 31 (by decide), hup 31 (by decide)]; exact d1 i hia, by rw [e2 27 (by decide), am_up_same, hdf]; rfl, fun y hy => ?_⟩
      rw [hdf] at hy
      have hy : (hs hm D 0, D) = y := Option.some.inj hy
      rw [← hy]
      exact ⟨by show hs hm D 0 < 1000000; omega, e3⟩
    · rw [c2, if_neg (fun e => hk ((nI_eq (a := 0) (b := k) (by omega) (by omega)).mp e))]
      have key : ∀ e d h, d + e = B → FRC 0 g h → CHD stand l k D 0 (fo (fun d acc => dfs stand hm B (k - 0 - 1) (0 + 1) (setD D 0 d) acc) d (none)) h → ∃ g', am_run 63 63 [.ref 27, .int (nI 0), .int (nI (hs hm D 0)), .int (nI (cx stand d))] [] h = some (0, g') ∧ FRC 0 g g' ∧ CHD stand l k D 0 (fo (fun d acc => dfs stand hm B (k - 0 - 1) (0 + 1) (setD D 0 d) acc) B (none)) g' := by
        intro e
        induction e with
        | zero =>
          intro d h hde hf hh
          have : d = B := by omega
          subst this
          refine ⟨h, ?_, hf, hh⟩
          have l1 := cx_le (stand := stand) d
          rw [eX7_choose_5_63_27, (hf.CHI hi0).1, if_neg (nI_nlt (by omega) (by omega))]
        | succ e ih =>
          intro d h hde hf hh
          have hic := hf.CHI hi0
          have l1 := cx_le (stand := stand) d
          have l2 := cx_le (stand := stand) B
          have hsame : lgl stand (setD D 0 d) (0 + 1) = false → CHD stand l k D 0 (fo (fun d acc => dfs stand hm B (k - 0 - 1) (0 + 1) (setD D 0 d) acc) (d + 1) (none)) h := by
            intro hf
            rw [fo, dfs_no _ _ _ _ hf]
            exact hh
          cases hsd : stand d with
          | false =>
            have ec : cx stand (d + 1) = cx stand d := by rw [cx, hsd]; rfl
            have := ih (d + 1) h (by omega) hf (hsame (by rw [lgl_setD, hsd]; simp))
            rwa [ec] at this
          | true =>
            have ec : cx stand (d + 1) = cx stand d + 1 := by rw [cx, hsd]; rfl
            have hcl : cx stand d < cx stand B := by
              have := cx_mono (stand := stand) (show d + 1 ≤ B by omega)
              omega
            have hih := fun h' a b => ih (d + 1) h' (by omega) a b
            rw [ec] at hih
            rw [eX7_choose_5_63_27, hic.1, if_pos (nI_lt hcl (by omega)), c_isChosen (D := D) (by omega) hsd (by omega) (fun i hia => ⟨hst i hia, by have := hB i hia; omega⟩) hh.1, am_cal_some, nI_1 0, nI_1 (cx stand d)]
            simp only [bi_eq0]
            cases hn : neqB D d 0 with
            | false =>
              rw [Bool.not_false, if_neg (by decide)]
              exact hih h hf (hsame (by rw [lgl_setD, hn]; simp))
            | true =>
              rw [Bool.not_true, if_pos rfl, am_ast_in _ _ _ _ (show 0 < 4 by decide) (by decide)]
              have hfu : FRC 0 h (am_up h 31 0 (nI (cx stand d))) := ⟨fun q _ b _ => am_up_ne b, fun j _ => by rw [am_up_ne (by decide)], fun i hia => am_up_j (by omega)⟩
              have hch : ∀ i, i < 0 + 1 → am_up h 31 0 (nI (cx stand d)) 31 i = nI (cx stand (setD D 0 d i)) := by
                intro i hia
                by_cases hiA : i = 0
                · subst hiA; rw [am_up_same, setD_eq]
                · rw [am_up_j hiA, setD_ne hiA]; exact hh.1 i (by omega)
              have hsB : ∀ i, i < 0 + 1 → setD D 0 d i < B := by
                intro i hia
                by_cases hiA : i = 0
                · subst hiA; rw [setD_eq]; omega
                · rw [setD_ne hiA]; exact hB i (by omega)
              have hlg : lgl stand (setD D 0 d) (0 + 1) = true := by rw [lgl_setD, hl, hsd, hn]; rfl
              have hsl := (lgl_iff.mp hlg).1
              rw [c_harmOfLast (D := setD D 0 d) (hfu.CHI hic) (show 0 < k by omega) (fun i hia => ⟨hsl i (by omega), hsB i (by omega)⟩) (fun i hia => hch i (by omega)), am_cal_some, nI_add, ← hs_setD]
              obtain ⟨g', e1, e2, e3⟩ := hnx (am_up h 31 0 (nI (cx stand d))) (setD D 0 d) _ (hfu.CHI hic) ⟨hch, by rw [am_up_ne (by decide)]; exact hh.2.1, fun z hz => by rw [am_up_ne (by decide)]; exact hh.2.2 z hz⟩ hlg hsB (by omega)
              rw [e1, am_cal_some]
              have hf2 := hf.trans (hfu.trans (e2.weak (by omega)))
              refine hih g' hf2 ⟨fun i hia => by rw [hf2.2.2 i hia]; exact d1 i hia, ?_, ?_⟩
              · rw [fo, show k - 0 - 1 = k - (0 + 1) by omega]; rw [show k - 0 - 1 = k - (0 + 1) by omega] at e3; exact e3.2.1
              · rw [fo, show k - 0 - 1 = k - (0 + 1) by omega]; rw [show k - 0 - 1 = k - (0 + 1) by omega] at e3; exact e3.2.2
      have hdf : dfs stand hm B (k - 0) 0 D (none) = fo (fun d acc => dfs stand hm B (k - 0 - 1) (0 + 1) (setD D 0 d) acc) B (none) := by
        rw [show k - 0 = (k - 0 - 1) + 1 by omega, dfs]
        rfl
      rw [hdf]
      exact key B 0 g (by omega) (FRC.refl _ _) ⟨d1, d2, d3⟩
theorem c_choose : ChOK stand hm l B k 63 0 := c_ch5 (c_ch4 (c_ch3 (c_ch2 c_ch1)))
end Choose
