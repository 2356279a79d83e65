section Rename
variable {n : Nat} {lk ln : Nat → Nat} {c : Nat} {mr : Nat → Nat} {t kc : Nat} {f g : Hp}
/-- words of sides, and until when old ones lead, behind a renaming of a set -/
def rnW (W : Nat → Int32) (S : Nat) (w : Int32) (s : Nat) : Int32 := if S.testBit s then w else W s
def rnV (W : Nat → Int32) (U : Nat → Nat → Int32) (S : Nat) (w la : Int32) (s x : Nat) : Int32 := if S.testBit s = true ∧ W s = nI x ∧ ¬ W s = w then am_max (U s x) la else U s x
def okW (W : Nat → Int32) : Prop := ∀ s, s < 9 → W s = -1 ∨ ∃ x, x < 36 ∧ W s = nI x
def CT (W : Nat → Int32) (U : Nat → Nat → Int32) (f : Hp) : Prop := (∀ s, s < 9 → f 38 s = W s) ∧ ∀ s x, s < 9 → x < 36 → f 39 (s * 36 + x) = U s x
def MT (W : Nat → Int32) (U : Nat → Nat → Int32) (f : Hp) : Prop := (∀ s, s < 9 → f 60 s = W s) ∧ ∀ s x, s < 9 → x < 36 → f 61 (9 * x + s) = U s x
theorem rnW_ok {W : Nat → Int32} {S y : Nat} (h : okW W) (hy : y < 36) : okW (rnW W S (nI y)) := by
  intro s hs
  unfold rnW
  cases S.testBit s with
  | true => exact Or.inr ⟨y, hy, rfl⟩
  | false => exact h s hs
/-- the class renames one side -/
theorem c_rename {W : Nat → Int32} {U : Nat → Nat → Int32} (hc : CT W U g) (hW : okW W) {s : Nat} (hs : s < 9) (w la : Int32) : ∃ g', am_call 49 [.ref 37, .int (nI s), .int w, .int la] g = some (0, g') ∧ (∀ q, q ≠ 38 → q ≠ 39 → g' q = g q) ∧ CT (rnW W (2 ^ s) w) (rnV W U (2 ^ s) w la) g' := by
  have bit : ∀ j, (2 ^ s).testBit j = decide (s = j) := fun j => Nat.testBit_two_pow ..
  rw [eX6_rename_37, am_ald_in _ _ _ hs (by decide), hc.1 s hs]
  by_cases e1 : W s = w
  · rw [if_pos e1]
    refine ⟨g, rfl, fun _ _ _ => rfl, fun j hj => ?_, fun j x hj hx => ?_⟩
    · unfold rnW
      rw [bit, hc.1 j hj]
      by_cases ej : s = j
      · subst ej; simp [e1]
      · simp [ej]
    · unfold rnV
      rw [if_neg (fun z => by
        rw [bit] at z
        have : s = j := of_decide_eq_true z.1
        subst this
        exact z.2.2 e1), hc.2 j x hj hx]
  · rw [if_neg e1]
    rcases hW s hs with e2 | ⟨x, hx, e2⟩
    · rw [if_pos (show W s < 0 by rw [e2]; decide), am_ast_in _ _ _ _ hs (by decide)]
      refine ⟨_, rfl, fun q h1 h2 => am_up_ne h1, fun j hj => ?_, fun j y hj hy => ?_⟩
      · unfold rnW
        rw [bit]
        by_cases ej : s = j
        · subst ej; rw [am_up_same]; simp
        · rw [am_up_j (fun z => ej z.symm), hc.1 j hj]; simp [ej]
      · unfold rnV
        rw [am_up_ne (by decide), hc.2 j y hj hy, if_neg (fun z => by
          rw [bit] at z
          have : s = j := of_decide_eq_true z.1
          subst this
          rw [e2] at z
          exact m1_ne (by omega) z.2.1)]
    · rw [if_neg (show ¬ W s < 0 by rw [e2]; exact nI_pos (by omega)), e2, idx36, am_ald_in _ _ _ (show s * 36 + x < 324 by omega) (by decide), am_ast_in _ _ _ _ (show s * 36 + x < 324 by omega) (by decide), am_ast_in _ _ _ _ hs (by decide), hc.2 s x hs hx]
      refine ⟨_, rfl, fun q h1 h2 => by rw [am_up_ne h1, am_up_ne h2], fun j hj => ?_, fun j y hj hy => ?_⟩
      · unfold rnW
        rw [bit]
        by_cases ej : s = j
        · subst ej; rw [am_up_same]; simp
        · rw [am_up_j (fun z => ej z.symm), am_up_ne (by decide), hc.1 j hj]; simp [ej]
      · unfold rnV
        rw [bit, am_up_ne (by decide)]
        by_cases ej : s = j ∧ x = y
        · obtain ⟨rfl, rfl⟩ := ej
          rw [am_up_same, if_pos ⟨by simp, e2, e1⟩]
        · rw [am_up_j (by omega), hc.2 j y hj hy, if_neg (fun z => by
            have z1 : s = j := of_decide_eq_true z.1
            subst z1
            have z2 := z.2.1
            rw [e2] at z2
            exact ej ⟨rfl, (nI_eq (by omega) (by omega)).mp z2⟩)]
/-- a renaming side by side is one of the set -/
theorem rnW_step (W : Nat → Int32) (S i : Nat) (w : Int32) (hb : S.testBit i = true) (hP : ∀ j, (S &&& (2 ^ i - 1)).testBit j = (S.testBit j && decide (j < i))) : ∀ s, rnW (rnW W (S &&& (2 ^ i - 1)) w) (2 ^ i) w s = rnW W (S &&& (2 ^ (i + 1) - 1)) w s := by
  intro s
  unfold rnW
  rw [Nat.testBit_two_pow, hP, Nat.testBit_and, Nat.testBit_two_pow_sub_one]
  by_cases e : i = s
  · subst e; simp [hb]
  · have : decide (s < i + 1) = decide (s < i) := decide_eq_decide.mpr (by omega)
    simp [e, this]
theorem low_bits (S i : Nat) : ∀ j, (S &&& (2 ^ i - 1)).testBit j = (S.testBit j && decide (j < i)) := fun j => by
  rw [Nat.testBit_and, Nat.testBit_two_pow_sub_one]
theorem rnV_step (W : Nat → Int32) (U : Nat → Nat → Int32) (S i : Nat) (w la : Int32) (hb : S.testBit i = true) : ∀ s x, rnV (rnW W (S &&& (2 ^ i - 1)) w) (rnV W U (S &&& (2 ^ i - 1)) w la) (2 ^ i) w la s x = rnV W U (S &&& (2 ^ (i + 1) - 1)) w la s x := by
  intro s x
  unfold rnV rnW
  rw [Nat.testBit_two_pow, low_bits, low_bits]
  by_cases e : i = s
  · subst e
    simp [hb]
  · have : decide (s < i + 1) = decide (s < i) := decide_eq_decide.mpr (by omega)
    simp [e, this]
theorem CT.congr {W W' : Nat → Int32} {U U' : Nat → Nat → Int32} (h : CT W U g) (h1 : ∀ s, s < 9 → W' s = W s) (h2 : ∀ s x, s < 9 → x < 36 → U' s x = U s x) : CT W' U' g := ⟨fun s hs => by rw [h1 s hs]; exact h.1 s hs, fun s x hs hx => by rw [h2 s x hs hx]; exact h.2 s x hs hx⟩
theorem MT.congr {W W' : Nat → Int32} {U U' : Nat → Nat → Int32} (h : MT W U g) (h1 : ∀ s, s < 9 → W' s = W s) (h2 : ∀ s x, s < 9 → x < 36 → U' s x = U s x) : MT W' U' g := ⟨fun s hs => by rw [h1 s hs]; exact h.1 s hs, fun s x hs hx => by rw [h2 s x hs hx]; exact h.2 s x hs hx⟩
theorem rn_skip {S i : Nat} (hb : S.testBit i = false) : S &&& (2 ^ (i + 1) - 1) = S &&& (2 ^ i - 1) := by
  apply Nat.eq_of_testBit_eq
  intro j
  rw [low_bits, low_bits]
  by_cases e : j = i
  · subst e; simp [hb]
  · have : decide (j < i + 1) = decide (j < i) := decide_eq_decide.mpr (by omega)
    rw [this]
theorem rn_all {S i : Nat} (h : S < 2 ^ i) : S &&& (2 ^ i - 1) = S := by
  apply Nat.eq_of_testBit_eq
  intro j
  rw [low_bits]
  by_cases e : j < i
  · simp [e]
  · rw [lt_bit h (by omega)]; rfl
theorem c_rnL {W : Nat → Int32} {U : Nat → Nat → Int32} {S y : Nat} (hS : S < 512) (hy : y < 36) (day o : Int32) (hW : okW W) : ∀ d i g, i + d = 9 → CT (rnW W (S &&& (2 ^ i - 1)) (nI y)) (rnV W U (S &&& (2 ^ i - 1)) (nI y) (day + o)) g → ∃ g', am_run 93 14 [.ref 1, .int (nI S), .int (nI y), .int day, .int o, .int (nI i)] [] g = some (0, g') ∧ (∀ q, q ≠ 38 → q ≠ 39 → g' q = g q) ∧ CT (rnW W S (nI y)) (rnV W U S (nI y) (day + o)) g' := by
  intro d
  induction d with
  | zero =>
    intro i g hi hc
    have : i = 9 := by omega
    subst this
    rw [rn_all (show S < 2 ^ 9 from hS)] at hc
    refine ⟨g, ?_, fun _ _ _ => rfl, hc⟩
    rw [eX8_renameAll_14_1, if_neg (by decide)]
  | succ d ih =>
    intro i g hi hc
    rw [eX8_renameAll_14_1, if_pos (show nI i < (9 : Int32) from nI_lt (b := 9) (by omega) (by decide)), c_hasSide (by omega) (by omega), am_cal_some, nI_1]
    cases hb : S.testBit i with
    | false =>
      rw [bi_f, if_pos rfl]
      exact ih (i + 1) g (by omega) (by rw [rn_skip hb]; exact hc)
    | true =>
      rw [bi_t, if_neg one_ne]
      obtain ⟨g1, a1, a2, a3⟩ := c_rename hc (rnW_ok hW hy) (show i < 9 by omega) (nI y) (day + o)
      rw [a1, am_cal_some]
      obtain ⟨g', b1, b2, b3⟩ := ih (i + 1) g1 (by omega) (a3.congr (fun s _ => (rnW_step W S i (nI y) hb (low_bits S i) s).symm) (fun s x _ _ => (rnV_step W U S i (nI y) (day + o) hb s x).symm))
      exact ⟨g', b1, fun q h1 h2 => by rw [b2 q h1 h2, a2 q h1 h2], b3⟩
theorem rn_none (W : Nat → Int32) (U : Nat → Nat → Int32) (S : Nat) (w la : Int32) : (∀ s, rnW W (S &&& (2 ^ 0 - 1)) w s = W s) ∧ ∀ s x, rnV W U (S &&& (2 ^ 0 - 1)) w la s x = U s x := by
  have : S &&& (2 ^ 0 - 1) = 0 := by simp
  rw [this]
  refine ⟨fun s => ?_, fun s x => ?_⟩
  · unfold rnW; rw [Nat.zero_testBit]; rfl
  · unfold rnV; rw [Nat.zero_testBit, if_neg (fun z => by cases z.1)]
/-- the class renames a set of sides -/
theorem c_renameAll {W : Nat → Int32} {U : Nat → Nat → Int32} {S y : Nat} (h3 : g 16 3 = nI c) (h40 : c ≤ 40) (hS : S < 512) (hy : y < 36) (day : Int32) (hW : okW W) (hc : CT W U g) : ∃ g', am_call 93 [.ref 1, .int (nI S), .int (nI y), .int day] g = some (0, g') ∧ (∀ q, q ≠ 38 → q ≠ 39 → g' q = g q) ∧ CT (rnW W S (nI y)) (rnV W U S (nI y) (day + vO g c 2 day)) g' := by
  have hv : am_call 7 [.ref 16, .int 2, .int day] g = some (vO g c 2 day, g) := c_valueOn h3 h40 2 day
  rw [eX8_renameAll_1, hv, am_cal_some]
  exact c_rnL hS hy day (vO g c 2 day) hW 9 0 g (by omega) (hc.congr (fun s _ => (rn_none W U S (nI y) 0).1 s) (fun s x _ _ => (rn_none W U S _ (day + vO g c 2 day)).2 s x))
/-- the reference renames one side -/
theorem m_get {W : Nat → Int32} {U : Nat → Nat → Int32} {o : Int32} (hv : ∀ g' : Hp, g' 57 = g 57 → g' 58 = g 58 → ∀ day, am_call 142 [.ref 50, .int 2, .int day] g' = some (vO f c 2 day, g')) (hc : MT W U g) (hW : okW W) {s : Nat} (hs : s < 9) (w day : Int32) (ho : o = vO f c 2 day) : ∃ g', am_call 165 [.ref 50, .int (nI s), .int w, .int day] g = some (0, g') ∧ (∀ q, q ≠ 60 → q ≠ 61 → g' q = g q) ∧ MT (rnW W (2 ^ s) w) (rnV W U (2 ^ s) w (day + o)) g' ∧ (∀ j, 9 ≤ j → g' 60 j = g 60 j) ∧ ∀ j, 324 ≤ j → g' 61 j = g 61 j := by
  subst ho
  have bit : ∀ j, (2 ^ s).testBit j = decide (s = j) := fun j => Nat.testBit_two_pow ..
  rw [eX9_get_50, am_ald_in _ _ _ (show s < 27 by omega) (by decide), hc.1 s hs]
  rcases hW s hs with e2 | ⟨x, hx, e2⟩
  · rw [if_pos (show W s < 0 by rw [e2]; decide), am_ast_in _ _ _ _ (show s < 27 by omega) (by decide)]
    refine ⟨_, rfl, fun q h1 h2 => am_up_ne h1, ⟨fun j hj => ?_, fun j y hj hy => ?_⟩, fun j hj => am_up_j (by omega), fun j hj => by rw [am_up_ne (by decide)]⟩
    · unfold rnW
      rw [bit]
      by_cases ej : s = j
      · subst ej; rw [am_up_same]; simp
      · rw [am_up_j (fun z => ej z.symm), hc.1 j hj]; simp [ej]
    · unfold rnV
      rw [am_up_ne (by decide), hc.2 j y hj hy, if_neg (fun z => by
        rw [bit] at z
        have : s = j := of_decide_eq_true z.1
        subst this
        rw [e2] at z
        exact m1_ne (by omega) z.2.1)]
  · rw [if_neg (show ¬ W s < 0 by rw [e2]; exact nI_pos (by omega))]
    by_cases e1 : W s = w
    · rw [if_pos e1, am_ast_in _ _ _ _ (show s < 27 by omega) (by decide)]
      refine ⟨_, rfl, fun q h1 h2 => am_up_ne h1, ⟨fun j hj => ?_, fun j y hj hy => ?_⟩, fun j hj => am_up_j (by omega), fun j hj => by rw [am_up_ne (by decide)]⟩
      · unfold rnW
        rw [bit]
        by_cases ej : s = j
        · subst ej; rw [am_up_same]; simp
        · rw [am_up_j (fun z => ej z.symm), hc.1 j hj]; simp [ej]
      · unfold rnV
        rw [am_up_ne (by decide), hc.2 j y hj hy, if_neg (fun z => by
          rw [bit] at z
          have : s = j := of_decide_eq_true z.1
          subst this
          exact z.2.2 e1)]
    · rw [if_neg e1, hv g rfl rfl day, am_cal_some, e2, idx9', am_ald_in _ _ _ (show 9 * x + s < 972 by omega) (by decide), hc.2 s x hs hx]
      have key : ∀ v, v = am_max (U s x) (day + vO f c 2 day) → (∀ q, q ≠ 60 → q ≠ 61 → am_up (am_up g 61 (9 * x + s) v) 60 s w q = g q) ∧ MT (rnW W (2 ^ s) w) (rnV W U (2 ^ s) w (day + vO f c 2 day)) (am_up (am_up g 61 (9 * x + s) v) 60 s w) ∧ (∀ j, 9 ≤ j → am_up (am_up g 61 (9 * x + s) v) 60 s w 60 j = g 60 j) ∧ ∀ j, 324 ≤ j → am_up (am_up g 61 (9 * x + s) v) 60 s w 61 j = g 61 j := by
        intro v hvv
        refine ⟨fun q h1 h2 => by rw [am_up_ne h1, am_up_ne h2], ⟨fun j hj => ?_, fun j y hj hy => ?_⟩, fun j hj => by rw [am_up_j (by omega), am_up_ne (by decide)], fun j hj => by rw [am_up_ne (by decide), am_up_j (by omega)]⟩
        · unfold rnW
          rw [bit]
          by_cases ej : s = j
          · subst ej; rw [am_up_same]; simp
          · rw [am_up_j (fun z => ej z.symm), am_up_ne (by decide), hc.1 j hj]; simp [ej]
        · unfold rnV
          rw [bit, am_up_ne (by decide)]
          by_cases ej : s = j ∧ x = y
          · obtain ⟨rfl, rfl⟩ := ej
            rw [am_up_same, if_pos ⟨by simp, e2, e1⟩, hvv]
          · rw [am_up_j (by omega), hc.2 j y hj hy, if_neg (fun z => by
              have z1 : s = j := of_decide_eq_true z.1
              subst z1
              have z2 := z.2.1
              rw [e2] at z2
              exact ej ⟨rfl, (nI_eq (by omega) (by omega)).mp z2⟩)]
      by_cases e3 : U s x < day + vO f c 2 day
      · rw [if_pos e3, am_ast_in _ _ _ _ (show 9 * x + s < 972 by omega) (by decide), am_ast_in _ _ _ _ (show s < 27 by omega) (by decide)]
        exact ⟨_, rfl, key _ (by unfold am_max; rw [if_pos e3])⟩
      · rw [if_neg e3, am_ald_in _ _ _ (show 9 * x + s < 972 by omega) (by decide), hc.2 s x hs hx, am_ast_in _ _ _ _ (show 9 * x + s < 972 by omega) (by decide), am_ast_in _ _ _ _ (show s < 27 by omega) (by decide)]
        exact ⟨_, rfl, key _ (by unfold am_max; rw [if_neg e3])⟩
end Rename
