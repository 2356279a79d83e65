section Give
variable {n : Nat} {lk ln : Nat → Nat} {c : Nat} {mr : Nat → Nat} {t kc : Nat} {f g : Hp}
theorem WB_ok {stand : Nat → Bool} {hm : Nat → Nat → Nat → Nat → Nat} {B k : Nat} {z : Nat × (Nat → Nat)} (h : WB stand hm B k = some z) : lgl stand z.2 k = true ∧ ∀ i, i < k → z.2 i < B := by
  have key : (fun acc : WAcc => ∀ z, acc = some z → lgl stand z.2 k = true ∧ ∀ i, i < k → z.2 i < B) (dfs stand hm B k 0 (fun _ => 0) none) := by
    refine dfs_all (P := fun acc : WAcc => ∀ z, acc = some z → lgl stand z.2 k = true ∧ ∀ i, i < k → z.2 i < B) (fun E _ h2 h3 acc hacc => ?_) none (fun z hz => by cases hz)
    rw [Nat.zero_add] at h2 h3
    intro y hy
    unfold wput at hy
    cases acc with
    | none =>
      cases hy
      exact ⟨h3, fun i hi => h2 i (Nat.zero_le _) hi⟩
    | some x =>
      have hy : (if hs hm E (0 + k) < x.1 then some (hs hm E (0 + k), E) else some x) = some y := hy
      split at hy
      · cases hy
        exact ⟨h3, fun i hi => h2 i (Nat.zero_le _) hi⟩
      · exact hacc y hy
  exact key z h
/-- shapes get words, one behind the other -/
def gvS (sh wo : Nat → Nat) (la : Int32) (W : Nat → Int32) (U : Nat → Nat → Int32) : Nat → (Nat → Int32) × (Nat → Nat → Int32)
  | 0 => (W, U)
  | i + 1 => (rnW (gvS sh wo la W U i).1 (sh i) (nI (wo i)), rnV (gvS sh wo la W U i).1 (gvS sh wo la W U i).2 (sh i) (nI (wo i)) la)
section
variable {sh wo : Nat → Nat} {la : Int32} {W : Nat → Int32} {U : Nat → Nat → Int32}
theorem gvS_ok (hW : okW W) {k : Nat} (hwo : ∀ i, i < k → wo i < 36) : ∀ i, i ≤ k → okW (gvS sh wo la W U i).1
  | 0, _ => hW
  | i + 1, h => rnW_ok (gvS_ok hW hwo i (by omega)) (hwo i (by omega))
theorem gvS_off {s : Nat} : ∀ m, (∀ j, j < m → (sh j).testBit s = false) → (gvS sh wo la W U m).1 s = W s
  | 0, _ => rfl
  | m + 1, h => by
    show rnW (gvS sh wo la W U m).1 (sh m) (nI (wo m)) s = W s
    unfold rnW
    rw [h m (by omega)]
    exact gvS_off m (fun j hj => h j (by omega))
theorem gvS_at {s i : Nat} (hi : (sh i).testBit s = true) : ∀ m, i < m → (∀ j, i < j → j < m → (sh j).testBit s = false) → (gvS sh wo la W U m).1 s = nI (wo i)
  | 0, h, _ => absurd h (Nat.not_lt_zero _)
  | m + 1, h, hd => by
    show rnW (gvS sh wo la W U m).1 (sh m) (nI (wo m)) s = _
    unfold rnW
    by_cases e : i = m
    · subst e; rw [hi]; rfl
    · rw [hd m (by omega) (by omega)]
      exact gvS_at hi m (by omega) (fun j h1 h2 => hd j h1 (by omega))
theorem c_gvL {k : Nat} (hk4 : k ≤ 4) (hsh : ∀ i, i < k → sh i < 512) (hwo : ∀ i, i < k → wo i < 36) (hW : okW W) (day : Int32) (h40 : c ≤ 40) : ∀ d i g, i + d = k → g 22 6 = nI k → (∀ j, j < k → g 26 j = nI (sh j)) → (∀ j, j < k → g 32 j = nI (wo j)) → g 16 3 = nI c → day + vO g c 2 day = la → CT (gvS sh wo la W U i).1 (gvS sh wo la W U i).2 g → ∃ g', am_run 87 57 [.ref 1, .int day, .null, .int (nI i)] [] g = some (nI k, g') ∧ (∀ q, q ∉ [37, 38, 39] → g' q = g q) ∧ g' 37 4 = day ∧ (∀ j, j ≠ 4 → g' 37 j = g 37 j) ∧ CT (gvS sh wo la W U k).1 (gvS sh wo la W U k).2 g' := by
  intro d
  induction d with
  | zero =>
    intro i g hi h6 h26 h32 h16 hla hc
    have : i = k := by omega
    subst this
    refine ⟨am_up g 37 4 day, ?_, fun q hq => am_up_ne (fun z => hq (by rw [z]; decide)), am_up_same _ _ _ _, fun j hj => am_up_j hj, ⟨fun s hs => by rw [am_up_ne (by decide)]; exact hc.1 s hs, fun s x hs hx => by rw [am_up_ne (by decide)]; exact hc.2 s x hs hx⟩⟩
    rw [eX8_give_57_1, h6, if_neg (nI_nlt (Nat.le_refl _) (by omega)), am_up_ne (by decide), h6]
  | succ d ih =>
    intro i g hi h6 h26 h32 h16 hla hc
    obtain ⟨g1, a1, a2, a3⟩ := c_renameAll (S := sh i) (y := wo i) h16 h40 (hsh i (by omega)) (hwo i (by omega)) day (gvS_ok hW hwo i (by omega)) hc
    rw [hla] at a3
    have hv : vO g1 c 2 day = vO g c 2 day := by unfold vO; rw [a2 17 (by decide) (by decide), a2 18 (by decide) (by decide), a2 19 (by decide) (by decide)]
    obtain ⟨g', b1, b2, b3, b4, b5⟩ := ih (i + 1) g1 (by omega) (by rw [a2 22 (by decide) (by decide)]; exact h6) (by rw [a2 26 (by decide) (by decide)]; exact h26) (by rw [a2 32 (by decide) (by decide)]; exact h32) (by rw [a2 16 (by decide) (by decide)]; exact h16) (by rw [hv]; exact hla) a3
    refine ⟨g', ?_, fun q hq => ?_, b3, fun j hj => by rw [b4 j hj, a2 37 (by decide) (by decide)], b5⟩
    · rw [eX8_give_57_1, h6, if_pos (nI_lt (by omega) (by omega)), if_pos (show nI i < (4 : Int32) from nI_lt (b := 4) (by omega) (by decide)), am_ald_in _ _ _ (show i < 9 by omega) (by decide), am_ald_in _ _ _ (show i < 4 by omega) (by decide), h26 i (by omega), h32 i (by omega), a1, am_cal_some, nI_1, b1]
    · rw [b2 q hq]
      simp only [List.mem_cons, List.not_mem_nil, or_false, not_or] at hq
      rw [a2 q hq.2.1 hq.2.2]
/-- what the reference's renaming leaves alone -/
def FrM (g g' : Hp) : Prop := (∀ q, q ≠ 60 → q ≠ 61 → g' q = g q) ∧ (∀ j, 9 ≤ j → g' 60 j = g 60 j) ∧ ∀ j, 324 ≤ j → g' 61 j = g 61 j
theorem FrM.refl (g : Hp) : FrM g g := ⟨fun _ _ _ => rfl, fun _ _ => rfl, fun _ _ => rfl⟩
theorem FrM.trans {a b d : Hp} (x : FrM a b) (y : FrM b d) : FrM a d := ⟨fun q h1 h2 => by rw [y.1 q h1 h2, x.1 q h1 h2], fun j hj => by rw [y.2.1 j hj, x.2.1 j hj], fun j hj => by rw [y.2.2 j hj, x.2.2 j hj]⟩
/-- the reference's o -/
def OV (f : Hp) (c : Nat) (g : Hp) : Prop := ∀ g' : Hp, g' 57 = g 57 → g' 58 = g 58 → ∀ day, am_call 142 [.ref 50, .int 2, .int day] g' = some (vO f c 2 day, g')
theorem OV.fr {a b : Hp} (h : OV f c a) (x : FrM a b) : OV f c b := fun g' h1 h2 => h g' (by rw [h1, x.1 57 (by decide) (by decide)]) (by rw [h2, x.1 58 (by decide) (by decide)])
theorem Iv.ov (h : Iv n lk ln c mr t kc f) : OV f c f := fun g' h1 h2 day => by
  have := h.m_val 2 day
  rw [m_ruleOf h.c1 h.c40] at this
  rw [m_ruleOf (by rw [h1]; exact h.c1) h.c40, h2]
  have e := (Prod.mk.inj (Option.some.inj this)).1
  rw [e]
theorem m_gvIn {i S y : Nat} (h9 : n ≤ 9) (hi : i < 4) (hS : S < 2 ^ n) (hy : y < 36) (hW : okW W) (day : Int32) (hla : day + vO f c 2 day = la) : ∀ d s g, s + d = n → g 50 0 = nI n → g 70 i = nI S → g 71 i = nI y → OV f c g → MT (rnW W (S &&& (2 ^ s - 1)) (nI y)) (rnV W U (S &&& (2 ^ s - 1)) (nI y) la) g → ∃ g', am_run 166 76 [.ref 50, .int day, .null, .int (nI i), .int (nI s)] [] g = am_run 166 65 [.ref 50, .int day, .null, .int (nI (i + 1)), .null] [] g' ∧ FrM g g' ∧ MT (rnW W S (nI y)) (rnV W U S (nI y) la) g' := by
  have h5 := pow9 h9
  intro d
  induction d with
  | zero =>
    intro s g hs h0 h70 h71 hov hc
    have : s = n := by omega
    subst this
    rw [rn_all hS] at hc
    refine ⟨g, ?_, FrM.refl g, hc⟩
    rw [eX9_give_76_50, h0, if_neg (nI_nlt (Nat.le_refl _) (by omega)), nI_1]
  | succ d ih =>
    intro s g hs h0 h70 h71 hov hc
    rw [eX9_give_76_50, h0, if_pos (nI_lt (by omega) (by omega)), am_ald_in _ _ _ (show i < 9 by omega) (by decide), h70, m_has (by omega) (by omega), am_cal_some, nI_1]
    cases hb : S.testBit s with
    | false =>
      rw [bi_f, if_pos rfl]
      exact ih (s + 1) g (by omega) h0 h70 h71 hov (by rw [rn_skip hb]; exact hc)
    | true =>
      rw [bi_t, if_neg one_ne, am_ald_in _ _ _ (show i < 4 by omega) (by decide), h71]
      obtain ⟨g1, a1, a2, a3, a4, a5⟩ := m_get (o := vO f c 2 day) hov hc (rnW_ok hW hy) (show s < 9 by omega) (nI y) day rfl
      rw [a1, am_cal_some]
      rw [hla] at a3
      have fr : FrM g g1 := ⟨a2, a4, a5⟩
      obtain ⟨g', b1, b2, b3⟩ := ih (s + 1) g1 (by omega) (by rw [a2 50 (by decide) (by decide)]; exact h0) (by rw [a2 70 (by decide) (by decide)]; exact h70) (by rw [a2 71 (by decide) (by decide)]; exact h71) (hov.fr fr) (a3.congr (fun x _ => (rnW_step W S s (nI y) hb (low_bits S s) x).symm) (fun x v _ _ => (rnV_step W U S s (nI y) la hb x v).symm))
      exact ⟨g', b1, fr.trans b2, b3⟩
theorem m_gvL {k : Nat} (h9 : n ≤ 9) (hk4 : k ≤ 4) (hsh : ∀ i, i < k → sh i < 2 ^ n) (hwo : ∀ i, i < k → wo i < 36) (hW : okW W) (day : Int32) (hla : day + vO f c 2 day = la) : ∀ d i g, i + d = k → g 50 0 = nI n → g 50 25 = nI k → (∀ j, j < k → g 70 j = nI (sh j)) → (∀ j, j < k → g 71 j = nI (wo j)) → OV f c g → MT (gvS sh wo la W U i).1 (gvS sh wo la W U i).2 g → ∃ g1 g', am_run 166 65 [.ref 50, .int day, .null, .int (nI i), .null] [] g = some (nI k, g') ∧ FrM g g1 ∧ MT (gvS sh wo la W U k).1 (gvS sh wo la W U k).2 g1 ∧ g' = am_up g1 62 0 day := by
  intro d
  induction d with
  | zero =>
    intro i g hi h0 h25 h70 h71 hov hc
    have : i = k := by omega
    subst this
    refine ⟨g, _, ?_, FrM.refl g, hc, rfl⟩
    have z62 : ∀ (x : Int32) (c : Hp → Option Rs), am_ast g 62 3 0 x c = c (am_up g 62 0 x) := fun x c => am_ast_in (j := 0) _ _ _ c (by decide) (by decide)
    rw [eX9_give_65_50, h25, if_neg (nI_nlt (Nat.le_refl _) (by omega)), z62, am_up_ne (by decide), h25]
  | succ d ih =>
    intro i g hi h0 h25 h70 h71 hov hc
    obtain ⟨g1, a1, a2, a3⟩ := m_gvIn (f := f) (c := c) (i := i) (S := sh i) (y := wo i) h9 (by omega) (hsh i (by omega)) (hwo i (by omega)) (gvS_ok (sh := sh) (la := la) (U := U) hW hwo i (by omega)) day hla n 0 g (by omega) h0 (h70 i (by omega)) (h71 i (by omega)) hov (hc.congr (fun s _ => (rn_none _ (gvS sh wo la W U i).2 (sh i) (nI (wo i)) 0).1 s) (fun s x _ _ => (rn_none _ (gvS sh wo la W U i).2 (sh i) (nI (wo i)) la).2 s x))
    have a1 : am_run 166 76 [.ref 50, .int day, .null, .int (nI i), .int 0] [] g = _ := a1
    obtain ⟨g2, g', b1, b2, b3, b4⟩ := ih (i + 1) g1 (by omega) (by rw [a2.1 50 (by decide) (by decide)]; exact h0) (by rw [a2.1 50 (by decide) (by decide)]; exact h25) (by rw [a2.1 70 (by decide) (by decide)]; exact h70) (by rw [a2.1 71 (by decide) (by decide)]; exact h71) (hov.fr a2) a3
    refine ⟨g2, g', ?_, a2.trans b2, b3, b4⟩
    rw [eX9_give_65_50, h25, if_pos (nI_lt (by omega) (by omega)), a1, b1]
end
end Give
