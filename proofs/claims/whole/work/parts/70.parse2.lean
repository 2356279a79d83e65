section Parse2
variable {X : Nat → Int32} {t : Nat} {g : Hp}
theorem itO_some {p a b e : Nat} (h : itO X t p = some (a, b, e)) : a < 100000 ∧ b < 100000 ∧ p + 5 ≤ e ∧ e ≤ t ∧ iiB (X p) a b = true := by
  unfold itO at h
  split at h
  · rename_i hc
    obtain ⟨⟨h1, h2, h3, -⟩, ⟨h4, h5, h6, -⟩, h7⟩ := hc
    have hh := Option.some.inj h
    obtain ⟨e1, e23⟩ := Prod.mk.inj hh
    obtain ⟨e2, e3⟩ := Prod.mk.inj e23
    subst e1 e2 e3
    have g1 := eT_ge (X := X) (t := t) (p + 1)
    have g2 := eT_ge (X := X) (t := t) (eT X t (p + 1) + 1)
    refine ⟨(vN_lt5 (X := X) (by omega) (fun j a b => eT_fig (t := t) a (by omega))).2 h2, (vN_lt5 (X := X) (by omega) (fun j a b => eT_fig (t := t) a (by omega))).2 h5, by omega, by omega, h7⟩
  · cases h
/-- what the class reads of one item -/
theorem c_readItem (h : TX X t g) {p m : Nat} (hp : p < t) (hm : g 12 3 = nI m) (h40 : m < 40) : am_call 3 [.ref 12, .ref 10, .int (nI p)] g = match itO X t p with
    | none => some (-1, g)
    | some z => some (nI z.2.2, am_up (am_up (am_up (am_up g 13 m (X p)) 14 m (nI z.1)) 15 m (nI z.2.1)) 12 3 (nI (m + 1))) := by
  have ht := h.2.1
  have g1 := eT_ge (X := X) (t := t) (p + 1)
  have g2 := eT_ge (X := X) (t := t) (eT X t (p + 1) + 1)
  have l1 := eT_le (X := X) (t := t) (s := p + 1) (by omega)
  have l2 : eT X t (eT X t (p + 1) + 1) ≤ 201 := by
    by_cases e : eT X t (p + 1) + 1 ≤ t
    · have := eT_le (X := X) e; omega
    · rw [eT_big (by omega)]; omega
  have l3 : eT X t (eT X t (p + 1) + 1) ≤ t ∨ eT X t (eT X t (p + 1) + 1) = eT X t (p + 1) + 1 := by
    by_cases e : eT X t (p + 1) + 1 ≤ t
    · exact Or.inl (eT_le e)
    · exact Or.inr (eT_big (by omega))
  rw [eX0_readItem_12_10, nI_1, c_endF h (by omega), am_cal_some, nI_1, c_endF h (by omega), am_cal_some, c_at h (by omega), if_pos hp, am_cal_some, c_num h g1 (Or.inl l1) (by omega) (fun j a b => eT_fig a b), am_cal_some, c_num h g2 l3 (by omega) (fun j a b => eT_fig a b), am_cal_some, c_at h (by omega), am_cal_some, c_at h (by omega), am_cal_some]
  unfold itO
  generalize hE1 : eT X t (p + 1) = E1 at g1 g2 l1 l2 l3 ⊢
  generalize hE2 : eT X t (E1 + 1) = E2 at g2 l2 l3 ⊢
  by_cases a1 : 1 ≤ E1 - (p + 1) ∧ E1 - (p + 1) ≤ 5
  · have v1 := (vN_lt5 (X := X) (d := E1 - (p + 1)) (s := p + 1) (by omega) (fun j a b => eT_fig (t := t) (s := p + 1) a (by omega))).2 a1.2
    rw [if_pos a1, if_neg (nI_pos (by omega))]
    by_cases a2 : 1 ≤ E2 - (E1 + 1) ∧ E2 - (E1 + 1) ≤ 5
    · have v2 := (vN_lt5 (X := X) (d := E2 - (E1 + 1)) (s := E1 + 1) (by omega) (fun j a b => eT_fig (t := t) (s := E1 + 1) a (by omega))).2 a2.2
      rw [if_pos a2, if_neg (nI_pos (by omega))]
      by_cases a3 : E1 < t ∧ X E1 = 44
      · rw [if_pos (show (if E1 < t then X E1 else -1) = 44 by rw [if_pos a3.1]; exact a3.2)]
        by_cases a4 : E2 < t ∧ X E2 = 59
        · rw [if_pos (show (if E2 < t then X E2 else -1) = 59 by rw [if_pos a4.1]; exact a4.2), c_item _ _ v1 v2, am_cal_some]
          by_cases a5 : iiB (X p) (vN X (E1 - (p + 1)) (p + 1) 0) (vN X (E2 - (E1 + 1)) (E1 + 1) 0) = true
          · rw [a5, bi_t, if_neg one_ne, hm, if_pos (show nI m < (40 : Int32) from nI_lt (b := 40) (by omega) (by decide)), am_ast_in _ _ _ _ h40 (by decide), am_up_ne (show 12 ≠ 13 by decide), hm, am_ast_in _ _ _ _ h40 (by decide), am_up_ne (show 12 ≠ 14 by decide), am_up_ne (show 12 ≠ 13 by decide), hm, am_ast_in _ _ _ _ h40 (by decide), am_up_ne (show 12 ≠ 15 by decide), am_up_ne (show 12 ≠ 14 by decide), am_up_ne (show 12 ≠ 13 by decide), hm, nI_1, nI_1, if_pos ⟨⟨a1.1, a1.2, a3⟩, ⟨a2.1, a2.2, a4⟩, rfl⟩]
          · have a5' : iiB (X p) (vN X (E1 - (p + 1)) (p + 1) 0) (vN X (E2 - (E1 + 1)) (E1 + 1) 0) = false := by simpa using a5
            rw [a5', bi_f, if_pos rfl, if_neg (fun z => by cases z.2.2)]
        · rw [if_neg (show ¬ (if E2 < t then X E2 else -1) = 59 from fun z => by
            by_cases q : E2 < t
            · rw [if_pos q] at z; exact a4 ⟨q, z⟩
            · rw [if_neg q] at z; exact absurd z (by decide)), if_neg (fun z => a4 z.2.1.2.2)]
      · rw [if_neg (show ¬ (if E1 < t then X E1 else -1) = 44 from fun z => by
          by_cases q : E1 < t
          · rw [if_pos q] at z; exact a3 ⟨q, z⟩
          · rw [if_neg q] at z; exact absurd z (by decide)), if_neg (fun z => a3 z.1.2.2)]
    · rw [if_neg a2, if_pos (by decide), if_neg (fun z => a2 ⟨z.2.1.1, z.2.1.2.1⟩)]
  · rw [if_neg a1, if_pos (by decide), if_neg (fun z => a1 ⟨z.1.1, z.1.2.1⟩)]
/-- items, and the first fault -/
def pF (X : Nat → Int32) (t : Nat) : Nat → Nat → List (Int32 × Nat × Nat) × Option Nat
  | 0, _ => ([], none)
  | F + 1, p => if p < t then (match itO X t p with
    | none => ([], some p)
    | some z => ((X p, z.1, z.2.1) :: (pF X t F z.2.2).1, (pF X t F z.2.2).2)) else ([], none)
theorem pF_end {F p : Nat} (h : ¬ p < t) : pF X t F p = ([], none) := by
  cases F with
  | zero => rfl
  | succ F => rw [pF, if_neg h]
theorem pF_none {F p : Nat} (h : p < t) (hi : itO X t p = none) : pF X t (F + 1) p = ([], some p) := by rw [pF, if_pos h, hi]
theorem pF_some {F p : Nat} {z : Nat × Nat × Nat} (h : p < t) (hi : itO X t p = some z) : pF X t (F + 1) p = ((X p, z.1, z.2.1) :: (pF X t F z.2.2).1, (pF X t F z.2.2).2) := by rw [pF, if_pos h, hi]
theorem pF_ok : ∀ F p, t < p + F → p ≤ t → t ≤ 200 → ∀ m, 5 * m ≤ p → m + (pF X t F p).1.length ≤ 40 ∧ (∀ i, i < (pF X t F p).1.length → iiB ((pF X t F p).1.getD i (0, 0, 0)).1 ((pF X t F p).1.getD i (0, 0, 0)).2.1 ((pF X t F p).1.getD i (0, 0, 0)).2.2 = true ∧ ((pF X t F p).1.getD i (0, 0, 0)).2.1 < 100000 ∧ ((pF X t F p).1.getD i (0, 0, 0)).2.2 < 100000) ∧ ∀ q, (pF X t F p).2 = some q → q < t := by
  intro F
  induction F with
  | zero => intro p h1 h2; omega
  | succ F ih =>
    intro p h1 h2 h3 m hm
    by_cases e : p < t
    · cases hi : itO X t p with
      | none =>
        rw [pF_none e hi]
        refine ⟨by simp; omega, fun i hi => absurd hi (Nat.not_lt_zero _), fun q hq => ?_⟩
        have : p = q := Option.some.inj hq
        omega
      | some z =>
        obtain ⟨a, b, en⟩ := z
        obtain ⟨b1, b2, b3, b4, b5⟩ := itO_some hi
        obtain ⟨i1, i2, i3⟩ := ih en (by omega) b4 h3 (m + 1) (by omega)
        rw [pF_some e hi]
        refine ⟨by simp only [List.length_cons]; omega, fun i hi => ?_, i3⟩
        cases i with
        | zero => exact ⟨b5, b1, b2⟩
        | succ i => exact i2 i (by simpa using hi)
    · rw [pF_end e]
      exact ⟨by simp; omega, fun i hi => absurd hi (Nat.not_lt_zero _), fun q hq => by cases hq⟩
theorem c_readL : ∀ F p m g, t < p + F → p ≤ t → 5 * m ≤ p → TX X t g → g 12 3 = nI m → ∃ g', am_run 2 7 [.ref 12, .ref 10, .int (nI p), .null] [] g = some (enc (-1) (pF X t F p).2, g') ∧ (∀ q, q ∉ [12, 13, 14, 15] → g' q = g q) ∧ g' 12 3 = nI (m + (pF X t F p).1.length) ∧ (∀ j, j < m → g' 13 j = g 13 j ∧ g' 14 j = g 14 j ∧ g' 15 j = g 15 j) ∧ ∀ i, i < (pF X t F p).1.length → g' 13 (m + i) = ((pF X t F p).1.getD i (0, 0, 0)).1 ∧ g' 14 (m + i) = nI ((pF X t F p).1.getD i (0, 0, 0)).2.1 ∧ g' 15 (m + i) = nI ((pF X t F p).1.getD i (0, 0, 0)).2.2 := by
  intro F
  induction F with
  | zero => intro p m g h1 h2; omega
  | succ F ih =>
    intro p m g h1 h2 h5 hx hm
    have ht := hx.2.1
    by_cases e : p < t
    · have hr := c_readItem hx e hm (show m < 40 by omega)
      cases hi : itO X t p with
      | none =>
        rw [hi] at hr
        have hr : am_call 3 [.ref 12, .ref 10, .int (nI p)] g = some (-1, g) := hr
        rw [pF_none e hi]
        refine ⟨g, ?_, fun _ _ => rfl, hm, fun _ _ => ⟨rfl, rfl, rfl⟩, fun i hi => absurd hi (Nat.not_lt_zero _)⟩
        rw [eX0_readFrom_7_12_10, hx.1, if_pos (nI_lt e (by omega)), hr, am_cal_some, if_neg (show ¬ nI p < (-1 : Int32) from fun z => nI_pos (n := p) (by omega) (by
          rw [fa_lt] at z ⊢
          have : (-1 : Int32).toInt = -1 := by decide
          have : (0 : Int32).toInt = 0 := rfl
          omega))]
        rfl
      | some z =>
        obtain ⟨a, b, en⟩ := z
        obtain ⟨b1, b2, b3, b4, b5⟩ := itO_some hi
        rw [hi] at hr
        have hr : am_call 3 [.ref 12, .ref 10, .int (nI p)] g = some (nI en, am_up (am_up (am_up (am_up g 13 m (X p)) 14 m (nI a)) 15 m (nI b)) 12 3 (nI (m + 1))) := hr
        have hG : ∀ q, q ∉ [12, 13, 14, 15] → am_up (am_up (am_up (am_up g 13 m (X p)) 14 m (nI a)) 15 m (nI b)) 12 3 (nI (m + 1)) q = g q := fun q hq => by
          simp only [List.mem_cons, List.not_mem_nil, or_false, not_or] at hq
          rw [am_up_ne (by omega), am_up_ne (by omega), am_up_ne (by omega), am_up_ne (by omega)]
        have hx' : TX X t (am_up (am_up (am_up (am_up g 13 m (X p)) 14 m (nI a)) 15 m (nI b)) 12 3 (nI (m + 1))) := by
          unfold TX
          rw [hG 10 (by decide), hG 11 (by decide)]
          exact hx
        obtain ⟨g', i1, i2, i3, i4, i5⟩ := ih en (m + 1) _ (by omega) b4 (by omega) hx' (am_up_same _ _ _ _)
        have k13 : am_up (am_up (am_up (am_up g 13 m (X p)) 14 m (nI a)) 15 m (nI b)) 12 3 (nI (m + 1)) 13 = upd (g 13) m (X p) := by rw [am_up_ne (by decide), am_up_ne (by decide), am_up_ne (by decide), am_up_eq]
        have k14 : am_up (am_up (am_up (am_up g 13 m (X p)) 14 m (nI a)) 15 m (nI b)) 12 3 (nI (m + 1)) 14 = upd (g 14) m (nI a) := by rw [am_up_ne (by decide), am_up_ne (by decide), am_up_eq, am_up_ne (by decide)]
        have k15 : am_up (am_up (am_up (am_up g 13 m (X p)) 14 m (nI a)) 15 m (nI b)) 12 3 (nI (m + 1)) 15 = upd (g 15) m (nI b) := by rw [am_up_ne (by decide), am_up_eq, am_up_ne (by decide), am_up_ne (by decide)]
        rw [pF_some e hi]
        refine ⟨g', ?_, fun q hq => by rw [i2 q hq, hG q hq], by rw [i3]; congr 1; simp only [List.length_cons]; omega, fun j hj => ?_, fun i hi' => ?_⟩
        · rw [eX0_readFrom_7_12_10, hx.1, if_pos (nI_lt e (by omega)), hr, am_cal_some, if_pos (nI_lt (by omega) (by omega)), i1]
        · obtain ⟨j1, j2, j3⟩ := i4 j (by omega)
          rw [j1, j2, j3, k13, k14, k15, upd_ne (by omega), upd_ne (by omega), upd_ne (by omega)]
          exact ⟨rfl, rfl, rfl⟩
        · cases i with
          | zero =>
            obtain ⟨j1, j2, j3⟩ := i4 m (by omega)
            rw [Nat.add_zero, j1, j2, j3, k13, k14, k15, upd_same, upd_same, upd_same]
            exact ⟨rfl, rfl, rfl⟩
          | succ i =>
            have := i5 i (by simpa using hi')
            rw [show m + (i + 1) = m + 1 + i by omega]
            exact this
    · rw [pF_end e]
      refine ⟨g, ?_, fun _ _ => rfl, hm, fun _ _ => ⟨rfl, rfl, rfl⟩, fun i hi => absurd hi (Nat.not_lt_zero _)⟩
      rw [eX0_readFrom_7_12_10, hx.1, if_neg (nI_nlt (by omega) (by omega))]
      rfl
end Parse2
