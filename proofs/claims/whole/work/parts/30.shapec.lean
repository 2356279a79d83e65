def encK : Option (Nat × Nat) → Int32
  | none => 100000000
  | some z => nI z.1
def encP : Option (Nat × Nat) → Int32
  | none => 0
  | some z => nI z.2
theorem encK_some (z : Nat × Nat) : encK (some z) = nI z.1 := rfl
theorem encK_none : encK none = 100000000 := rfl
section ShapeC
variable {f : Hp} {n c : Nat} {lk ln : Nat → Nat} {R : Nat → Bool} {Wt : Nat → Nat}
theorem c_fpStep (h : CS n lk ln c f) (hW : W1 lk ln n f) {S : Nat} (h1 : 1 ≤ S) (hS : S < 2 ^ n) (hr : ∀ p, 1 ≤ p → p ≤ S → f 23 p = bi (R p)) (hk : ∀ T, T < S → f 24 T = encK (KB R Wt T)) (hRW : ∀ p, 1 ≤ p → p < 2 ^ n → R p = true → WS lk ln n p = some (Wt p)) (hWb : ∀ S, S < 2 ^ n → R S = true → Wt S ≤ 1000 * cnt S n) {x : Nat} (hx : x < 512) {acc : Option (Nat × Nat)} (hacc : ∀ y, acc = some y → y.1 < 20000000) :
    am_run 24 19 [.ref 22, .int (nI S), .int (nI (lowb S)), .int (nI (S ^^^ lowb S)), .int (encK acc), .int (encP acc), .int (nI x), .null, .null, .null] [] f = am_run 24 19 [.ref 22, .int (nI S), .int (nI (lowb S)), .int (nI (S ^^^ lowb S)), .int (encK (dn (gF R Wt (KB R Wt) S) acc ((x &&& (S ^^^ lowb S)) ||| lowb S))), .int (encP (dn (gF R Wt (KB R Wt) S) acc ((x &&& (S ^^^ lowb S)) ||| lowb S))), .int (nI (x &&& (S ^^^ lowb S)) + (-1)), .null, .null, .null] [] f ∧ ∀ y, dn (gF R Wt (KB R Wt) S) acc ((x &&& (S ^^^ lowb S)) ||| lowb S) = some y → y.1 < 20000000 := by
  have h5 := pow9 h.2.1
  have hc := cnd_of h1 (show S < 512 by omega) (and_sub x (S ^^^ lowb S))
  generalize hp : (x &&& (S ^^^ lowb S)) ||| lowb S = p at hc ⊢
  have hle := cnd_le hc
  have hlt := cnd_lt hc
  rw [eX3_findPart_19_22, if_neg (nI_pos (by omega)), nx_and, nx_or, hp, nx_xor, am_ald_in _ _ _ (show p < 512 by omega) (by decide), am_ald_in _ _ _ (show S ^^^ p < 512 by omega) (by decide), am_ald_in _ _ _ (show S ^^^ p < 512 by omega) (by decide), hr p hle.2 hle.1, hk _ hlt]
  have hg : gF R Wt (KB R Wt) S p = if R p then (KB R Wt (S ^^^ p)).map (fun z => z.1 + 1000000 + Wt p) else none := by
    unfold gF
    rw [hc]
    rfl
  simp only [bi_eq0]
  unfold dn
  rw [hg]
  cases hR : R p
  · exact ⟨by simp, hacc⟩
  · simp only [if_true, if_false, Bool.true_eq_false]
    cases hK : KB R Wt (S ^^^ p) with
    | none =>
      rw [encK_none, if_neg (by decide)]
      exact ⟨rfl, hacc⟩
    | some z =>
      have hz := KB_lt h.2.1 hWb (S := S ^^^ p) (k := z.1) (p := z.2) (by omega) hK
      have hWp := hWb p (by omega) hR
      have hcn := cnt_le p n
      have hn9 := h.2.1
      rw [encK_some, if_pos (show nI z.1 < (100000000 : Int32) from nI_lt (b := 100000000) (by omega) (by decide)), c_leastWalk1 h.1 h.2.1 hW hle.2 (by omega), am_cal_some, hRW p hle.2 (by omega) hR, encW_some]
      have e : nI z.1 + 1000000 + nI (Wt p + 0) = nI (z.1 + 1000000 + Wt p) := by
        show nI z.1 + nI 1000000 + nI (Wt p + 0) = _
        rw [nI_add, nI_add]
        rfl
      rw [e]
      simp only [Option.map_some]
      cases acc with
      | none =>
        refine ⟨?_, ?_⟩
        · rw [encK_none, if_neg (show ¬ (100000000 : Int32) < nI (z.1 + 1000000 + Wt p) from nI_nlt (a := 100000000) (by omega) (by decide))]
          rfl
        · intro y hy
          have : (z.1 + 1000000 + Wt p, p) = y := Option.some.inj hy
          rw [← this]
          show z.1 + 1000000 + Wt p < 20000000
          omega
      | some y0 =>
        have hy0 := hacc y0 rfl
        rw [encK_some]
        unfold dnS
        by_cases hlt2 : y0.1 < z.1 + 1000000 + Wt p
        · rw [if_pos (nI_lt hlt2 (by omega))]
          simp only [hlt2, if_true]
          exact ⟨by first | rfl | trivial, fun y hy => by cases hy; exact hy0⟩
        · rw [if_neg (nI_nlt (by omega) (by omega))]
          simp only [hlt2, if_false]
          refine ⟨by first | rfl | trivial, fun y hy => ?_⟩
          have : (z.1 + 1000000 + Wt p, p) = y := Option.some.inj hy
          rw [← this]
          show z.1 + 1000000 + Wt p < 20000000
          omega
theorem c_fpLoop (h : CS n lk ln c f) (hW : W1 lk ln n f) {S : Nat} (h1 : 1 ≤ S) (hS : S < 2 ^ n) (hr : ∀ p, 1 ≤ p → p ≤ S → f 23 p = bi (R p)) (hk : ∀ T, T < S → f 24 T = encK (KB R Wt T)) (hRW : ∀ p, 1 ≤ p → p < 2 ^ n → R p = true → WS lk ln n p = some (Wt p)) (hWb : ∀ S, S < 2 ^ n → R S = true → Wt S ≤ 1000 * cnt S n) : ∀ F x acc, (x &&& (S ^^^ lowb S)) < F → x < 512 → (∀ y, acc = some y → y.1 < 20000000) → am_run 24 19 [.ref 22, .int (nI S), .int (nI (lowb S)), .int (nI (S ^^^ lowb S)), .int (encK acc), .int (encP acc), .int (nI x), .null, .null, .null] [] f = am_run 24 19 [.ref 22, .int (nI S), .int (nI (lowb S)), .int (nI (S ^^^ lowb S)), .int (encK (((chain F (x &&& (S ^^^ lowb S)) (S ^^^ lowb S)).map (· ||| lowb S)).foldl (dn (gF R Wt (KB R Wt) S)) acc)), .int (encP (((chain F (x &&& (S ^^^ lowb S)) (S ^^^ lowb S)).map (· ||| lowb S)).foldl (dn (gF R Wt (KB R Wt) S)) acc)), .int (-1), .null, .null, .null] [] f := by
  intro F
  induction F with
  | zero => intro x acc hF; omega
  | succ F ih =>
    intro x acc hF hx hacc
    obtain ⟨e1, e2⟩ := c_fpStep h hW h1 hS hr hk hRW hWb hx hacc
    rw [e1, chain]
    have hmx : x &&& (S ^^^ lowb S) ≤ x := Nat.and_le_left
    generalize x &&& (S ^^^ lowb S) = m at hF e2 hmx ⊢
    by_cases hm : m = 0
    · subst hm
      have e0 : nI 0 + (-1) = -1 := by decide
      rw [e0]
      rfl
    · have hm2 : (m - 1) &&& (S ^^^ lowb S) ≤ m - 1 := Nat.and_le_left
      have em : nI m + (-1) = nI (m - 1) := by
        have := pk_m1 (m - 1)
        rwa [show m - 1 + 1 = m by omega] at this
      have hm512 : m - 1 < 512 := by omega
      rw [em, if_neg hm, List.map_cons, List.foldl_cons]
      exact ih (m - 1) _ (by omega) hm512 e2
theorem low_xor_lt {S : Nat} (h1 : 1 ≤ S) (hS : S < 512) : S ^^^ lowb S < S := by
  have h2 := sub_add S (lowb S) (low_sub hS)
  have h3 := low_ne h1 hS
  omega
theorem c_findPart (h : CS n lk ln c f) (hW : W1 lk ln n f) {S : Nat} (h1 : 1 ≤ S) (hS : S < 2 ^ n) (hr : ∀ p, 1 ≤ p → p ≤ S → f 23 p = bi (R p)) (hk : ∀ T, T < S → f 24 T = encK (KB R Wt T)) (hRW : ∀ p, 1 ≤ p → p < 2 ^ n → R p = true → WS lk ln n p = some (Wt p)) (hWb : ∀ S, S < 2 ^ n → R S = true → Wt S ≤ 1000 * cnt S n) : am_call 24 [.ref 22, .int (nI S)] f = some (0, am_up (am_up f 24 S (encK (KB R Wt S))) 25 S (encP (KB R Wt S))) := by
  have h5 := pow9 h.2.1
  have hlx := low_xor_lt h1 (show S < 512 by omega)
  have hb : (pch S).foldl (dn (gF R Wt (KB R Wt) S)) none = KB R Wt S := by
    rw [KB_eq h1]
    exact best_eq h1 (by omega) gF_cnd (by omega)
  have hl := c_fpLoop h hW h1 hS hr hk hRW hWb 512 (S ^^^ lowb S) none (by rw [Nat.and_self]; omega) (by omega) (fun y hy => by cases hy)
  rw [Nat.and_self] at hl
  have hp : (chain 512 (S ^^^ lowb S) (S ^^^ lowb S)).map (· ||| lowb S) = pch S := rfl
  rw [hp, hb] at hl
  rw [eX3_findPart_22, lowI (by omega), nx_xor]
  have e0 : encK none = 100000000 := rfl
  have e1 : encP none = 0 := rfl
  rw [e0, e1] at hl
  rw [hl, eX3_findPart_19_22, if_pos (by decide), am_ast_in _ _ _ _ (show S < 512 by omega) (by decide), am_ast_in _ _ _ _ (show S < 512 by omega) (by decide)]
/-- the shapes, one behind the other -/
def shL (R : Nat → Bool) (Wt : Nat → Nat) : Nat → Nat → List Nat
  | 0, _ => []
  | F + 1, S => if S = 0 then [] else match KB R Wt S with
    | none => []
    | some z => z.2 :: shL R Wt F (S ^^^ z.2)
/-- what the class's shaper holds of a day: rights, keys, parts below k -/
def RK (R : Nat → Bool) (Wt : Nat → Nat) (k : Nat) (g : Hp) : Prop := (∀ p, 1 ≤ p → p < k → g 23 p = bi (R p)) ∧ (∀ T, T < k → g 24 T = encK (KB R Wt T)) ∧ ∀ T, 1 ≤ T → T < k → g 25 T = encP (KB R Wt T)
theorem bi_and1 (b : Bool) : bi b &&& 1 = bi b := by cases b <;> decide
theorem c_shLoop {f0 : Hp} {day : Int32} (hR : ∀ S, 1 ≤ S → S < 2 ^ n → R S = rtB (f0 3) (f0 4) (f0 17) (f0 18) (f0 19) n c day (WS lk ln n S) S) (hRW : ∀ p, 1 ≤ p → p < 2 ^ n → R p = true → WS lk ln n p = some (Wt p)) (hWb : ∀ S, S < 2 ^ n → R S = true → Wt S ≤ 1000 * cnt S n) : ∀ d S g, S + d = 2 ^ n → 1 ≤ S → CS n lk ln c g → WC n lk ln g → (∀ q, q ∉ [2, 8, 9, 23, 24, 25] → g q = f0 q) → (∀ j, j ≠ 8 → g 2 j = f0 2 j) → RK R Wt S g → ∃ g', am_run 23 37 [.ref 22, .int day, .int (nI (2 ^ n - 1)), .int (ltD (f0 17) (f0 18) (f0 19) c day), .int (moD (f0 17) (f0 18) (f0 19) c day), .int (nI S), .null] [] g = am_run 23 37 [.ref 22, .int day, .int (nI (2 ^ n - 1)), .int (ltD (f0 17) (f0 18) (f0 19) c day), .int (moD (f0 17) (f0 18) (f0 19) c day), .int (nI (2 ^ n)), .null] [] g' ∧ CS n lk ln c g' ∧ WC n lk ln g' ∧ (∀ q, q ∉ [2, 8, 9, 23, 24, 25] → g' q = f0 q) ∧ (∀ j, j ≠ 8 → g' 2 j = f0 2 j) ∧ RK R Wt (2 ^ n) g' := by
  intro d
  induction d with
  | zero =>
    intro S g hS h1 hcs hwc hq hj hrk
    have hS : S = 2 ^ n := by omega
    subst hS
    exact ⟨g, rfl, hcs, hwc, hq, hj, hrk⟩
  | succ d ih =>
    intro S g hS h1 hcs hwc hq hj hrk
    have h5 := pow9 hcs.2.1
    have hwcs := wa_CS hcs hwc
    obtain ⟨w1, w2, w3, w4⟩ := wa_ok hcs hwc
    have hri := c_fits hcs hwc h1 (show S < 2 ^ n by omega) (ltD (f0 17) (f0 18) (f0 19) c day) (moD (f0 17) (f0 18) (f0 19) c day)
    rw [hq 3 (by decide), hq 4 (by decide), hq 17 (by decide), hq 18 (by decide), hq 19 (by decide), ← rtB_rtG, ← hR S h1 (by omega)] at hri
    rw [eX3_shapeOn_37_22, if_neg (nI_nlt (by omega) (by omega)), hri, am_cal_some, am_ast_in _ _ _ _ (show S < 512 by omega) (by decide), bi_and1, nI_1]
    -- the heap with the right of S
    have hu : ∀ q, q ≠ 23 → am_up (wa g) 23 S (bi (R S)) q = wa g q := fun q h => am_up_ne h
    have hcs2 : CS n lk ln c (am_up (wa g) 23 S (bi (R S))) := by
      obtain ⟨a1, a2, a3, a4, a5, a6, a7, a8⟩ := hwcs
      exact ⟨by rw [hu 2 (by decide)]; exact a1, a2, by rw [hu 7 (by decide)]; exact a3, a4, by rw [hu 5 (by decide)]; exact a5, a6, by rw [hu 16 (by decide)]; exact a7, a8⟩
    have hw2 : W1 lk ln n (am_up (wa g) 23 S (bi (R S))) := by
      obtain ⟨a1, a2, a3⟩ := w2
      exact ⟨by rw [hu 2 (by decide)]; exact a1, by rw [hu 9 (by decide)]; exact a2, by rw [hu 8 (by decide)]; exact a3⟩
    have hr2 : ∀ p, 1 ≤ p → p ≤ S → am_up (wa g) 23 S (bi (R S)) 23 p = bi (R p) := by
      intro p hp1 hp2
      by_cases hps : p = S
      · subst hps
        exact am_up_same _ _ _ _
      · rw [am_up_j hps, w3 23 (by decide) (by decide) (by decide)]
        exact hrk.1 p hp1 (by omega)
    have hk2 : ∀ T, T < S → am_up (wa g) 23 S (bi (R S)) 24 T = encK (KB R Wt T) := by
      intro T hT
      rw [hu 24 (by decide), w3 24 (by decide) (by decide) (by decide)]
      exact hrk.2.1 T hT
    rw [c_findPart hcs2 hw2 h1 (by omega) hr2 hk2 hRW hWb, am_cal_some]
    generalize hg5 : am_up (am_up (am_up (wa g) 23 S (bi (R S))) 24 S (encK (KB R Wt S))) 25 S (encP (KB R Wt S)) = g5
    have hne : ∀ q, q ≠ 23 → q ≠ 24 → q ≠ 25 → g5 q = wa g q := by
      intro q q1 q2 q3
      rw [← hg5, am_up_ne q3, am_up_ne q2, am_up_ne q1]
    refine ih (S + 1) g5 (by omega) (by omega) ?_ ?_ ?_ ?_ ?_
    · obtain ⟨a1, a2, a3, a4, a5, a6, a7, a8⟩ := hwcs
      exact ⟨by rw [hne 2 (by decide) (by decide) (by decide)]; exact a1, a2, by rw [hne 7 (by decide) (by decide) (by decide)]; exact a3, a4, by rw [hne 5 (by decide) (by decide) (by decide)]; exact a5, a6, by rw [hne 16 (by decide) (by decide) (by decide)]; exact a7, a8⟩
    · obtain ⟨a1, a2, a3⟩ := w2
      exact Or.inr ⟨by rw [hne 2 (by decide) (by decide) (by decide)]; exact a1, by rw [hne 9 (by decide) (by decide) (by decide)]; exact a2, by rw [hne 8 (by decide) (by decide) (by decide)]; exact a3⟩
    · intro q hqn
      simp only [List.mem_cons, List.not_mem_nil, or_false, not_or] at hqn
      obtain ⟨q1, q2, q3, q4, q5, q6⟩ := hqn
      rw [hne q q4 q5 q6, w3 q q1 q2 q3]
      exact hq q (by simp [q1, q2, q3, q4, q5, q6])
    · intro j hj8
      rw [hne 2 (by decide) (by decide) (by decide), w4 j hj8]
      exact hj j hj8
    · refine ⟨fun p hp1 hp2 => ?_, fun T hT => ?_, fun T hT1 hT => ?_⟩
      · rw [← hg5, am_up_ne (by decide), am_up_ne (by decide)]
        exact hr2 p hp1 (by omega)
      · rw [← hg5, am_up_ne (by decide)]
        by_cases hTS : T = S
        · subst hTS
          exact am_up_same _ _ _ _
        · rw [am_up_j hTS]
          exact hk2 T (by omega)
      · rw [← hg5]
        by_cases hTS : T = S
        · subst hTS
          exact am_up_same _ _ _ _
        · rw [am_up_j hTS, am_up_ne (by decide), am_up_ne (by decide), w3 25 (by decide) (by decide) (by decide)]
          exact hrk.2.2 T hT1 (by omega)
end ShapeC
