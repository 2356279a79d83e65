/-- a word may stand -/
def stW (l x y : Nat → Int32) (c w : Nat) : Bool := allB (fun k => !barN (nI (w / 6)) (nI (w % 6)) l x y k) c
def wd (l d : Nat) : Nat := 6 * (d / l) + d % l
def loW (l w : Nat) : Bool := decide (w / 6 < l) && decide (w % 6 < l)
/-- how many words of the lowest letters may stand below w -/
def cw (l : Nat) (A : Nat → Bool) : Nat → Nat
  | 0 => 0
  | w + 1 => cw l A w + if loW l w && A w then 1 else 0
theorem cw_le (l : Nat) (A : Nat → Bool) : ∀ w, cw l A w ≤ cw l (fun _ => true) w
  | 0 => Nat.le_refl 0
  | w + 1 => by
    have := cw_le l A w
    rw [cw, cw]
    cases loW l w <;> cases A w <;> simp <;> omega
theorem cw16F : ∀ l : Fin 5, ∀ w : Fin 36, loW l.val w.val = true → cw l.val (fun _ => true) w.val < 16 := by decide +kernel
theorem cw36F : ∀ l : Fin 5, ∀ w : Fin 37, cw l.val (fun _ => true) w.val ≤ 16 := by decide +kernel
theorem cw16 {l w : Nat} {A : Nat → Bool} (hl : l ≤ 4) (hw : w < 36) (h : loW l w = true) : cw l A w < 16 := Nat.lt_of_le_of_lt (cw_le l A w) (cw16F ⟨l, by omega⟩ ⟨w, hw⟩ h)
theorem cw36 {l w : Nat} {A : Nat → Bool} (hl : l ≤ 4) (hw : w ≤ 36) : cw l A w ≤ 16 := Nat.le_trans (cw_le l A w) (cw36F ⟨l, by omega⟩ ⟨w, by omega⟩)
theorem wdF : ∀ l : Fin 5, ∀ d : Fin 16, 2 ≤ l.val → d.val < l.val * l.val → wd l.val d.val < 36 ∧ loW l.val (wd l.val d.val) = true := by decide +kernel
theorem wd_ok {l d : Nat} (h2 : 2 ≤ l) (hl : l ≤ 4) (hd : d < l * l) : wd l d < 36 ∧ loW l (wd l d) = true := by
  have : l * l ≤ 4 * 4 := Nat.mul_le_mul hl hl
  exact wdF ⟨l, by omega⟩ ⟨d, by omega⟩ h2 hd
theorem wd_injF : ∀ l : Fin 5, ∀ d e : Fin 16, 2 ≤ l.val → d.val < l.val * l.val → e.val < l.val * l.val → wd l.val d.val = wd l.val e.val → d.val = e.val := by decide +kernel
theorem wd_inj {l d e : Nat} (h2 : 2 ≤ l) (hl : l ≤ 4) (hd : d < l * l) (he : e < l * l) : wd l d = wd l e ↔ d = e := by
  have : l * l ≤ 4 * 4 := Nat.mul_le_mul hl hl
  exact ⟨fun h => wd_injF ⟨l, by omega⟩ ⟨d, by omega⟩ ⟨e, by omega⟩ h2 hd he h, fun h => by rw [h]⟩
theorem cwI_F : ∀ l : Fin 5, ∀ w : Fin 36, 2 ≤ l.val → loW l.val w.val = true → wd l.val (cw l.val (fun _ => true) w.val) = w.val := by decide +kernel
theorem cwJ_F : ∀ l : Fin 5, ∀ d : Fin 16, 2 ≤ l.val → d.val < l.val * l.val → cw l.val (fun _ => true) (wd l.val d.val) = d.val := by decide +kernel
theorem cwK_F : ∀ l : Fin 5, 2 ≤ l.val → cw l.val (fun _ => true) 36 = l.val * l.val := by decide +kernel
theorem cw_cx {l : Nat} (A : Nat → Bool) (h2 : 2 ≤ l) (hl : l ≤ 4) : ∀ w, w ≤ 36 → cw l A w = cx (fun d => A (wd l d)) (cw l (fun _ => true) w)
  | 0, _ => rfl
  | w + 1, hw => by
    have hi := cw_cx A h2 hl w (by omega)
    rw [cw, hi]
    cases hlo : loW l w
    · rw [cw, hlo]
      rfl
    · have he := cwI_F ⟨l, by omega⟩ ⟨w, by omega⟩ h2 hlo
      have he : wd l (cw l (fun _ => true) w) = w := he
      have e1 : cw l (fun _ => true) (w + 1) = cw l (fun _ => true) w + 1 := by rw [cw, hlo]; rfl
      rw [e1, cx, he, Bool.true_and]
theorem cw_cxA {l d : Nat} (A : Nat → Bool) (h2 : 2 ≤ l) (hl : l ≤ 4) (hd : d < l * l) : cw l A (wd l d) = cx (fun d => A (wd l d)) d := by
  have hb : l * l ≤ 4 * 4 := Nat.mul_le_mul hl hl
  have e : cw l (fun _ => true) (wd l d) = d := cwJ_F ⟨l, by omega⟩ ⟨d, by omega⟩ h2 hd
  have := cw_cx A h2 hl (wd l d) (by have := (wd_ok h2 hl hd).1; omega)
  rwa [e] at this
theorem cw_all {l : Nat} (A : Nat → Bool) (h2 : 2 ≤ l) (hl : l ≤ 4) : cw l A 36 = cx (fun d => A (wd l d)) (l * l) := by
  have e : cw l (fun _ => true) 36 = l * l := cwK_F ⟨l, by omega⟩ h2
  have := cw_cx A h2 hl 36 (by omega)
  rwa [e] at this
theorem dv6 (r : Option Rs) : am_dv 6 r = r := by unfold am_dv; rw [if_neg (by decide)]
section Gather
variable {f : Hp} {c : Nat}
theorem c_gather {l : Nat} (hl : l ≤ 4) (hc : f 16 3 = nI c) (h40 : c ≤ 40) (hn : ∀ k, k < c → f 17 k = 110 → ∃ x y, x < 6 ∧ y < 6 ∧ f 18 k = nI x ∧ f 19 k = nI y) : ∃ g, am_call 57 [.ref 27, .int (nI l)] f = some (0, g) ∧ (∀ q, q ≠ 27 → q ≠ 28 → g q = f q) ∧ (∀ j, j ≠ 9 → g 27 j = f 27 j) ∧ g 27 9 = nI (cw l (stW (f 17) (f 18) (f 19) c) 36) ∧ ∀ w, w < 36 → loW l w = true → stW (f 17) (f 18) (f 19) c w = true → g 28 (cw l (stW (f 17) (f 18) (f 19) c) w) = nI w := by
  generalize hA : stW (f 17) (f 18) (f 19) c = A
  have key : ∀ d w g, w + d = 36 → (∀ q, q ≠ 27 → q ≠ 28 → g q = f q) → (∀ j, j ≠ 9 → g 27 j = f 27 j) → g 27 9 = nI (cw l A w) → (∀ v, v < w → loW l v = true → A v = true → g 28 (cw l A v) = nI v) → ∃ g', am_run 57 7 [.ref 27, .int (nI l), .int (nI w), .null] [] g = some (0, g') ∧ (∀ q, q ≠ 27 → q ≠ 28 → g' q = f q) ∧ (∀ j, j ≠ 9 → g' 27 j = f 27 j) ∧ g' 27 9 = nI (cw l A 36) ∧ ∀ w, w < 36 → loW l w = true → A w = true → g' 28 (cw l A w) = nI w := by
    intro d
    induction d with
    | zero =>
      intro w g hw h1 h2 h3 h4
      have : w = 36 := by omega
      subst this
      refine ⟨g, ?_, h1, h2, h3, h4⟩
      rw [eX7_gatherCandidates_7_27, if_neg (by decide)]
    | succ d ih =>
      intro w g hw h1 h2 h3 h4
      have hskip : (loW l w && A w) = false → ∃ g', am_run 57 7 [.ref 27, .int (nI l), .int (nI (w + 1)), .null] [] g = some (0, g') ∧ (∀ q, q ≠ 27 → q ≠ 28 → g' q = f q) ∧ (∀ j, j ≠ 9 → g' 27 j = f 27 j) ∧ g' 27 9 = nI (cw l A 36) ∧ ∀ w, w < 36 → loW l w = true → A w = true → g' 28 (cw l A w) = nI w := by
        intro hf
        refine ih (w + 1) g (by omega) h1 h2 ?_ (fun v hv hlo hav => ?_)
        · rw [h3, cw, hf]; rfl
        · by_cases e : v = w
          · subst e; rw [hlo, hav] at hf; cases hf
          · exact h4 v (by omega) hlo hav
      have hal : am_call 10 [.ref 16, .int (nI w)] g = some (bi (A w), g) := by
        have := c_allowsWord (f := g) (c := c) (w := w) (by rw [h1 16 (by decide) (by decide)]; exact hc) h40 (by omega) (by rw [h1 17 (by decide) (by decide), h1 18 (by decide) (by decide), h1 19 (by decide) (by decide)]; exact hn)
        rw [h1 17 (by decide) (by decide), h1 18 (by decide) (by decide), h1 19 (by decide) (by decide)] at this
        rw [this, ← hA]
        rfl
      have h34 : ∀ s : Bool, loW l w = s → ∃ g', am_run 57 34 [.ref 27, .int (nI l), .int (nI w), .null] [.int (bi s)] g = some (0, g') ∧ (∀ q, q ≠ 27 → q ≠ 28 → g' q = f q) ∧ (∀ j, j ≠ 9 → g' 27 j = f 27 j) ∧ g' 27 9 = nI (cw l A 36) ∧ ∀ w, w < 36 → loW l w = true → A w = true → g' 28 (cw l A w) = nI w := by
        intro s hs
        rw [eX7_gatherCandidates_34_27_s1, hal, am_cal_some, nI_1]
        simp only [bi_eq0]
        cases s
        · rw [if_pos rfl]
          exact hskip (by rw [hs]; rfl)
        · rw [if_neg (by decide)]
          cases hAw : A w
          · rw [if_pos rfl]
            exact hskip (by rw [hAw, Bool.and_false])
          · have h16 := cw16 (A := A) hl (show w < 36 by omega) hs
            rw [if_neg (by decide), h3, if_pos (show nI (cw l A w) < Int32.ofNat 16 from nI_lt (b := 16) h16 (by decide)), am_ast_in _ _ _ _ h16 (by decide)]
            refine ih (w + 1) _ (by omega) (fun q a b => ?_) (fun j hj => ?_) ?_ (fun v hv hlo hav => ?_)
            · rw [am_up_ne a, am_up_ne b, h1 q a b]
            · rw [am_up_j hj, am_up_ne (by decide), h2 j hj]
            · rw [am_up_same, am_up_ne (by decide), h3, nI_1, cw, hs, hAw]; rfl
            · rw [am_up_ne (by decide)]
              by_cases e : v = w
              · subst e; exact am_up_same _ _ _ _
              · have hlt : cw l A v < cw l A w := by
                  have hm : ∀ a b, a ≤ b → cw l A a ≤ cw l A b := by
                    intro a b hab
                    induction b with
                    | zero =>
                      have : a = 0 := by omega
                      subst this
                      exact Nat.le_refl _
                    | succ b ihb =>
                      by_cases e : a = b + 1
                      · subst e; exact Nat.le_refl _
                      · have := ihb (by omega)
                        rw [cw]
                        omega
                  have := hm (v + 1) w (by omega)
                  rw [cw, hlo, hav] at this
                  simp only [Bool.and_true, if_true] at this
                  omega
                rw [am_up_j (by omega)]
                exact h4 v (by omega) hlo hav
      rw [eX7_gatherCandidates_7_27, if_pos (show nI w < (36 : Int32) from nI_lt (b := 36) (by omega) (by decide)), mod6 (by omega), div6 (by omega)]
      simp only [dv6]
      by_cases a1 : w / 6 < l
      · rw [if_pos (nI_lt a1 (by omega))]
        by_cases a2 : w % 6 < l
        · rw [if_pos (nI_lt a2 (by omega))]
          exact h34 true (by unfold loW; simp [a1, a2])
        · rw [if_neg (nI_nlt (by omega) (by omega))]
          exact h34 false (by unfold loW; simp [a2])
      · rw [if_neg (nI_nlt (by omega) (by omega))]
        exact h34 false (by unfold loW; simp [a1])
  rw [eX7_gatherCandidates_27]
  exact key 36 0 (am_up f 27 9 0) (by omega) (fun q a _ => am_up_ne a) (fun j hj => am_up_j hj) (am_up_same _ _ _ _) (fun v hv => absurd hv (Nat.not_lt_zero _))
end Gather
