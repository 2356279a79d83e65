def smN (g : Nat → Nat) : Nat → Nat
  | 0 => 0
  | n + 1 => smN g n + g n
theorem sm_nI (g : Nat → Nat) : ∀ n, sm (fun k => nI (g k)) n = nI (smN g n)
  | 0 => rfl
  | n + 1 => by rw [sm, sm_nI g n, smN, nI_add]
theorem smN_le {g : Nat → Nat} : ∀ {n k : Nat}, k < n → g k ≤ smN g n
  | 0, k, h => by omega
  | n + 1, k, h => by
    rw [smN]
    by_cases e : k = n
    · subst e; omega
    · have := smN_le (g := g) (n := n) (k := k) (by omega)
      omega
def MRD (mr : Nat → Nat) (h : Nat → Int32) : Prop := (∀ i, i < 36 → h i = nI (mr i)) ∧ ∀ a, a < 6 → smN (fun k => mr (6 * a + k)) 6 ≤ 100
def rLN (mr : Nat → Nat) (a b : Nat) : Nat := if a = b then 100 - smN (fun k => mr (6 * a + k)) 6 else mr (6 * a + b)
def rWN (mr : Nat → Nat) (w v : Nat) : Nat := rLN mr (w / 6) (v / 6) * rLN mr (w % 6) (v % 6)
theorem rdL_nI {mr : Nat → Nat} {h : Nat → Int32} (hm : MRD mr h) {a b : Nat} (ha : a < 6) (hb : b < 6) : rdL h a b = nI (rLN mr a b) ∧ rLN mr a b ≤ 100 := by
  have hs := hm.2 a ha
  unfold rdL rLN
  by_cases e : a = b
  · rw [if_pos e, if_pos e]
    refine ⟨?_, by omega⟩
    have : msum h a = nI (smN (fun k => mr (6 * a + k)) 6) := by
      unfold msum
      rw [← sm_nI]
      exact sm_congr fun i hi => hm.1 _ (by omega)
    rw [this]
    exact pk_sub (a := 100) hs
  · rw [if_neg e, if_neg e]
    refine ⟨hm.1 _ (by omega), ?_⟩
    have := smN_le (g := fun k => mr (6 * a + k)) hb
    omega
theorem rdW_nI {mr : Nat → Nat} {h : Nat → Int32} (hm : MRD mr h) {w v : Nat} (hw : w < 36) (hv : v < 36) : rdW h w v = nI (rWN mr w v) ∧ rWN mr w v ≤ 10000 := by
  obtain ⟨a1, a2⟩ := rdL_nI hm (a := w / 6) (b := v / 6) (by omega) (by omega)
  obtain ⟨b1, b2⟩ := rdL_nI hm (a := w % 6) (b := v % 6) (by omega) (by omega)
  unfold rdW rWN
  rw [a1, b1, pk_mul]
  exact ⟨rfl, Nat.mul_le_mul a2 b2⟩
/-- the harm of two words at two places -/
def tmN (lk : Nat → Nat) (n : Nat) (sh : Nat → Nat) (i j : Nat) : Nat := if lnk lk n (sh i) (sh j) then 3 else 1
def hmN (lk : Nat → Nat) (n : Nat) (sh : Nat → Nat) (mr : Nat → Nat) (l : Nat) (i j d e : Nat) : Nat := (rWN mr (wd l d) (wd l e) + rWN mr (wd l e) (wd l d)) * tmN lk n sh i j
theorem tmN_le (lk : Nat → Nat) (n : Nat) (sh : Nat → Nat) (i j : Nat) : tmN lk n sh i j ≤ 3 ∧ 1 ≤ tmN lk n sh i j := by
  unfold tmN
  split <;> omega
theorem idx16 (a b : Nat) : nI a * Int32.ofNat 16 + nI b = nI (a * 16 + b) := by
  show nI a * nI 16 + nI b = _
  rw [pk_mul, nI_add]
theorem idx4 (a b : Nat) : nI a * 4 + nI b = nI (a * 4 + b) := by
  show nI a * nI 4 + nI b = _
  rw [pk_mul, nI_add]
section Compare
variable {f : Hp} {n c cc k : Nat} {lk ln : Nat → Nat} {ca sh mr : Nat → Nat}
theorem c_cmpA (hcc : f 27 9 = nI cc) (h16 : cc ≤ 16) (hca : ∀ a, a < cc → f 28 a = nI (ca a) ∧ ca a < 36) (hmr : MRD mr (f 21)) : ∃ T, am_run 58 2 [.ref 27, .int 0, .null, .null] [] f = am_run 58 87 [.ref 27, .int 0, .null, .null] [] (setC f 29 T) ∧ ∀ a b, a < cc → b < cc → T (a * 16 + b) = nI (rWN mr (ca a) (ca b) + rWN mr (ca b) (ca a)) := by
  have hne : ∀ T q, q ≠ 29 → setC f 29 T q = f q := fun T q hq => setC_ne hq
  have inner : ∀ a, a < cc → ∀ d b T, b + d = cc → (∀ x y, (x < a ∧ y < cc) ∨ (x = a ∧ y < b) → T (x * 16 + y) = nI (rWN mr (ca x) (ca y) + rWN mr (ca y) (ca x))) → ∃ T', am_run 58 12 [.ref 27, .int (nI a), .int (nI b), .null] [] (setC f 29 T) = am_run 58 2 [.ref 27, .int (nI (a + 1)), .null, .null] [] (setC f 29 T') ∧ ∀ x y, x < a + 1 ∧ y < cc → T' (x * 16 + y) = nI (rWN mr (ca x) (ca y) + rWN mr (ca y) (ca x)) := by
    intro a ha d
    induction d with
    | zero =>
      intro b T hb hT
      refine ⟨T, ?_, fun x y h => hT x y (by omega)⟩
      rw [eX7_compareAll_12_27, hne T 27 (by decide), hcc, if_neg (nI_nlt (by omega) (by omega)), nI_1]
    | succ d ih =>
      intro b T hb hT
      obtain ⟨a1, a2⟩ := hca a ha
      obtain ⟨b1, b2⟩ := hca b (by omega)
      have e1 := (rdW_nI hmr a2 b2).1
      have e2 := (rdW_nI hmr b2 a2).1
      rw [eX7_compareAll_12_27, hne T 27 (by decide), hcc, if_pos (nI_lt (by omega) (by omega)), am_ald_in _ _ _ (show a < 16 by omega) (by decide), am_ald_in _ _ _ (show b < 16 by omega) (by decide), hne T 28 (by decide), a1, b1, c_readAs a2 b2, am_cal_some, am_ald_in _ _ _ (show b < 16 by omega) (by decide), am_ald_in _ _ _ (show a < 16 by omega) (by decide), hne T 28 (by decide), a1, b1, c_readAs b2 a2, am_cal_some, hne T 21 (by decide), e1, e2, nI_add, idx16, am_ast_in _ _ _ _ (show a * 16 + b < 256 by omega) (by decide), nI_1, up_setC]
      refine ih (b + 1) _ (by omega) (fun x y h => ?_)
      by_cases e : x * 16 + y = a * 16 + b
      · have hx : x = a ∧ y = b := by omega
        obtain ⟨rfl, rfl⟩ := hx
        rw [upd_same]
      · rw [upd_ne e]
        exact hT x y (by omega)
  have outer : ∀ d a T, a + d = cc → (∀ x y, x < a ∧ y < cc → T (x * 16 + y) = nI (rWN mr (ca x) (ca y) + rWN mr (ca y) (ca x))) → ∃ T', am_run 58 2 [.ref 27, .int (nI a), .null, .null] [] (setC f 29 T) = am_run 58 87 [.ref 27, .int 0, .null, .null] [] (setC f 29 T') ∧ ∀ x y, x < cc ∧ y < cc → T' (x * 16 + y) = nI (rWN mr (ca x) (ca y) + rWN mr (ca y) (ca x)) := by
    intro d
    induction d with
    | zero =>
      intro a T ha hT
      have : a = cc := by omega
      subst this
      refine ⟨T, ?_, hT⟩
      rw [eX7_compareAll_2_27, hne T 27 (by decide), hcc, if_neg (nI_nlt (by omega) (by omega))]
    | succ d ih =>
      intro a T ha hT
      obtain ⟨T1, t1, t2⟩ := inner a (by omega) cc 0 T (by omega) (fun x y h => hT x y (by omega))
      have t1' : am_run 58 12 [.ref 27, .int (nI a), .int 0, .null] [] (setC f 29 T) = _ := t1
      obtain ⟨T2, u1, u2⟩ := ih (a + 1) T1 (by omega) t2
      refine ⟨T2, ?_, u2⟩
      rw [eX7_compareAll_2_27, hne T 27 (by decide), hcc, if_pos (nI_lt (by omega) (by omega)), t1', u1]
  obtain ⟨T, t1, t2⟩ := outer cc 0 (f 29) (by omega) (fun x y h => absurd h.1 (Nat.not_lt_zero _))
  rw [setC_self] at t1
  exact ⟨T, t1, fun a b ha hb => t2 a b ⟨ha, hb⟩⟩
theorem c_cmpB (h : CS n lk ln c f) (hk : f 27 10 = nI k) (h4 : k ≤ 4) (hsh : ∀ a, a < k → f 26 a = nI (sh a) ∧ sh a < 512) : ∃ T, am_run 58 87 [.ref 27, .int 0, .null, .null] [] f = some (0, setC f 30 T) ∧ ∀ a b, a < k → b < k → T (a * 4 + b) = nI (tmN lk n sh a b) := by
  have hne : ∀ T q, q ≠ 30 → setC f 30 T q = f q := fun T q hq => setC_ne hq
  have hcs : ∀ T, CS n lk ln c (setC f 30 T) := by
    intro T
    obtain ⟨a1, a2, a3, a4, a5, a6, a7, a8⟩ := h
    exact ⟨by rw [hne T 2 (by decide)]; exact a1, a2, by rw [hne T 7 (by decide)]; exact a3, a4, by rw [hne T 5 (by decide)]; exact a5, a6, by rw [hne T 16 (by decide)]; exact a7, a8⟩
  have inner : ∀ a, a < k → ∀ d b T, b + d = k → (∀ x y, (x < a ∧ y < k) ∨ (x = a ∧ y < b) → T (x * 4 + y) = nI (tmN lk n sh x y)) → ∃ T', am_run 58 97 [.ref 27, .int (nI a), .int (nI b), .null] [] (setC f 30 T) = am_run 58 87 [.ref 27, .int (nI (a + 1)), .null, .null] [] (setC f 30 T') ∧ ∀ x y, x < a + 1 ∧ y < k → T' (x * 4 + y) = nI (tmN lk n sh x y) := by
    intro a ha d
    induction d with
    | zero =>
      intro b T hb hT
      refine ⟨T, ?_, fun x y h => hT x y (by omega)⟩
      rw [eX7_compareAll_97_27, hne T 27 (by decide), hk, if_neg (nI_nlt (by omega) (by omega)), nI_1]
    | succ d ih =>
      intro b T hb hT
      obtain ⟨a1, a2⟩ := hsh a ha
      obtain ⟨b1, b2⟩ := hsh b (by omega)
      have hput : ∃ T', am_run 58 97 [.ref 27, .int (nI a), .int (nI (b + 1)), .null] [] (setC f 30 (upd T (a * 4 + b) (nI (tmN lk n sh a b)))) = am_run 58 87 [.ref 27, .int (nI (a + 1)), .null, .null] [] (setC f 30 T') ∧ ∀ x y, x < a + 1 ∧ y < k → T' (x * 4 + y) = nI (tmN lk n sh x y) := by
        refine ih (b + 1) _ (by omega) (fun x y h => ?_)
        by_cases e : x * 4 + y = a * 4 + b
        · have hx : x = a ∧ y = b := by omega
          obtain ⟨rfl, rfl⟩ := hx
          rw [upd_same]
        · rw [upd_ne e]
          exact hT x y (by omega)
      rw [eX7_compareAll_97_27, hne T 27 (by decide), hk, if_pos (nI_lt (by omega) (by omega)), am_ald_in _ _ _ (show a < 9 by omega) (by decide), am_ald_in _ _ _ (show b < 9 by omega) (by decide), hne T 26 (by decide), a1, b1, c_areLinked (hcs T) a2 b2, am_cal_some, idx4, am_ast_in _ _ _ _ (show a * 4 + b < 16 by omega) (by decide), am_ast_in _ _ _ _ (show a * 4 + b < 16 by omega) (by decide), nI_1, up_setC, up_setC]
      simp only [bi_eq0]
      unfold tmN at hput
      cases hl : lnk lk n (sh a) (sh b)
      · rw [if_pos rfl]
        rw [hl] at hput
        exact hput
      · rw [if_neg (by decide)]
        rw [hl] at hput
        exact hput
  have outer : ∀ d a T, a + d = k → (∀ x y, x < a ∧ y < k → T (x * 4 + y) = nI (tmN lk n sh x y)) → ∃ T', am_run 58 87 [.ref 27, .int (nI a), .null, .null] [] (setC f 30 T) = some (0, setC f 30 T') ∧ ∀ x y, x < k ∧ y < k → T' (x * 4 + y) = nI (tmN lk n sh x y) := by
    intro d
    induction d with
    | zero =>
      intro a T ha hT
      have : a = k := by omega
      subst this
      refine ⟨T, ?_, hT⟩
      rw [eX7_compareAll_87_27, hne T 27 (by decide), hk, if_neg (nI_nlt (by omega) (by omega))]
    | succ d ih =>
      intro a T ha hT
      obtain ⟨T1, t1, t2⟩ := inner a (by omega) k 0 T (by omega) (fun x y h => hT x y (by omega))
      have t1' : am_run 58 97 [.ref 27, .int (nI a), .int 0, .null] [] (setC f 30 T) = _ := t1
      obtain ⟨T2, u1, u2⟩ := ih (a + 1) T1 (by omega) t2
      refine ⟨T2, ?_, u2⟩
      rw [eX7_compareAll_87_27, hne T 27 (by decide), hk, if_pos (nI_lt (by omega) (by omega)), t1', u1]
  obtain ⟨T, t1, t2⟩ := outer k 0 (f 30) (by omega) (fun x y h => absurd h.1 (Nat.not_lt_zero _))
  rw [setC_self] at t1
  exact ⟨T, t1, fun a b ha hb => t2 a b ⟨ha, hb⟩⟩
end Compare
