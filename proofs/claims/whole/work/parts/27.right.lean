/-- the heap behind walkAll -/
noncomputable def wa (f : Hp) : Hp := match am_call 35 [.ref 2] f with
  | some r => r.2
  | none => f
/-- what the class's walks rest on -/
def CS (n : Nat) (lk ln : Nat → Nat) (c : Nat) (f : Hp) : Prop := f 2 7 = nI n ∧ n ≤ 9 ∧ (∀ i, f 7 i = nI (lk i)) ∧ (∀ i, lk i ≤ 500) ∧ (∀ i, f 5 i = nI (ln i)) ∧ (∀ i, ln i ≤ 500) ∧ f 16 3 = nI c ∧ c ≤ 40
/-- the walks are found, or are to be found -/
def WC (n : Nat) (lk ln : Nat → Nat) (f : Hp) : Prop := f 2 8 = 0 ∨ W1 lk ln n f
def MS (n : Nat) (lk ln : Nat → Nat) (c : Nat) (f : Hp) : Prop := f 50 0 = nI n ∧ n ≤ 9 ∧ (∀ i, f 55 i = nI (lk i)) ∧ (∀ i, lk i ≤ 500) ∧ (∀ i, f 53 i = nI (ln i)) ∧ (∀ i, ln i ≤ 500) ∧ f 57 1 = nI c ∧ c ≤ 40
section Right
variable {f : Hp} {n c : Nat} {lk ln : Nat → Nat}
theorem wa_ok (h : CS n lk ln c f) (hw : WC n lk ln f) : am_call 35 [.ref 2] f = some (0, wa f) ∧ W1 lk ln n (wa f) ∧ (∀ q, q ≠ 2 → q ≠ 8 → q ≠ 9 → wa f q = f q) ∧ ∀ j, j ≠ 8 → wa f 2 j = f 2 j := by
  obtain ⟨hn, h9, hlk, hlb, hln, hnb, -, -⟩ := h
  rcases hw with hw | hw
  · obtain ⟨A, B, e1, e2⟩ := c_walkAll0 hn h9 hlk hlb hln hnb hw
    have e : wa f = am_up (wH f A B) 2 8 1 := by
      unfold wa
      rw [e1]
    rw [e]
    refine ⟨e1, e2, fun q h2 h8 h9 => ?_, fun j hj => ?_⟩
    · rw [am_up_ne h2, wH_ne h9 h8]
    · rw [am_up_j hj, wH_ne (by decide) (by decide)]
  · have e1 := c_walkAll1 hw.1
    have e : wa f = f := by
      unfold wa
      rw [e1]
    rw [e]
    exact ⟨e1, hw, fun _ _ _ _ => rfl, fun _ _ => rfl⟩
theorem wa_id (hw : W1 lk ln n f) : wa f = f := by
  unfold wa
  rw [c_walkAll1 hw.1]
theorem wa_CS (h : CS n lk ln c f) (hw : WC n lk ln f) : CS n lk ln c (wa f) := by
  obtain ⟨-, -, e3, e4⟩ := wa_ok h hw
  obtain ⟨hn, h9, hlk, hlb, hln, hnb, hc, h40⟩ := h
  refine ⟨by rw [e4 7 (by decide)]; exact hn, h9, ?_, hlb, ?_, hnb, by rw [e3 16 (by decide) (by decide) (by decide)]; exact hc, h40⟩
  · rw [e3 7 (by decide) (by decide) (by decide)]; exact hlk
  · rw [e3 5 (by decide) (by decide) (by decide)]; exact hln
theorem c_leastWalk (h : CS n lk ln c f) (hw : WC n lk ln f) {S : Nat} (h1 : 1 ≤ S) (hS : S < 2 ^ n) : am_call 34 [.ref 2, .int (nI S)] f = some (encW 0 (WS lk ln n S), wa f) := by
  have h5 := pow9 h.2.1
  obtain ⟨e1, e2, e3, e4⟩ := wa_ok h hw
  have hwi : wi (nI S) 1 (nI (2 ^ n - 1)) = true := by
    unfold wi
    have a1 : (1 : Int32) ≤ nI S := nI_le (a := 1) h1 (by omega)
    have a2 : nI S ≤ nI (2 ^ n - 1) := nI_le (by omega) (by omega)
    simp [a1, a2]
  rw [eX4_leastWalk_2, eX4_allSides_2, h.1, all_eq h.2.1, am_cal_some, c_within', am_cal_some, hwi, if_neg (by decide), e1, am_cal_some, am_ald_in _ _ _ (by omega) (by decide), e2.2.2 S h1 hS]
theorem WS_lt {S : Nat} (h9 : n ≤ 9) (hlb : ∀ i, lk i ≤ 500) (hnb : ∀ i, ln i ≤ 500) (hS : S < 512) : ∀ x, WS lk ln n S = some x → x + 500 ≤ 1000 * cnt S n := by
  intro x hx
  rw [WS_eq] at hx
  cases ho : minO (wM lk n S) n with
  | none => rw [ho] at hx; cases hx
  | some z =>
    rw [ho] at hx
    have h1 : z + nsum ln S n = x := Option.some.inj hx
    have h2 : z < 500 * cnt S n - 500 + 1 ∧ 1 ≤ cnt S n := by
      have hc : ∀ k, k < n → ∀ y, wM lk n S k = some y → y + 500 ≤ 500 * cnt S n := fun k hk y hy => by
        rw [wM_eq h9 hS hk] at hy
        exact WK_le h9 hlb S hS k hk y hy
      have hcz : z < 500 * cnt S n - 500 + 1 := minO_lt (fun k hk y hy => by have := hc k hk y hy; omega) z ho
      refine ⟨hcz, ?_⟩
      rcases Nat.eq_zero_or_pos (cnt S n) with h0 | h0
      · exfalso
        have : ∀ m, m ≤ n → minO (wM lk n S) m = none := by
          intro m
          induction m with
          | zero => intro _; rfl
          | succ m ih =>
            intro hm
            rw [minO, ih (by omega)]
            cases hq : wM lk n S m with
            | none => rfl
            | some y =>
              have := hc m (by omega) y hq
              rw [h0] at this
              omega
        rw [this n (Nat.le_refl n)] at ho
        cases ho
      · exact h0
    have h3 : nsum ln S n ≤ 500 * cnt S n := by
      have : ∀ m, nsum ln S m ≤ 500 * nsum (fun _ => 1) S m := by
        intro m
        induction m with
        | zero => simp [nsum]
        | succ m ih =>
          rw [nsum, nsum]
          have := hnb m
          split <;> omega
      exact this n
    omega
theorem WS_lt2 {S : Nat} (h9 : n ≤ 9) (hlb : ∀ i, lk i ≤ 500) (hnb : ∀ i, ln i ≤ 500) (hS : S < 512) : ∀ x, WS lk ln n S = some x → x < 9000 := by
  intro x hx
  have h1 := WS_lt h9 hlb hnb hS x hx
  have h2 := cnt_le S n
  omega
/-- right on a day: what both say -/
def rtB (a b l x y : Nat → Int32) (n c : Nat) (day : Int32) (W : Option Nat) (S : Nat) : Bool := W.isSome && (!decide (valO 0 x (lastIx (pIt 109 day l y) c) < dSum a b n S (day + 365 * valO 1 x (lastIx (pIt 121 day l y) c))) && allB (okS (nI S) l x y) c)
theorem letC0 : letC 0 = 109 := by decide
theorem letC1 : letC 1 = 121 := by decide
theorem letC2 : letC 2 = 111 := by decide
/-- right by a day looked at and a most: what fits says -/
def rtG (a b l x y : Nat → Int32) (n c : Nat) (later most : Int32) (W : Option Nat) (S : Nat) : Bool := W.isSome && (!decide (most < dSum a b n S later) && allB (okS (nI S) l x y) c)
/-- the day looked at, and m, of a day -/
def ltD (l x y : Nat → Int32) (c : Nat) (day : Int32) : Int32 := day + 365 * valO 1 x (lastIx (pIt 121 day l y) c)
def moD (l x y : Nat → Int32) (c : Nat) (day : Int32) : Int32 := valO 0 x (lastIx (pIt 109 day l y) c)
theorem rtB_rtG (a b l x y : Nat → Int32) (n c : Nat) (day : Int32) (W : Option Nat) (S : Nat) : rtB a b l x y n c day W S = rtG a b l x y n c (ltD l x y c day) (moD l x y c day) W S := rfl
theorem c_dayLooked {f : Hp} {c : Nat} (hc : f 16 3 = nI c) (h40 : c ≤ 40) (day : Int32) : am_call 188 [.ref 22, .int day] f = some (ltD (f 17) (f 18) (f 19) c day, f) := by
  rw [eX3_dayLookedAt_22, c_valueOn hc h40, am_cal_some, letC1]
  rfl
theorem c_most {f : Hp} {c : Nat} (hc : f 16 3 = nI c) (h40 : c ≤ 40) (day : Int32) : am_call 7 [.ref 16, .int 0, .int day] f = some (moD (f 17) (f 18) (f 19) c day, f) := by
  rw [c_valueOn hc h40, letC0]
  rfl
theorem c_fits (h : CS n lk ln c f) (hw : WC n lk ln f) {S : Nat} (h1 : 1 ≤ S) (hS : S < 2 ^ n) (later most : Int32) : am_call 189 [.ref 22, .int (nI S), .int later, .int most] f = some (bi (rtG (f 3) (f 4) (f 17) (f 18) (f 19) n c later most (WS lk ln n S) S), wa f) := by
  have h5 := pow9 h.2.1
  have hcs := wa_CS h hw
  obtain ⟨e1, e2, e3, e4⟩ := wa_ok h hw
  rw [eX3_fits_22, c_leastWalk h hw h1 hS, am_cal_some, c_doorsOf hcs.1 h.2.1 (by omega), am_cal_some, c_allowsShape hcs.2.2.2.2.2.2.1 h.2.2.2.2.2.2.2, am_cal_some]
  rw [e3 3 (by decide) (by decide) (by decide), e3 4 (by decide) (by decide) (by decide), e3 17 (by decide) (by decide) (by decide), e3 18 (by decide) (by decide) (by decide), e3 19 (by decide) (by decide) (by decide)]
  unfold rtG
  cases hws : WS lk ln n S with
  | none =>
    rw [encW_none, if_neg (by decide), am_z0]
    rfl
  | some x =>
    have hx := WS_lt2 h.2.1 h.2.2.2.1 h.2.2.2.2.2.1 (show S < 512 by omega) x hws
    rw [encW_some, if_pos (show nI (x + 0) < (1000000 : Int32) from nI_lt (b := 1000000) (by omega) (by decide))]
    simp only [am_z0, am_z1, bi_eq0]
    generalize allB (okS (nI S) (f 17) (f 18) (f 19)) c = z
    by_cases hlt : most < dSum (f 3) (f 4) n S later
    · rw [if_pos hlt]
      simp [hlt, bi]
    · rw [if_neg hlt]
      cases z <;> simp [hlt, bi]
theorem c_isRight (h : CS n lk ln c f) (hw : WC n lk ln f) {S : Nat} (h1 : 1 ≤ S) (hS : S < 2 ^ n) (day : Int32) : am_call 22 [.ref 22, .int (nI S), .int day] f = some (bi (rtB (f 3) (f 4) (f 17) (f 18) (f 19) n c day (WS lk ln n S) S), wa f) := by
  rw [eX3_isRight_22, c_dayLooked h.2.2.2.2.2.2.1 h.2.2.2.2.2.2.2, am_cal_some, c_most h.2.2.2.2.2.2.1 h.2.2.2.2.2.2.2, am_cal_some, c_fits h hw h1 hS, am_cal_some, am_z_bi, rtB_rtG]
theorem m_isRight (h : MS n lk ln c f) (hT : TOK lk n (f 65) (2 ^ n)) {S : Nat} (h1 : 1 ≤ S) (hS : S < 2 ^ n) (day : Int32) : am_call 147 [.ref 50, .int (nI S), .int day] f = some (bi (rtB (f 51) (f 52) (fun k => f 58 (150 + 3 * k)) (fun k => f 58 (151 + 3 * k)) (fun k => f 58 (152 + 3 * k)) n c day (WS lk ln n S) S), f) := by
  obtain ⟨hn, h9, hlk, hlb, hln, hnb, hc, h40⟩ := h
  have h5 := pow9 h9
  rw [eX9_isRight_50, m_walkOf hn h9 hlb hln hnb hT h1 hS, am_cal_some, m_ruleOf hc h40, am_cal_some, m_doorsIn hn h9 (by omega), am_cal_some, m_ruleOf hc h40, am_cal_some, letC0, letC1]
  have e1 := m_okLoop hc h40 (nI S) true
  have e0 := m_okLoop hc h40 (nI S) false
  rw [bi_t] at e1
  rw [bi_f] at e0
  rw [e1, e0]
  unfold rtB
  cases hws : WS lk ln n S with
  | none => rw [enc_none, if_pos rfl]; rfl
  | some x =>
    have hx := WS_lt2 h9 hlb hnb (show S < 512 by omega) x hws
    rw [enc_some, if_neg (enc4_ne (by omega))]
    generalize allB (okS (nI S) (fun k => f 58 (150 + 3 * k)) (fun k => f 58 (151 + 3 * k)) (fun k => f 58 (152 + 3 * k))) c = z
    split
    · rename_i hlt
      simp [hlt]
    · rename_i hlt
      simp [hlt]
end Right
