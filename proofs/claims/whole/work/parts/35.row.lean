theorem minO_up (g : Nat → Option Nat) : ∀ n, minO g n = (upF g n).map (·.1)
  | 0 => rfl
  | n + 1 => by
    rw [minO, upF, minO_up g n]
    unfold up
    cases g n with
    | none => rw [omin_none]
    | some v =>
      cases upF g n with
      | none => rfl
      | some z =>
        show some (min z.1 v) = Option.map (·.1) (upS (some z) n v)
        unfold upS
        by_cases h : v < z.1
        · simp only [h, if_true]
          show some (min z.1 v) = some v
          rw [Nat.min_eq_right (by omega)]
        · simp only [h, if_false]
          show some (min z.1 v) = some z.1
          rw [Nat.min_eq_left (by omega)]
/-- who may come next, and what all that is left takes then -/
def rG (lk : Nat → Nat) (n L : Nat) : Option Nat → Nat → Option Nat
  | none, v => wM lk n L v
  | some b, v => wG lk n L b v
def rowAt (lk : Nat → Nat) (n : Nat) : Nat → Nat → Option Nat → Int32
  | 0, L, b => match upF (rG lk n L b) n with
    | none => -4
    | some z => nI z.2
  | i + 1, L, b => match upF (rG lk n L b) n with
    | none => -4
    | some z => rowAt lk n i (L ^^^ 2 ^ z.2) (some z.2)
section Row
variable {f : Hp} {n c : Nat} {lk ln : Nat → Nat}
theorem upF_some {g : Nat → Option Nat} {n : Nat} {z : Nat × Nat} (h : upF g n = some z) : z.2 < n ∧ g z.2 = some z.1 ∧ ∀ p v, p < n → g p = some v → z.1 < v ∨ (z.1 = v ∧ z.2 ≤ p) := by
  have := best_upF g n
  rw [h] at this
  exact this
theorem rG_bit {L v x : Nat} {b : Option Nat} (h : rG lk n L b v = some x) : L.testBit v = true := by
  cases hb : L.testBit v with
  | true => rfl
  | false =>
    cases b with
    | none => rw [rG] at h; unfold wM at h; rw [hb] at h; cases h
    | some b => rw [rG] at h; unfold wG at h; rw [hb] at h; cases h
/-- what is left behind the next side -/
theorem rG_next {L : Nat} {b : Option Nat} (h9 : n ≤ 9) (hL : L < 512) {z : Nat × Nat} (h : upF (rG lk n L b) n = some z) : L.testBit z.2 = true ∧ z.2 < n ∧ ∃ x, WK lk n L z.2 = some x ∧ (L ^^^ 2 ^ z.2 ≠ 0 → ∃ y, upF (rG lk n (L ^^^ 2 ^ z.2) (some z.2)) n = some y ∧ y.1 = x) := by
  obtain ⟨h1, h2, -⟩ := upF_some h
  have hb := rG_bit h2
  have hW : ∃ x, WK lk n L z.2 = some x := by
    cases b with
    | none => rw [rG] at h2; unfold wM at h2; rw [hb] at h2; exact ⟨_, h2⟩
    | some b =>
      rw [rG] at h2
      unfold wG at h2
      split at h2
      · cases hw : WK lk n L z.2 with
        | none => rw [hw] at h2; cases h2
        | some x => exact ⟨x, rfl⟩
      · cases h2
  obtain ⟨x, hx⟩ := hW
  refine ⟨hb, h1, x, hx, fun hne => ?_⟩
  have hx2 := hx
  rw [WK_eq h9 hL h1, if_neg (fun e => hne (by rw [e, Nat.xor_self])), if_pos hb] at hx2
  have hx3 : minO (rG lk n (L ^^^ 2 ^ z.2) (some z.2)) n = some x := hx2
  rw [minO_up] at hx3
  cases hu : upF (rG lk n (L ^^^ 2 ^ z.2) (some z.2)) n with
  | none => rw [hu] at hx3; cases hx3
  | some y =>
    rw [hu] at hx3
    exact ⟨y, rfl, Option.some.inj hx3⟩
theorem encW_due {s ns m : Nat} {o : Option Nat} (hs : s ≤ 500) (hns : ns ≤ 4500) (hm : m ≤ 100000) (ho : ∀ x, o = some x → x ≤ 100000) : (nI s + encW ns o = nI (m + ns)) = (o.map (s + ·) = some m) := by
  cases o with
  | none =>
    rw [encW_none]
    have e : nI s + 1000000 = nI (s + 1000000) := nI_add s 1000000
    rw [e, nI_eq (by omega) (by omega)]
    simp only [Option.map_none]
    refine propext ⟨fun h => by omega, fun h => by cases h⟩
  | some x =>
    have := ho x rfl
    rw [encW_some, nI_add, nI_eq (by omega) (by omega)]
    simp only [Option.map_some, Option.some.injEq]
    exact propext ⟨fun h => by omega, fun h => by omega⟩
theorem c_next (h : CS n lk ln c f) (hW : W1 lk ln n f) {L : Nat} (h1 : 1 ≤ L) (hL : L < 2 ^ n) {b : Option Nat} (hb : ∀ x, b = some x → x < 9) {z : Nat × Nat} (hz : upF (rG lk n L b) n = some z) : am_call 38 [.ref 2, .int (nI L), .int (enc (-1) b), .int (nI (z.1 + nsum ln L n))] f = some (nI z.2, f) := by
  obtain ⟨hn, h9, hlk, hlb, hln, hnb, -, -⟩ := h
  have h5 := pow9 h9
  obtain ⟨z1, z2, z3⟩ := upF_some hz
  have hwk : ∀ v, v < n → ∀ x, WK lk n L v = some x → x ≤ 5000 := fun v hv x hx => by
    have e1 := WK_le h9 hlb L (by omega) v hv x hx
    have e2 := cnt_le L n
    omega
  have hzm : z.1 ≤ 6000 := by
    cases b with
    | none =>
      rw [rG] at z2; unfold wM at z2
      split at z2
      · have := hwk _ z1 _ z2; omega
      · cases z2
    | some b =>
      have := wG_lt h9 hlb (show L < 512 by omega) z1 _ z2
      omega
  have hns := nln (n := n) (S := L) h9 hnb
  have key : ∀ d v, v + d = z.2 → am_run 38 3 [.ref 2, .int (nI L), .int (enc (-1) b), .int (nI (z.1 + nsum ln L n)), .int (nI v), .null, .null] [] f = some (nI z.2, f) := by
    have step : ∀ v, v < n → am_run 38 3 [.ref 2, .int (nI L), .int (enc (-1) b), .int (nI (z.1 + nsum ln L n)), .int (nI v), .null, .null] [] f = if rG lk n L b v = some z.1 then some (nI v, f) else am_run 38 3 [.ref 2, .int (nI L), .int (enc (-1) b), .int (nI (z.1 + nsum ln L n)), .int (nI (v + 1)), .null, .null] [] f := by
      intro v hv
      rw [eX4_nextInRow_3_2, hn, if_pos (nI_lt hv (by omega))]
      cases b with
      | none =>
        rw [enc_none, if_pos (by decide), eX4_nextInRow_32_2_s1, c_hasSide (by omega) (by omega), am_cal_some, nI_1]
        simp only [bi_eq0]
        rw [rG]
        unfold wM
        cases hbit : L.testBit v
        · simp
        · rw [if_neg (by decide), if_pos (by decide), if_neg (by decide), idx9, am_ald_in _ _ _ (show L * 9 + v < 4608 by omega) (by decide), hW.2.1 L v h1 hL hv]
          have e := encW_due (s := 0) (ns := nsum ln L n) (m := z.1) (o := WK lk n L v) (by omega) hns (by omega) (fun x hx => by have := hwk v hv x hx; omega)
          have e' : (0 + encW (nsum ln L n) (WK lk n L v) = nI (z.1 + nsum ln L n)) = ((WK lk n L v).map (0 + ·) = some z.1) := e
          simp only [e', Nat.zero_add, if_true]
          cases WK lk n L v <;> rfl
      | some b =>
        have hb9 := hb b rfl
        rw [enc_some, if_neg (nI_pos (by omega)), idx9, am_ald_in _ _ _ (show b * 9 + v < 81 by omega) (by decide), hlk, eX4_nextInRow_32_2_s1, c_hasSide (by omega) (by omega), am_cal_some, nI_1, if_neg (nI_pos (by omega)), Nat.mul_comm b 9]
        simp only [bi_eq0]
        rw [rG]
        unfold wG
        cases hbit : L.testBit v
        · simp
        · have hl5 := hlb (9 * b + v)
          rw [if_neg (by decide)]
          by_cases hl0 : 0 < lk (9 * b + v)
          · rw [if_pos (show (0 : Int32) < nI (lk (9 * b + v)) from nI_lt (a := 0) hl0 (by omega)), if_neg (by decide), idx9, am_ald_in _ _ _ (show L * 9 + v < 4608 by omega) (by decide), hW.2.1 L v h1 hL hv]
            have e := encW_due (s := lk (9 * b + v)) (ns := nsum ln L n) (m := z.1) (o := WK lk n L v) hl5 hns (by omega) (fun x hx => by have := hwk v hv x hx; omega)
            simp only [e, hl0, decide_true, Bool.and_true, if_true]
          · rw [if_neg (show ¬ (0 : Int32) < nI (lk (9 * b + v)) from nI_nlt (b := lk (9 * b + v)) (a := 0) (by omega) (by omega)), if_pos (by decide)]
            simp [hl0]
    intro d
    induction d with
    | zero =>
      intro v hv
      have : v = z.2 := by omega
      subst this
      rw [step _ z1, if_pos z2]
    | succ d ih =>
      intro v hv
      rw [step v (by omega), if_neg ?_, ih (v + 1) (by omega)]
      intro e
      have := z3 v z.1 (by omega) e
      omega
  rw [eX4_nextInRow_2]
  exact key z.2 0 (by omega)
end Row
