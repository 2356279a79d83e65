section Row2
variable {f : Hp} {n c : Nat} {lk ln : Nat → Nat}
theorem c_rowL (h : CS n lk ln c f) (hW : W1 lk ln n f) {p : Nat} (hp : p < 2 ^ 31) : ∀ k L b i z, cnt L n = k → 1 ≤ L → L < 2 ^ n → (∀ x, b = some x → x < 9) → upF (rG lk n L b) n = some z → i + k ≤ n → i ≤ p → am_run 37 24 [.ref 2, .null, .int (nI p), .int (nI (z.1 + nsum ln L n)), .int (nI L), .int (enc (-1) b), .int (nI i), .null] [] f = some (if p - i < cnt L n then rowAt lk n (p - i) L b else -4, f) := by
  have h5 := pow9 h.2.1
  have h9 := h.2.1
  intro k
  induction k with
  | zero =>
    intro L b i z hk h1 hL hb hz hi hip
    obtain ⟨z1, z2, -⟩ := rG_next h9 (by omega) hz
    have := nsum_drop (g := fun _ => 1) z2 z1
    unfold cnt at hk
    omega
  | succ k ih =>
    intro L b i z hk h1 hL hb hz hi hip
    obtain ⟨z1, z2, x, hx, hnx⟩ := rG_next h9 (by omega) hz
    have hcd : cnt (L ^^^ 2 ^ z.2) n + 1 = cnt L n := nsum_drop (g := fun _ => 1) z2 z1
    have hnd := nsum_drop (g := ln) z2 z1
    have hlt := drop_lt (show L < 512 by omega) (show z.2 < 9 by omega) z1
    rw [eX4_sideInRow_24_2, h.1, if_pos (nI_lt (by omega) (by omega)), if_neg (nI_ne0 (by omega) (by omega)), c_next h hW h1 hL hb hz, am_cal_some, if_neg (nI_pos (by omega))]
    by_cases he : i = p
    · subst he
      rw [if_pos rfl, if_neg (nI_pos (by omega)), Nat.sub_self, if_pos (by omega), rowAt, hz]
    · rw [if_neg (fun e => he ((nI_eq (by omega) hp).mp e)), idx9, am_ald_in _ _ _ (show L * 9 + z.2 < 4608 by omega) (by decide), hW.2.1 L z.2 h1 hL z2, hx, encW_some, am_ald_in _ _ _ (show z.2 < 9 by omega) (by decide), h.2.2.2.2.1, pk_sub (by omega), shl_one (by omega), nx_xor, nI_1, show x + nsum ln L n - ln z.2 = x + nsum ln (L ^^^ 2 ^ z.2) n by omega]
      by_cases h0 : L ^^^ 2 ^ z.2 = 0
      · have hc0 : cnt (L ^^^ 2 ^ z.2) n = 0 := by
          rw [h0]
          have : ∀ m, nsum (fun _ => 1) 0 m = 0 := by
            intro m
            induction m with
            | zero => rfl
            | succ m ihm => rw [nsum, ihm]; simp
          exact this n
        rw [if_neg (show ¬ p - i < cnt L n by omega), h0, eX4_sideInRow_24_2, if_pos (show nI 0 = 0 from rfl)]
        split <;> rfl
      · obtain ⟨y, hy, hyx⟩ := hnx h0
        have := ih (L ^^^ 2 ^ z.2) (some z.2) (i + 1) y (by omega) (by omega) (by omega) (fun q hq => by cases hq; omega) hy (by omega) (by omega)
        rw [hyx, enc_some] at this
        rw [this]
        by_cases hc : p - i < cnt L n
        · rw [if_pos hc, if_pos (by omega), show p - i = (p - (i + 1)) + 1 by omega, rowAt, hz]
        · rw [if_neg hc, if_neg (by omega)]
/-- the row's answer -/
def rowV (lk ln : Nat → Nat) (n S p : Nat) : Int32 := match WS lk ln n S with
  | none => -4
  | some _ => if p < cnt S n then rowAt lk n p S none else -4
theorem WS_up {S w : Nat} (h : WS lk ln n S = some w) : ∃ z, upF (rG lk n S none) n = some z ∧ z.1 + nsum ln S n = w := by
  rw [WS_eq] at h
  have e : minO (wM lk n S) n = (upF (rG lk n S none) n).map (·.1) := minO_up _ n
  rw [e] at h
  cases hu : upF (rG lk n S none) n with
  | none => rw [hu] at h; cases h
  | some z =>
    rw [hu] at h
    exact ⟨z, rfl, Option.some.inj h⟩
theorem c_sideInRow (h : CS n lk ln c f) (hw : WC n lk ln f) {S p : Nat} (h1 : 1 ≤ S) (hS : S < 2 ^ n) (hp : p < 2 ^ 31) : am_call 37 [.ref 2, .int (nI S), .int (nI p)] f = some (rowV lk ln n S p, wa f) := by
  have h5 := pow9 h.2.1
  have hcs := wa_CS h hw
  obtain ⟨-, e2, -, -⟩ := wa_ok h hw
  rw [eX4_sideInRow_2, c_leastWalk h hw h1 hS, am_cal_some]
  unfold rowV
  cases hws : WS lk ln n S with
  | none => rw [encW_none, if_neg (by decide)]
  | some w =>
    have hw9 := WS_lt2 h.2.1 h.2.2.2.1 h.2.2.2.2.2.1 (show S < 512 by omega) w hws
    obtain ⟨z, hz, hzw⟩ := WS_up hws
    have hr := c_rowL hcs e2 hp (cnt S n) S none 0 z rfl h1 hS (fun x hx => by cases hx) hz (by have := cnt_le S n; omega) (by omega)
    rw [hzw, enc_none] at hr
    rw [encW_some, if_pos (show nI (w + 0) < (1000000 : Int32) from nI_lt (b := 1000000) (by omega) (by decide))]
    exact hr
theorem bits_F : ∀ S : Fin 512, S.val = 0 ∨ (cnt (S.val &&& (S.val - 1)) 9 + 1 = cnt S.val 9 ∧ (S.val &&& (S.val - 1)) < S.val) := by decide +kernel
theorem cnt9 {S : Nat} (hS : S < 2 ^ n) (h9 : n ≤ 9) : cnt S 9 = cnt S n := by
  have : ∀ d m, m + d = 9 → n ≤ m → cnt S m = cnt S n → cnt S 9 = cnt S n := by
    intro d
    induction d with
    | zero => intro m hm _ he; rw [← he, ← hm]; rfl
    | succ d ih =>
      intro m hm hnm he
      refine ih (m + 1) (by omega) (by omega) ?_
      unfold cnt at he ⊢
      rw [nsum, lt_bit hS hnm, he]
      rfl
  exact this (9 - n) n (by omega) (by omega) rfl
theorem m_bits {S : Nat} (hS : S < 512) : am_call 118 [.int (nI S)] f = some (nI (cnt S 9), f) := by
  have key : ∀ S, S < 512 → ∀ a, am_run 118 4 [.null, .int (nI a), .int (nI S)] [] f = some (nI (a + cnt S 9), f) := by
    intro S
    induction S using Nat.strongRecOn with
    | _ S ih =>
      intro hS a
      rw [eX9_bits_4]
      rcases bits_F ⟨S, hS⟩ with h0 | ⟨h1, h2⟩
      · have h0 : S = 0 := h0
        subst h0
        rw [if_pos (show nI 0 = 0 from rfl)]
        rfl
      · have h1 : cnt (S &&& (S - 1)) 9 + 1 = cnt S 9 := h1
        have h2 : S &&& (S - 1) < S := h2
        have e : nI S - 1 = nI (S - 1) := pk_sub (b := 1) (by omega)
        rw [if_neg (nI_ne0 (by omega) (by omega)), e, nx_and, nI_1, ih _ h2 (by omega), ← h1]
        congr 3
        omega
  rw [eX9_bits]
  have := key S hS 0
  rwa [Nat.zero_add] at this
theorem m_rowIn (hn : f 50 0 = nI n) (h9 : n ≤ 9) (hlk : ∀ i, f 55 i = nI (lk i)) (hlb : ∀ i, lk i ≤ 500) (hT : TOK lk n (f 65) (2 ^ n)) {p i L : Nat} {b : Option Nat} (h1 : 1 ≤ L) (hL : L < 2 ^ n) (hb : ∀ x, b = some x → x < 9) : ∀ d v, v + d = n → am_run 132 65 [.ref 50, .null, .int (nI p), .int (nI L), .int (enc (-4) b), .int (nI i), .int (enc (-4) ((upF (rG lk n L b) v).map (·.1))), .int (enc (-4) ((upF (rG lk n L b) v).map (·.2))), .int (nI v), .null, .null] [] f = am_run 132 65 [.ref 50, .null, .int (nI p), .int (nI L), .int (enc (-4) b), .int (nI i), .int (enc (-4) ((upF (rG lk n L b) n).map (·.1))), .int (enc (-4) ((upF (rG lk n L b) n).map (·.2))), .int (nI n), .null, .null] [] f := by
  have h5 := pow9 h9
  have hwk : ∀ v, v < n → ∀ x, WK lk n L v = some x → x ≤ 5000 := fun v hv x hx => by
    have e1 := WK_le h9 hlb L (by omega) v hv x hx
    have e2 := cnt_le L n
    omega
  have hgb : ∀ v, v < n → ∀ x, rG lk n L b v = some x → x ≤ 6000 := by
    intro v hv x hx
    cases b with
    | none =>
      rw [rG] at hx; unfold wM at hx
      split at hx
      · have := hwk _ hv _ hx; omega
      · cases hx
    | some b =>
      have := wG_lt h9 hlb (show L < 512 by omega) hv _ hx
      omega
  -- the middle: a candidate's value goes in
  have put : ∀ v x, v < n → (upF (rG lk n L b) (v + 1) = match upF (rG lk n L b) v with
      | none => some (x, v)
      | some z => if x < z.1 then some (x, v) else some z) → x ≤ 6000 → (if enc (-4) ((upF (rG lk n L b) v).map (·.1)) = -4 then am_run 132 65 [.ref 50, .null, .int (nI p), .int (nI L), .int (enc (-4) b), .int (nI i), .int (nI x), .int (nI v), .int (nI (v + 1)), .null, .null] [] f else if nI x < enc (-4) ((upF (rG lk n L b) v).map (·.1)) then am_run 132 65 [.ref 50, .null, .int (nI p), .int (nI L), .int (enc (-4) b), .int (nI i), .int (nI x), .int (nI v), .int (nI (v + 1)), .null, .null] [] f else am_run 132 65 [.ref 50, .null, .int (nI p), .int (nI L), .int (enc (-4) b), .int (nI i), .int (enc (-4) ((upF (rG lk n L b) v).map (·.1))), .int (enc (-4) ((upF (rG lk n L b) v).map (·.2))), .int (nI (v + 1)), .null, .null] [] f) = am_run 132 65 [.ref 50, .null, .int (nI p), .int (nI L), .int (enc (-4) b), .int (nI i), .int (enc (-4) ((upF (rG lk n L b) (v + 1)).map (·.1))), .int (enc (-4) ((upF (rG lk n L b) (v + 1)).map (·.2))), .int (nI (v + 1)), .null, .null] [] f := by
    intro v x hv hu hx
    rw [hu]
    cases hz : upF (rG lk n L b) v with
    | none =>
      rw [Option.map_none, enc_none, if_pos rfl]
      rfl
    | some z =>
      obtain ⟨z1, z2, -⟩ := upF_some hz
      have hzb := hgb z.2 (by omega) z.1 z2
      show (if nI z.1 = -4 then _ else if nI x < nI z.1 then _ else _) = _
      rw [if_neg (enc4_ne (by omega))]
      by_cases hlt : x < z.1
      · rw [if_pos (nI_lt hlt (by omega))]
        simp only [hlt, if_true]
        first | done | rfl
      · rw [if_neg (nI_nlt (by omega) (by omega))]
        simp only [hlt, if_false]
        first | done | rfl
  have skip : ∀ v, rG lk n L b v = none → upF (rG lk n L b) (v + 1) = upF (rG lk n L b) v := by
    intro v hg
    rw [upF]
    unfold up
    rw [hg]
  have take : ∀ v x, rG lk n L b v = some x → upF (rG lk n L b) (v + 1) = match upF (rG lk n L b) v with
      | none => some (x, v)
      | some z => if x < z.1 then some (x, v) else some z := by
    intro v x hg
    rw [upF]
    unfold up
    rw [hg]
    rfl
  intro d
  induction d with
  | zero =>
    intro v hv
    have : v = n := by omega
    subst this
    rfl
  | succ d ih =>
    intro v hv
    have hvn : v < n := by omega
    have hskip : rG lk n L b v = none → am_run 132 128 [.ref 50, .null, .int (nI p), .int (nI L), .int (enc (-4) b), .int (nI i), .int (enc (-4) ((upF (rG lk n L b) v).map (·.1))), .int (enc (-4) ((upF (rG lk n L b) v).map (·.2))), .int (nI v), .null, .null] [.int 0] f = am_run 132 65 [.ref 50, .null, .int (nI p), .int (nI L), .int (enc (-4) b), .int (nI i), .int (enc (-4) ((upF (rG lk n L b) (v + 1)).map (·.1))), .int (enc (-4) ((upF (rG lk n L b) (v + 1)).map (·.2))), .int (nI (v + 1)), .null, .null] [] f := by
      intro hg
      rw [skip v hg, eX9_row_128_50_s1, if_pos rfl, if_pos rfl, nI_1]
    rw [← ih (v + 1) (by omega), eX9_row_65_50, hn, if_pos (nI_lt hvn (by omega)), m_has (by omega) (by omega), am_cal_some, idx9', am_ald_in _ _ _ (show 9 * L + v < 4608 by omega) (by decide), hT L v h1 hL hvn]
    simp only [bi_eq0]
    cases hbit : L.testBit v
    · rw [if_pos rfl]
      exact hskip (by
        cases hg : rG lk n L b v with
        | none => rfl
        | some x => rw [rG_bit hg] at hbit; cases hbit)
    · rw [if_neg (by decide)]
      cases hwv : WK lk n L v with
      | none =>
        rw [enc_none, if_pos rfl]
        exact hskip (by
          cases b with
          | none => rw [rG]; unfold wM; rw [hbit, hwv]; rfl
          | some b => rw [rG]; unfold wG; rw [hwv]; simp)
      | some w =>
        have hwb := hwk v hvn w hwv
        rw [enc_some, if_neg (enc4_ne (by omega))]
        cases b with
        | none =>
          have hg : rG lk n L none v = some w := by rw [rG]; unfold wM; rw [hbit, hwv]; rfl
          have := put v w hvn (take v w hg) (by omega)
          have e0 : nI w + 0 = nI w := by grind
          rw [← this, enc_none, if_pos rfl, eX9_row_128_50_s1, if_neg (by decide), idx9', am_ald_in _ _ _ (show 9 * L + v < 4608 by omega) (by decide), hT L v h1 hL hvn, hwv, enc_some, if_pos rfl, if_neg (by decide), e0, nI_1]
        | some b =>
          have hb9 := hb b rfl
          have hl5 := hlb (9 * b + v)
          rw [enc_some, if_neg (enc4_ne (by omega)), idx9', am_ald_in _ _ _ (show 9 * b + v < 81 by omega) (by decide), hlk]
          by_cases hl0 : 0 < lk (9 * b + v)
          · have hg : rG lk n L (some b) v = some (lk (9 * b + v) + w) := by rw [rG]; unfold wG; rw [hbit, hwv]; simp [hl0]
            have := put v _ hvn (take v _ hg) (by omega)
            rw [enc_some] at this
            rw [← this, if_pos (show (0 : Int32) < nI (lk (9 * b + v)) from nI_lt (a := 0) hl0 (by omega)), eX9_row_128_50_s1, if_neg (by decide), idx9', am_ald_in _ _ _ (show 9 * L + v < 4608 by omega) (by decide), hT L v h1 hL hvn, hwv, enc_some, if_neg (enc4_ne (by omega)), idx9', am_ald_in _ _ _ (show 9 * b + v < 81 by omega) (by decide), hlk, if_neg (by decide), nI_add, Nat.add_comm w, nI_1]
          · have hg : rG lk n L (some b) v = none := by rw [rG]; unfold wG; simp [hl0]
            have := hskip hg
            rw [enc_some] at this
            rw [if_neg (show ¬ (0 : Int32) < nI (lk (9 * b + v)) from nI_nlt (b := lk (9 * b + v)) (a := 0) (by omega) (by omega)), this]
theorem m_rowL (hn : f 50 0 = nI n) (h9 : n ≤ 9) (hlk : ∀ i, f 55 i = nI (lk i)) (hlb : ∀ i, lk i ≤ 500) (hT : TOK lk n (f 65) (2 ^ n)) {p : Nat} (hp : p < 100) : ∀ k L b i z, p = i + k → k < cnt L n → 1 ≤ L → L < 2 ^ n → (∀ x, b = some x → x < 9) → upF (rG lk n L b) n = some z → k ≤ 9 → am_run 132 48 [.ref 50, .null, .int (nI p), .int (nI L), .int (enc (-4) b), .int (nI i), .null, .null, .null, .null, .null] [] f = some (rowAt lk n k L b, f) := by
  have h5 := pow9 h9
  intro k
  induction k with
  | zero =>
    intro L b i z hi hc h1 hL hb hz hk
    obtain ⟨z1, z2, -⟩ := rG_next h9 (by omega) hz
    have := m_rowIn hn h9 hlk hlb hT (p := p) (i := i) h1 hL hb n 0 (by omega)
    have this' : am_run 132 65 [.ref 50, .null, .int (nI p), .int (nI L), .int (enc (-4) b), .int (nI i), .int (-4), .int (-4), .int 0, .null, .null] [] f = _ := this
    rw [eX9_row_48_50, if_neg (nI_nlt (by omega) (by omega)), this', eX9_row_65_50, hn, if_neg (nI_nlt (by omega) (by omega)), hz, Option.map_some, enc_some, dropI (by omega) (by omega) z1, nI_1, eX9_row_48_50, rowAt, hz]
    rw [if_pos (nI_lt (by omega) (by omega))]
  | succ k ih =>
    intro L b i z hi hc h1 hL hb hz hk
    obtain ⟨z1, z2, x, hx, hnx⟩ := rG_next h9 (by omega) hz
    have hcd : cnt (L ^^^ 2 ^ z.2) n + 1 = cnt L n := nsum_drop (g := fun _ => 1) z2 z1
    have hlt := drop_lt (show L < 512 by omega) (show z.2 < 9 by omega) z1
    have h0 : L ^^^ 2 ^ z.2 ≠ 0 := by
      intro e
      have hc0 : cnt (L ^^^ 2 ^ z.2) n = 0 := by
        rw [e]
        have : ∀ m, nsum (fun _ => 1) 0 m = 0 := by
          intro m
          induction m with
          | zero => rfl
          | succ m ihm => rw [nsum, ihm]; simp
        exact this n
      omega
    obtain ⟨y, hy, -⟩ := hnx h0
    have := m_rowIn hn h9 hlk hlb hT (p := p) (i := i) h1 hL hb n 0 (by omega)
    have this' : am_run 132 65 [.ref 50, .null, .int (nI p), .int (nI L), .int (enc (-4) b), .int (nI i), .int (-4), .int (-4), .int 0, .null, .null] [] f = _ := this
    have hr := ih (L ^^^ 2 ^ z.2) (some z.2) (i + 1) y (by omega) (by omega) (by omega) (by omega) (fun q hq => by cases hq; omega) hy (by omega)
    rw [enc_some] at hr
    rw [eX9_row_48_50, if_neg (nI_nlt (by omega) (by omega)), this', eX9_row_65_50, hn, if_neg (nI_nlt (by omega) (by omega)), hz, Option.map_some, enc_some, dropI (by omega) (by omega) z1, nI_1, hr, rowAt, hz]
theorem m_row (h : MS n lk ln c f) {S p : Nat} (h1 : 1 ≤ S) (hS : S < 2 ^ n) (hp : p < 2 ^ 31) (hx : am_call 122 [.ref 50, .int (nI S)] f = some (1, f)) : ∃ T, am_call 132 [.ref 50, .int (nI S), .int (nI p)] f = some (rowV lk ln n S p, setC f 65 T) := by
  obtain ⟨T, t1, t2⟩ := m_layFrom h.1 h.2.1 h.2.2.1 h.2.2.2.1
  have h5 := pow9 h.2.1
  have hn9 := h.2.1
  refine ⟨T, ?_⟩
  have hne : ∀ q, q ≠ 65 → setC f 65 T q = f q := fun q hq => setC_ne hq
  have hn : setC f 65 T 50 0 = nI n := by rw [hne 50 (by decide)]; exact h.1
  have hlk : ∀ i, setC f 65 T 55 i = nI (lk i) := by rw [hne 55 (by decide)]; exact h.2.2.1
  have hln : ∀ i, setC f 65 T 53 i = nI (ln i) := by rw [hne 53 (by decide)]; exact h.2.2.2.2.1
  have hT : TOK lk n (setC f 65 T 65) (2 ^ n) := by rw [setC_eq]; exact t2
  rw [eX9_row_50, hx, am_cal_some, if_neg (by decide), if_neg (nI_pos hp), t1, am_cal_some, m_walkOf hn h.2.1 h.2.2.2.1 hln h.2.2.2.2.2.1 hT h1 hS, am_cal_some, m_bits (by omega), am_cal_some, cnt9 hS h.2.1]
  unfold rowV
  cases hws : WS lk ln n S with
  | none => rw [enc_none, if_pos rfl]
  | some w =>
    have hw9 := WS_lt2 h.2.1 h.2.2.2.1 h.2.2.2.2.2.1 (show S < 512 by omega) w hws
    obtain ⟨z, hz, hzw⟩ := WS_up hws
    have hcl := cnt_le S n
    rw [enc_some, if_neg (enc4_ne (by omega))]
    by_cases hc : p < cnt S n
    · have hr := m_rowL hn h.2.1 hlk h.2.2.2.1 hT (show p < 100 by omega) p S none 0 z (by omega) hc h1 hS (fun x hx => by cases hx) hz (by omega)
      have hr' : am_run 132 48 [.ref 50, .null, .int (nI p), .int (nI S), .int (-4), .int 0, .null, .null, .null, .null, .null] [] (setC f 65 T) = _ := hr
      rw [if_pos (nI_lt hc (by omega)), hr']
      simp only [hc, if_true]
    · rw [if_neg (nI_nlt (by omega) (by omega))]
      simp only [hc, if_false]
end Row2
