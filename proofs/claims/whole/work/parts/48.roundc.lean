def encR : Option Nat → Int32
  | none => 100000000
  | some z => nI z
theorem encR_some (z : Nat) : encR (some z) = nI z := rfl
theorem encR_none : encR none = 100000000 := rfl
theorem cnt_posF : ∀ S : Fin 512, S.val ≠ 0 → 1 ≤ cnt S.val 9 := by decide +kernel
section RoundC
variable {f : Hp} {b c : Nat} {L : Nat → Nat}
theorem PT_cnt : ∀ (a S h : Nat), S < 512 → PT b L a S h → a ≤ cnt S 9 := by
  intro a
  induction a with
  | zero => intro S h _ _; exact Nat.zero_le _
  | succ a ih =>
    rintro S h hS ⟨p, h', p1, p2, -, p4, -⟩
    have hadd := sub_add S p p2
    have h1 := ih _ _ (by omega) p4
    have h2 := cnt_posF ⟨p, by omega⟩ p1
    have h2 : 1 ≤ cnt p 9 := h2
    have hpS : ∀ i, p.testBit i = true → S.testBit i = true := by
      intro i hb
      have : (p &&& S).testBit i = true := by rw [p2]; exact hb
      rw [Nat.testBit_and] at this
      simp at this
      exact this.2
    have h3 : cnt p 9 + cnt (S ^^^ p) 9 = cnt S 9 := nsum_add hpS 9
    omega
theorem RB_lt (hL : ∀ p, L p < 1000000) {S k : Nat} (hS : S < 512) (hk : RB b L S = some k) : k < 10000000 := by
  have h1 := PT_cnt _ _ _ hS (RB_PT hL _ _ hk)
  have h2 := cnt_le S 9
  omega
theorem dn_omin (g : Nat → Option Nat) : ∀ (l : List Nat) (acc : Option (Nat × Nat)), l.foldl (fun a p => omin a (g p)) (acc.map (·.1)) = (l.foldl (dn g) acc).map (·.1)
  | [], acc => rfl
  | p :: l, acc => by
    rw [List.foldl_cons, List.foldl_cons, ← dn_omin g l]
    congr 1
    unfold dn
    cases g p with
    | none => rw [omin_none]
    | some v =>
      cases acc with
      | none => rfl
      | some z =>
        show some (min z.1 v) = Option.map (·.1) (dnS (some z) p v)
        unfold dnS
        by_cases h : z.1 < v
        · simp only [h, if_true]
          show some (min z.1 v) = some z.1
          rw [Nat.min_eq_left (by omega)]
        · simp only [h, if_false]
          show some (min z.1 v) = some v
          rw [Nat.min_eq_right (by omega)]
theorem xor_or {S w m : Nat} (hw : w &&& S = w) (hm : m &&& (S ^^^ w) = m) : S ^^^ w ^^^ m = S ^^^ (m ||| w) := by
  apply Nat.eq_of_testBit_eq
  intro i
  have h1 : (w &&& S).testBit i = w.testBit i := by rw [hw]
  have h2 : (m &&& (S ^^^ w)).testBit i = m.testBit i := by rw [hm]
  rw [Nat.testBit_and] at h1
  rw [Nat.testBit_and, Nat.testBit_xor] at h2
  rw [Nat.testBit_xor, Nat.testBit_xor, Nat.testBit_xor, Nat.testBit_or]
  revert h1 h2
  cases S.testBit i <;> cases w.testBit i <;> cases m.testBit i <;> decide
theorem c_boStep (hL : ∀ p, L p < 1000000) (hb : b ≤ 1000000) {S : Nat} (h1 : 1 ≤ S) (hS : S < 512) (hl : ∀ p, 1 ≤ p → p ≤ S → f 35 p = nI (L p)) (hk : ∀ T, T < S → f 36 T = encR (RB b L T)) {x : Nat} (hx : x < 512) {acc : Option Nat} (hacc : ∀ y, acc = some y → y < 20000000) : am_run 20 18 [.ref 33, .null, .int (nI b), .int (nI (lowb S)), .int (nI (S ^^^ lowb S)), .int (encR acc), .int (nI x), .null, .null, .null] [] f = am_run 20 18 [.ref 33, .null, .int (nI b), .int (nI (lowb S)), .int (nI (S ^^^ lowb S)), .int (encR (omin acc (gR b L (RB b L) S ((x &&& (S ^^^ lowb S)) ||| lowb S)))), .int (nI (x &&& (S ^^^ lowb S)) + (-1)), .null, .null, .null] [] f ∧ ∀ y, omin acc (gR b L (RB b L) S ((x &&& (S ^^^ lowb S)) ||| lowb S)) = some y → y < 20000000 := by
  have hms := and_sub x (S ^^^ lowb S)
  have hc := cnd_of h1 hS hms
  have hxo := xor_or (low_sub hS) hms
  generalize hp : (x &&& (S ^^^ lowb S)) ||| lowb S = p at hc hxo ⊢
  have hle := cnd_le hc
  have hlt := cnd_lt hc
  have hLp := hL p
  have hg : gR b L (RB b L) S p = if L p ≤ b then (RB b L (S ^^^ p)).map (cmb (L p)) else none := by
    unfold gR
    rw [hc]
    simp
  rw [eX2_bestOf_18_33, if_neg (nI_pos (by omega)), nx_and, nx_or, hp, nx_xor, hxo, am_ald_in _ _ _ (show p < 512 by omega) (by decide), am_ald_in _ _ _ (show S ^^^ p < 512 by omega) (by decide), hl p hle.2 hle.1, hk _ hlt, hg]
  by_cases hpb : L p ≤ b
  · rw [if_neg (nI_nlt hpb (by omega)), if_pos hpb]
    cases hK : RB b L (S ^^^ p) with
    | none =>
      rw [encR_none, if_neg (by decide), Option.map_none, omin_none]
      exact ⟨rfl, hacc⟩
    | some z =>
      have hz := RB_lt hL (show S ^^^ p < 512 by omega) hK
      have hmod := Nat.mod_lt z (show 0 < 1000000 by decide)
      have er : nI z - nI z / 1000000 * 1000000 = nI (z % 1000000) := pk_rem (by omega) (by decide) (by decide)
      have es : nI z - nI (z % 1000000) = nI (z - z % 1000000) := pk_sub (Nat.mod_le _ _)
      have em : am_max (nI (L p)) (nI (z % 1000000)) = nI (max (L p) (z % 1000000)) := by
        unfold am_max
        by_cases h : L p < z % 1000000
        · first
            | rw [if_pos (nI_lt h (by omega)), Nat.max_eq_right (by omega)]
            | rw [if_neg (nI_nlt (by omega) (by omega)), Nat.max_eq_right (by omega)]
        · first
            | rw [if_neg (nI_nlt (by omega) (by omega)), Nat.max_eq_left (by omega)]
            | rw [if_pos (nI_lt (by omega) (by omega)), Nat.max_eq_left (by omega)]
      have ec : nI (z - z % 1000000) + 1000000 + nI (max (L p) (z % 1000000)) = nI (cmb (L p) z) := by
        show nI (z - z % 1000000) + nI 1000000 + nI (max (L p) (z % 1000000)) = _
        rw [nI_add, nI_add]
        rfl
      have hcb : cmb (L p) z < 20000000 := by
        unfold cmb
        omega
      have edv : ∀ r, am_dv 1000000 r = r := fun r => dvN (x := 1000000) (by decide) (by decide) r
      rw [encR_some, if_pos (show nI z < (100000000 : Int32) from nI_lt (b := 100000000) (by omega) (by decide)), edv, edv, er, es, em, ec, Option.map_some]
      cases acc with
      | none =>
        refine ⟨?_, fun y hy => by cases hy; exact hcb⟩
        unfold am_min
        rw [encR_none, if_pos (show nI (cmb (L p) z) < (100000000 : Int32) from nI_lt (b := 100000000) (by omega) (by decide))]
        rfl
      | some y0 =>
        have hy0 := hacc y0 rfl
        refine ⟨?_, fun y hy => ?_⟩
        · unfold am_min
          rw [encR_some]
          show _ = am_run 20 18 [.ref 33, .null, .int (nI b), .int (nI (lowb S)), .int (nI (S ^^^ lowb S)), .int (nI (min y0 (cmb (L p) z))), .int (nI (x &&& (S ^^^ lowb S)) + (-1)), .null, .null, .null] [] f
          by_cases h : cmb (L p) z < y0
          · rw [if_pos (nI_lt h (by omega)), Nat.min_eq_right (by omega)]
          · rw [if_neg (nI_nlt (by omega) (by omega)), Nat.min_eq_left (by omega)]
        · have : min y0 (cmb (L p) z) = y := Option.some.inj hy
          omega
  · rw [if_pos (nI_lt (by omega) (by omega)), if_neg hpb, omin_none]
    exact ⟨rfl, hacc⟩
theorem c_bestOf (hL : ∀ p, L p < 1000000) (hb : b ≤ 1000000) {S : Nat} (h1 : 1 ≤ S) (hS : S < 512) (hl : ∀ p, 1 ≤ p → p ≤ S → f 35 p = nI (L p)) (hk : ∀ T, T < S → f 36 T = encR (RB b L T)) : am_call 20 [.ref 33, .int (nI S), .int (nI b)] f = some (encR (RB b L S), f) := by
  have loop : ∀ F x acc, (x &&& (S ^^^ lowb S)) < F → x < 512 → (∀ y, acc = some y → y < 20000000) → am_run 20 18 [.ref 33, .null, .int (nI b), .int (nI (lowb S)), .int (nI (S ^^^ lowb S)), .int (encR acc), .int (nI x), .null, .null, .null] [] f = some (encR (((chain F (x &&& (S ^^^ lowb S)) (S ^^^ lowb S)).map (· ||| lowb S)).foldl (fun a p => omin a (gR b L (RB b L) S p)) acc), f) := by
    intro F
    induction F with
    | zero => intro x acc hF; omega
    | succ F ih =>
      intro x acc hF hx hacc
      obtain ⟨e1, e2⟩ := c_boStep hL hb h1 hS hl hk hx hacc
      rw [e1, chain]
      have hmx : x &&& (S ^^^ lowb S) ≤ x := Nat.and_le_left
      generalize x &&& (S ^^^ lowb S) = m at hF e2 hmx ⊢
      by_cases hm : m = 0
      · subst hm
        have e0 : nI 0 + (-1) = -1 := by decide
        rw [e0, eX2_bestOf_18_33, if_pos (by decide)]
        rfl
      · have hm2 : (m - 1) &&& (S ^^^ lowb S) ≤ m - 1 := Nat.and_le_left
        have em : nI m + (-1) = nI (m - 1) := by
          have := pk_m1 (m - 1)
          rwa [show m - 1 + 1 = m by omega] at this
        rw [em, if_neg hm, List.map_cons, List.foldl_cons]
        exact ih (m - 1) _ (by omega) (by omega) e2
  have hlx := low_xor_lt h1 hS
  have hl2 := loop 512 (S ^^^ lowb S) none (by rw [Nat.and_self]; omega) (by omega) (fun y hy => by cases hy)
  rw [Nat.and_self] at hl2
  have hp : (chain 512 (S ^^^ lowb S) (S ^^^ lowb S)).map (· ||| lowb S) = pch S := rfl
  have hgc : ∀ p, gR b L (RB b L) S p ≠ none → cnd S p = true := by
    intro p h
    unfold gR at h
    cases hc : cnd S p
    · rw [hc] at h
      exact absurd rfl h
    · rfl
  have hd := dn_omin (gR b L (RB b L) S) (pch S) none
  rw [best_eq h1 hS hgc (k := S + 1) (by omega), ← minO_up, ← RB_eq h1] at hd
  rw [hp] at hl2
  have hd' : (pch S).foldl (fun a p => omin a (gR b L (RB b L) S p)) none = RB b L S := hd
  rw [hd'] at hl2
  rw [eX2_bestOf_33, lowI hS, nx_xor]
  exact hl2
theorem c_fewest (hL : ∀ p, L p < 1000000) (hb : b ≤ 1000000) (hc : f 33 3 = nI c) (hc9 : c ≤ 9) (hl : ∀ p, 1 ≤ p → p < 2 ^ c → f 35 p = nI (L p)) (h0 : f 36 0 = 0) : ∃ T, am_call 19 [.ref 33, .int (nI b)] f = some (encR (RB b L (2 ^ c - 1)), setC f 36 T) ∧ T 0 = 0 := by
  have h5 := pow9 hc9
  have hp := Nat.two_pow_pos c
  have loop : ∀ d S T, S + d = 2 ^ c → 1 ≤ S → (∀ U, U < S → T U = encR (RB b L U)) → ∃ T', am_run 19 11 [.ref 33, .int (nI b), .int (nI (2 ^ c - 1)), .int (nI S)] [] (setC f 36 T) = some (encR (RB b L (2 ^ c - 1)), setC f 36 T') ∧ T' 0 = 0 := by
    intro d
    induction d with
    | zero =>
      intro S T hS h1 hT
      refine ⟨T, ?_, by rw [hT 0 (by omega)]; rfl⟩
      rw [eX2_fewest_11_33, if_pos (nI_lt (by omega) (by omega)), am_ald_in _ _ _ (show 2 ^ c - 1 < 512 by omega) (by decide), setC_eq, hT _ (by omega)]
    | succ d ih =>
      intro S T hS h1 hT
      rw [eX2_fewest_11_33, if_neg (nI_nlt (by omega) (by omega)), c_bestOf hL hb h1 (by omega) (fun p a b => by rw [setC_ne (by decide)]; exact hl p a (by omega)) (fun U hU => by rw [setC_eq]; exact hT U hU), am_cal_some, am_ast_in _ _ _ _ (show S < 512 by omega) (by decide), up_setC, nI_1]
      refine ih (S + 1) _ (by omega) (by omega) (fun U hU => ?_)
      by_cases e : U = S
      · subst e; rw [upd_same]
      · rw [upd_ne e]; exact hT U (by omega)
  rw [eX2_fewest_33, hc, all_eq hc9]
  have := loop (2 ^ c - 1) 1 (f 36) (by omega) (by omega) (fun U hU => by
    have : U = 0 := by omega
    subst this
    rw [h0]; rfl)
  rw [setC_self] at this
  exact this
end RoundC
