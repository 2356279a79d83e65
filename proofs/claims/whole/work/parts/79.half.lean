section Half
variable {n : Nat} {lk ln : Nat → Nat} {c : Nat} {mr : Nat → Nat} {t kc : Nat} {f g : Hp}
def dfN (x y : Nat) : Nat := if y ≤ x then x - y else y - x
theorem sub_neg {x y : Nat} (hx : x < 2 ^ 30) (hy : y < 2 ^ 30) : (nI x - nI y < 0) = (x < y) := by
  rw [fa_lt, pk_sub_toInt hx hy]
  have : (0 : Int32).toInt = 0 := rfl
  exact propext ⟨fun h => by omega, fun h => by omega⟩
theorem neg_sub {x y : Nat} (h : x ≤ y) : -(nI x - nI y) = nI (y - x) := by
  rw [Int32.neg_sub]
  exact pk_sub h
theorem abs_sub {x y : Nat} (hx : x < 2 ^ 30) (hy : y < 2 ^ 30) : am_abs (nI x - nI y) = nI (dfN x y) := by
  unfold am_abs dfN
  by_cases e : y ≤ x
  · rw [if_pos e, pk_sub e, if_pos (nI_pos' (by omega))]
  · have h0 : nI x - nI y < 0 := by rw [sub_neg hx hy]; omega
    rw [if_neg e, if_neg (Int32.not_le.mpr h0), Int32.zero_sub]
    exact neg_sub (by omega)
theorem m_size {x y : Nat} (hx : x < 2 ^ 30) (hy : y < 2 ^ 30) (g : Hp) : am_call 168 [.int (nI x - nI y)] g = some (nI (dfN x y), g) := by
  rw [eX9_size]
  unfold dfN
  by_cases e : y ≤ x
  · have h0 : ¬ nI x - nI y < 0 := by rw [sub_neg hx hy]; omega
    rw [if_neg h0, if_pos e, pk_sub e]
  · have h0 : nI x - nI y < 0 := by rw [sub_neg hx hy]; omega
    rw [if_pos h0, if_neg e, neg_sub (by omega)]
theorem dfN_le {x y B : Nat} (hx : x ≤ B) (hy : y ≤ B) : dfN x y ≤ B := by
  unfold dfN
  split <;> omega
/-- doors of a set, as a number -/
def dNo (f : Hp) (d n p : Nat) : Nat := nsum (fun s => (f 3 s).toNatClampNeg + (f 4 s).toNatClampNeg * (d / 365)) p n
theorem dNo_ok (hD : DB f) {d p : Nat} (hd : d ≤ 14600) (h9 : n ≤ 9) : dSum (f 3) (f 4) n p (nI d) = nI (dNo f d n p) ∧ dNo f d n p ≤ 9000 := by
  have e7 : nI d / 365 = nI (d / 365) := pk_div (by omega) (by decide) (by decide)
  have hb : ∀ s, (f 3 s).toNatClampNeg + (f 4 s).toNatClampNeg * (d / 365) ≤ 1000 := fun s => by
    obtain ⟨x, y, m, e1, e2, e3, e4, -, -⟩ := hD s
    rw [e1, e3, nI_clamp (by omega), nI_clamp (by omega)]
    have h1 : d / 365 ≤ 40 := by omega
    have h2 : y * (d / 365) ≤ 20 * 40 := Nat.mul_le_mul e4 h1
    omega
  have key : ∀ m, sm (dTerm (f 3) (f 4) p (nI d)) m = nI (nsum (fun s => (f 3 s).toNatClampNeg + (f 4 s).toNatClampNeg * (d / 365)) p m) := by
    intro m
    induction m with
    | zero => rfl
    | succ m ih =>
      obtain ⟨x, y, _, e1, e2, e3, e4, -, -⟩ := hD m
      rw [sm, nsum, ih]
      unfold dTerm
      cases p.testBit m with
      | false => simp
      | true =>
        simp only [if_true]
        rw [e1, e3, nI_clamp (by omega), nI_clamp (by omega), e7, pk_mul, nI_add, nI_add]
  refine ⟨key n, ?_⟩
  have := nsum_le (S := p) hb n
  unfold dNo
  omega
/-- the halves of a code: how far apart, and how long -/
def gH (R : Nat → Bool) (D Wt : Nat → Nat) (S p : Nat) : Option Nat := if cnd S p && (!decide (p = S) && (R p && R (S ^^^ p))) then some (dfN (D p) (D (S ^^^ p)) * 100000 + (Wt p + Wt (S ^^^ p))) else none
theorem gH_cnd {R : Nat → Bool} {D Wt : Nat → Nat} {S : Nat} : ∀ p, gH R D Wt S p ≠ none → cnd S p = true := by
  intro p h
  unfold gH at h
  cases hc : cnd S p
  · rw [hc] at h
    exact absurd rfl h
  · rfl
def encHK : Option (Nat × Nat) → Int32
  | none => 2000000000
  | some z => nI z.1
/-- a heap on which the halves are weighed so -/
def HH (n : Nat) (lk ln : Nat → Nat) (c : Nat) (mr : Nat → Nat) (t kc : Nat) (R : Nat → Bool) (D : Nat → Nat) (day : Int32) (g : Hp) : Prop := Iv n lk ln c mr t kc g ∧ Rd (g 3) (g 4) (g 17) (g 18) (g 19) n c lk ln day = R ∧ ∀ p, p < 512 → dSum (g 3) (g 4) n p day = nI (D p)
theorem HH.wa {R : Nat → Bool} {D : Nat → Nat} {day : Int32} (h : HH n lk ln c mr t kc R D day g) : HH n lk ln c mr t kc R D day (wa g) ∧ AgC g (wa g) := by
  obtain ⟨hw, ag⟩ := h.1.waI
  refine ⟨⟨hw, by rw [Rd_cells ag.cells]; exact h.2.1, ?_⟩, ag⟩
  rw [ag.2.2.1 3 (by decide), ag.2.2.1 4 (by decide)]
  exact h.2.2
section
variable {R : Nat → Bool} {D Wt : Nat → Nat} {day : Int32}
theorem c_half (hD : ∀ p, D p ≤ 9000) (hRW : ∀ p, 1 ≤ p → p < 2 ^ n → R p = true → WS lk ln n p = some (Wt p) ∧ Wt p < 9000) (h : HH n lk ln c mr t kc R D day g) {p q : Nat} (hp1 : 1 ≤ p) (hp : p < 2 ^ n) (hq1 : 1 ≤ q) (hq : q < 2 ^ n) (rp : R p = true) (rq : R q = true) : ∃ g', am_call 95 [.ref 1, .int (nI p), .int (nI q), .int day] g = some (nI (dfN (D p) (D q) * 100000 + (Wt p + Wt q)), g') ∧ HH n lk ln c mr t kc R D day g' ∧ AgC g g' := by
  have h9 := h.1.n9
  have h5 := pow9 h9
  obtain ⟨w1, a1⟩ := h.wa
  obtain ⟨w2, a2⟩ := w1.wa
  obtain ⟨sp, bp⟩ := hRW p hp1 hp rp
  obtain ⟨sq, bq⟩ := hRW q hq1 hq rq
  have dp := hD p
  have dq := hD q
  have hdf := dfN_le dp dq
  refine ⟨_, ?_, w2, a1.trans a2⟩
  rw [eX8_keyOfHalves_1, c_doorsOf h.1.n7 h9 (by omega), am_cal_some, c_doorsOf h.1.n7 h9 (by omega), am_cal_some, h.1.leastWalk hp1 hp, am_cal_some, w1.1.leastWalk hq1 hq, am_cal_some, h.2.2 p (by omega), h.2.2 q (by omega), abs_sub (by omega) (by omega), sp, sq, encW_some, encW_some]
  have e1 : nI (dfN (D p) (D q)) * 100000 = nI (dfN (D p) (D q) * 100000) := pk_mul _ 100000
  have e2 : dfN (D p) (D q) * 100000 + (Wt p + 0) + (Wt q + 0) = dfN (D p) (D q) * 100000 + (Wt p + Wt q) := by omega
  rw [e1, nI_add, nI_add, e2]
theorem c_haStep (hD : ∀ p, D p ≤ 9000) (hRW : ∀ p, 1 ≤ p → p < 2 ^ n → R p = true → WS lk ln n p = some (Wt p) ∧ Wt p < 9000) {S : Nat} (h1 : 1 ≤ S) (hS : S < 2 ^ n) (h : HH n lk ln c mr t kc R D day g) {x : Nat} (hx : x < 512) {acc : Option (Nat × Nat)} (hacc : ∀ y, acc = some y → y.1 < 1000000000) : ∃ g', am_run 94 21 [.ref 1, .int (nI S), .int day, .int (nI (lowb S)), .int (nI (S ^^^ lowb S)), .int (encP acc), .int (encHK acc), .int (nI x), .null, .null] [] g = am_run 94 21 [.ref 1, .int (nI S), .int day, .int (nI (lowb S)), .int (nI (S ^^^ lowb S)), .int (encP (dn (gH R D Wt S) acc ((x &&& (S ^^^ lowb S)) ||| lowb S))), .int (encHK (dn (gH R D Wt S) acc ((x &&& (S ^^^ lowb S)) ||| lowb S))), .int (nI (x &&& (S ^^^ lowb S)) + (-1)), .null, .null] [] g' ∧ HH n lk ln c mr t kc R D day g' ∧ AgC g g' ∧ ∀ y, dn (gH R D Wt S) acc ((x &&& (S ^^^ lowb S)) ||| lowb S) = some y → y.1 < 1000000000 := by
  have h9 := h.1.n9
  have h5 := pow9 h9
  have hms := and_sub x (S ^^^ lowb S)
  have hc := cnd_of h1 (show S < 512 by omega) hms
  generalize hp : (x &&& (S ^^^ lowb S)) ||| lowb S = p at hc ⊢
  have hle := cnd_le hc
  have hlt := cnd_lt hc
  rw [eX8_bestHalf_21_1, if_neg (nI_pos (by omega)), nx_and, nx_or, hp, nx_xor]
  have skip : gH R D Wt S p = none → dn (gH R D Wt S) acc p = acc := fun e => by unfold dn; rw [e]
  by_cases e1 : p = S
  · have eg : gH R D Wt S p = none := by
      unfold gH
      rw [decide_eq_true e1]
      simp
    rw [if_pos (by rw [e1]), skip eg]
    exact ⟨g, rfl, h, AgC.refl g, hacc⟩
  · have hq1 : 1 ≤ S ^^^ p := by
      rcases Nat.eq_zero_or_pos (S ^^^ p) with z | z
      · exact absurd ((xor_zero_iff S p).mp z).symm e1
      · exact z
    rw [if_neg (fun z => e1 ((nI_eq (by omega) (by omega)).mp z)), h.1.c_right hle.2 (by omega), am_cal_some, h.2.1]
    obtain ⟨w1, a1⟩ := h.wa
    cases rp : R p with
    | false =>
      have eg : gH R D Wt S p = none := by
        unfold gH
        rw [rp]
        simp
      rw [bi_f, if_pos rfl, skip eg]
      exact ⟨_, rfl, w1, a1, hacc⟩
    | true =>
      rw [bi_t, if_neg one_ne, w1.1.c_right hq1 (by omega), am_cal_some, w1.2.1]
      obtain ⟨w2, a2⟩ := w1.wa
      cases rq : R (S ^^^ p) with
      | false =>
        have eg : gH R D Wt S p = none := by
          unfold gH
          rw [rq]
          simp
        rw [bi_f, if_pos rfl, skip eg]
        exact ⟨_, rfl, w2, a1.trans a2, hacc⟩
      | true =>
        obtain ⟨g', k1, k2, k3⟩ := c_half hD hRW w2 hle.2 (show p < 2 ^ n by omega) hq1 (show S ^^^ p < 2 ^ n by omega) rp rq
        have hb1 := (hRW p hle.2 (by omega) rp).2
        have hb2 := (hRW (S ^^^ p) hq1 (by omega) rq).2
        have hdf := dfN_le (hD p) (hD (S ^^^ p))
        have eg : gH R D Wt S p = some (dfN (D p) (D (S ^^^ p)) * 100000 + (Wt p + Wt (S ^^^ p))) := by
          unfold gH
          rw [hc, rp, rq, decide_eq_false e1]
          rfl
        rw [bi_t, if_neg one_ne, k1, am_cal_some]
        have ed : dn (gH R D Wt S) acc p = dnS acc p (dfN (D p) (D (S ^^^ p)) * 100000 + (Wt p + Wt (S ^^^ p))) := by unfold dn; rw [eg]
        rw [ed]
        generalize hv : dfN (D p) (D (S ^^^ p)) * 100000 + (Wt p + Wt (S ^^^ p)) = v
        have hvb : v < 1000000000 := by omega
        refine ⟨g', ?_, k2, (a1.trans a2).trans k3, fun y hy => ?_⟩
        · cases acc with
          | none =>
            rw [if_neg (show ¬ encHK none < nI v from nI_nlt (b := v) (a := 2000000000) (by omega) (by decide))]
            rfl
          | some z =>
            have hz := hacc z rfl
            unfold dnS
            by_cases e2 : z.1 < v
            · rw [if_pos (show encHK (some z) < nI v from nI_lt e2 (by omega))]
              simp only [e2, if_true]
            · rw [if_neg (show ¬ encHK (some z) < nI v from nI_nlt (by omega) (by omega))]
              simp only [e2, if_false]
              rfl
        · cases acc with
          | none => cases hy; exact hvb
          | some z =>
            unfold dnS at hy
            by_cases e2 : z.1 < v
            · simp only [e2, if_true] at hy
              exact hacc y hy
            · simp only [e2, if_false] at hy
              cases hy
              exact hvb
theorem c_bestHalf (hD : ∀ p, D p ≤ 9000) (hRW : ∀ p, 1 ≤ p → p < 2 ^ n → R p = true → WS lk ln n p = some (Wt p) ∧ Wt p < 9000) {S : Nat} (h1 : 1 ≤ S) (hS : S < 2 ^ n) (h : HH n lk ln c mr t kc R D day g) : ∃ g', am_call 94 [.ref 1, .int (nI S), .int day] g = some (encP (upF (gH R D Wt S) S), g') ∧ HH n lk ln c mr t kc R D day g' ∧ AgC g g' := by
  have h5 := pow9 h.1.n9
  have loop : ∀ F x acc g, (x &&& (S ^^^ lowb S)) < F → x < 512 → HH n lk ln c mr t kc R D day g → (∀ y, acc = some y → y.1 < 1000000000) → ∃ g', am_run 94 21 [.ref 1, .int (nI S), .int day, .int (nI (lowb S)), .int (nI (S ^^^ lowb S)), .int (encP acc), .int (encHK acc), .int (nI x), .null, .null] [] g = some (encP (((chain F (x &&& (S ^^^ lowb S)) (S ^^^ lowb S)).map (· ||| lowb S)).foldl (dn (gH R D Wt S)) acc), g') ∧ HH n lk ln c mr t kc R D day g' ∧ AgC g g' := by
    intro F
    induction F with
    | zero => intro x acc g hF; omega
    | succ F ih =>
      intro x acc g hF hx hg hacc
      obtain ⟨g1, e1, e2, e3, e4⟩ := c_haStep hD hRW h1 hS hg hx hacc
      rw [e1, chain]
      have hmx : x &&& (S ^^^ lowb S) ≤ x := Nat.and_le_left
      generalize x &&& (S ^^^ lowb S) = m at hF e4 hmx ⊢
      by_cases hm : m = 0
      · subst hm
        have e0 : nI 0 + (-1) = -1 := by decide
        rw [e0, eX8_bestHalf_21_1, if_pos (by decide)]
        exact ⟨g1, rfl, e2, e3⟩
      · have hm2 : (m - 1) &&& (S ^^^ lowb S) ≤ m - 1 := Nat.and_le_left
        have em : nI m + (-1) = nI (m - 1) := by
          have := pk_m1 (m - 1)
          rwa [show m - 1 + 1 = m by omega] at this
        rw [em, if_neg hm, List.map_cons, List.foldl_cons]
        obtain ⟨g', b1, b2, b3⟩ := ih (m - 1) _ g1 (by omega) (by omega) e2 e4
        exact ⟨g', b1, b2, e3.trans b3⟩
  have hlx := low_xor_lt h1 (show S < 512 by omega)
  obtain ⟨g', l1, l2, l3⟩ := loop 512 (S ^^^ lowb S) none g (by rw [Nat.and_self]; omega) (by omega) h (fun y hy => by cases hy)
  rw [Nat.and_self] at l1
  have hp : (chain 512 (S ^^^ lowb S) (S ^^^ lowb S)).map (· ||| lowb S) = pch S := rfl
  rw [hp, best_eq h1 (by omega) gH_cnd (k := S + 1) (by omega)] at l1
  have hgS : gH R D Wt S S = none := by
    unfold gH
    rw [decide_eq_true rfl]
    simp
  have hup : upF (gH R D Wt S) (S + 1) = upF (gH R D Wt S) S := by
    rw [upF]
    unfold up
    rw [hgS]
  rw [hup] at l1
  refine ⟨g', ?_, l2, l3⟩
  rw [eX8_bestHalf_1, lowI (by omega), nx_xor]
  exact l1
def encL : Option (Nat × Nat) → Int32
  | none => 0
  | some z => nI (z.1 / 100000)
def encV : Option (Nat × Nat) → Int32
  | none => 0
  | some z => nI (z.1 % 100000)
theorem m_haL (hD : ∀ p, D p ≤ 9000) (hRW : ∀ p, 1 ≤ p → p < 2 ^ n → R p = true → WS lk ln n p = some (Wt p) ∧ Wt p < 9000) {S : Nat} (h1 : 1 ≤ S) (hS : S < 2 ^ n) (h : Iv n lk ln c mr t kc f) (hR : Rd (f 3) (f 4) (f 17) (f 18) (f 19) n c lk ln day = R) (hd : ∀ p, p < 512 → dSum (f 3) (f 4) n p day = nI (D p)) (me : ME f g) (hT : TOK lk n (g 65) (2 ^ n)) : ∀ e p, p + e = S → 1 ≤ p → am_run 169 72 [.ref 50, .null, .int day, .int (nI S), .int (nI (lowb S)), .int (encP (upF (gH R D Wt S) p)), .int (encL (upF (gH R D Wt S) p)), .int (encV (upF (gH R D Wt S) p)), .int (nI p), .null, .null] [] g = am_run 169 72 [.ref 50, .null, .int day, .int (nI S), .int (nI (lowb S)), .int (encP (upF (gH R D Wt S) S)), .int (encL (upF (gH R D Wt S) S)), .int (encV (upF (gH R D Wt S) S)), .int (nI S), .null, .null] [] g := by
  have h9 := h.n9
  have h5 := pow9 h9
  have hub : ∀ p y, upF (gH R D Wt S) p = some y → y.1 < 1000000000 ∧ 1 ≤ y.2 ∧ y.2 < p := by
    intro p y hy
    obtain ⟨u1, u2, -⟩ := upF_some hy
    have hc := gH_cnd y.2 (by rw [u2]; exact fun z => by cases z)
    have hle := cnd_le hc
    unfold gH at u2
    split at u2
    · rename_i hcc
      simp only [Bool.and_eq_true, Bool.not_eq_true', decide_eq_false_iff_not] at hcc
      obtain ⟨-, hne, rp, rq⟩ := hcc
      have hlt := cnd_lt hc
      have hq1 : 1 ≤ S ^^^ y.2 := by
        rcases Nat.eq_zero_or_pos (S ^^^ y.2) with z | z
        · exact absurd ((xor_zero_iff S y.2).mp z).symm hne
        · exact z
      have b1 := (hRW _ hle.2 (by omega) rp).2
      have b2 := (hRW _ hq1 (by omega) rq).2
      have hdf := dfN_le (hD y.2) (hD (S ^^^ y.2))
      have := Option.some.inj u2
      exact ⟨by omega, hle.2, u1⟩
    · cases u2
  intro e
  induction e with
  | zero =>
    intro p hp _
    have : p = S := by omega
    subst this
    rfl
  | succ e ih =>
    intro p hp hp1
    rw [← ih (p + 1) (by omega) (by omega), eX9_split_72_50, if_pos (nI_lt (by omega) (by omega)), andn, nx_and, nI_1]
    have hx : p ^^^ (p &&& S) < 512 := Nat.xor_lt_two_pow (n := 9) (by omega) (by have : p &&& S ≤ p := Nat.and_le_left; omega)
    have hpl : p &&& lowb S < 512 := by have : p &&& lowb S ≤ p := Nat.and_le_left; omega
    have hupe : upF (gH R D Wt S) (p + 1) = up (gH R D Wt S) (upF (gH R D Wt S) p) p := rfl
    have skip : gH R D Wt S p = none → upF (gH R D Wt S) (p + 1) = upF (gH R D Wt S) p := fun e => by rw [hupe]; unfold up; rw [e]
    by_cases hcn : cnd S p = true
    · have hand := cnd_and hcn
      have hlt := cnd_lt hcn
      have hlow : p &&& lowb S ≠ 0 := by
        unfold cnd at hcn
        simp only [Bool.and_eq_true, bne_iff_ne] at hcn
        exact hcn.2
      have hne : p ≠ S := by omega
      have hq1 : 1 ≤ S ^^^ p := by
        rcases Nat.eq_zero_or_pos (S ^^^ p) with z | z
        · exact absurd ((xor_zero_iff S p).mp z).symm hne
        · exact z
      have right : ∀ {q : Nat}, 1 ≤ q → q < 2 ^ n → am_call 147 [.ref 50, .int (nI q), .int day] g = some (bi (R q), g) := fun {q} a b => by
        have := h.e_right me hT a b day
        rw [hR] at this
        exact this
      rw [hand, Nat.xor_self, if_pos nI_0, if_neg (nI_nez hlow (by omega)), right hp1 (by omega), am_cal_some, andn, sub_and hand]
      cases rp : R p with
      | false =>
        have eg : gH R D Wt S p = none := by
          unfold gH
          rw [rp]
          simp
        rw [bi_f, if_pos rfl, skip eg]
      | true =>
        rw [bi_t, if_neg one_ne, right hq1 (by omega), am_cal_some]
        cases rq : R (S ^^^ p) with
        | false =>
          have eg : gH R D Wt S p = none := by
            unfold gH
            rw [rq]
            simp
          rw [bi_f, if_pos rfl, skip eg]
        | true =>
          obtain ⟨sp, bp⟩ := hRW p hp1 (by omega) rp
          obtain ⟨sq, bq⟩ := hRW (S ^^^ p) hq1 (by omega) rq
          have dp := hD p
          have dq := hD (S ^^^ p)
          have hdf := dfN_le dp dq
          have eg : gH R D Wt S p = some (dfN (D p) (D (S ^^^ p)) * 100000 + (Wt p + Wt (S ^^^ p))) := by
            unfold gH
            rw [hcn, rp, rq, decide_eq_false hne]
            rfl
          rw [bi_t, if_neg one_ne, h.e_doorsIn me (by omega), am_cal_some, h.e_doorsIn me (by omega), am_cal_some, hd p (by omega), hd (S ^^^ p) (by omega), m_size (by omega) (by omega), am_cal_some, h.e_walkOf me hT hp1 (by omega), am_cal_some, h.e_walkOf me hT hq1 (by omega), am_cal_some, sp, sq, enc_some, enc_some, nI_add]
          have eu : upF (gH R D Wt S) (p + 1) = upS (upF (gH R D Wt S) p) p (dfN (D p) (D (S ^^^ p)) * 100000 + (Wt p + Wt (S ^^^ p))) := by
            rw [hupe]
            unfold up
            rw [eg]
          rw [eu]
          generalize hdd : dfN (D p) (D (S ^^^ p)) = df at *
          generalize hww : Wt p + Wt (S ^^^ p) = w at *
          have v1 : (df * 100000 + w) / 100000 = df := by omega
          have v2 : (df * 100000 + w) % 100000 = w := by omega
          have take : ∀ y : Nat × Nat, y = (df * 100000 + w, p) → encP (some y) = nI p ∧ encL (some y) = nI df ∧ encV (some y) = nI w := fun y hy => by
            subst hy
            refine ⟨rfl, ?_, ?_⟩
            · show nI ((df * 100000 + w) / 100000) = _
              rw [v1]
            · show nI ((df * 100000 + w) % 100000) = _
              rw [v2]
          cases ha : upF (gH R D Wt S) p with
          | none =>
            rw [if_pos (show encP none = 0 from rfl)]
            obtain ⟨t1, t2, t3⟩ := take _ rfl
            show _ = am_run 169 72 [.ref 50, .null, .int day, .int (nI S), .int (nI (lowb S)), .int (encP (some (df * 100000 + w, p))), .int (encL (some (df * 100000 + w, p))), .int (encV (some (df * 100000 + w, p))), .int (nI (p + 1)), .null, .null] [] g
            rw [t1, t2, t3]
          | some z =>
            obtain ⟨z1, z2, z3⟩ := hub p z ha
            have ep : encP (some z) = nI z.2 := rfl
            have el : encL (some z) = nI (z.1 / 100000) := rfl
            have ev : encV (some z) = nI (z.1 % 100000) := rfl
            rw [ep, el, ev, if_neg (nI_nez (show z.2 ≠ 0 by omega) (by omega))]
            unfold upS
            by_cases a1 : df < z.1 / 100000
            · have hlt' : df * 100000 + w < z.1 := by omega
              obtain ⟨t1, t2, t3⟩ := take _ rfl
              rw [if_pos (nI_lt a1 (by omega))]
              simp only [hlt', if_true]
              rw [t1, t2, t3]
            · rw [if_neg (nI_nlt (by omega) (by omega))]
              by_cases a2 : df = z.1 / 100000
              · rw [if_pos (by rw [a2])]
                by_cases a3 : w < z.1 % 100000
                · have hlt' : df * 100000 + w < z.1 := by omega
                  obtain ⟨t1, t2, t3⟩ := take _ rfl
                  rw [if_pos (nI_lt a3 (by omega))]
                  simp only [hlt', if_true]
                  rw [t1, t2, t3]
                · have hlt' : ¬ df * 100000 + w < z.1 := by omega
                  rw [if_neg (nI_nlt (by omega) (by omega))]
                  simp only [hlt', if_false]
                  rw [ep, el, ev]
              · have hlt' : ¬ df * 100000 + w < z.1 := by omega
                rw [if_neg (fun z => a2 ((nI_eq (by omega) (by omega)).mp z))]
                simp only [hlt', if_false]
                rw [ep, el, ev]
    · have eg : gH R D Wt S p = none := by
        unfold gH
        have : cnd S p = false := by simpa using hcn
        rw [this]
        rfl
      rw [skip eg]
      by_cases a1 : p ^^^ (p &&& S) = 0
      · have hand : p &&& S = p := ((xor_zero_iff _ _).mp a1).symm
        have hl0 : p &&& lowb S = 0 := by
          unfold cnd at hcn
          simp only [Bool.and_eq_true, bne_iff_ne, beq_iff_eq, not_and, Decidable.not_not] at hcn
          exact hcn hand
        rw [a1, if_pos nI_0, hl0, if_pos nI_0]
      · rw [if_neg (nI_nez a1 (by omega))]
end
end Half
