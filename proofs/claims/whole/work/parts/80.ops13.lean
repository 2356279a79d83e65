section Ops13
variable {n : Nat} {lk ln : Nat → Nat} {c : Nat} {mr : Nat → Nat} {t kc : Nat} {f g : Hp}
/-- the first that has p -/
def fsO (p : Nat → Bool) : Nat → Nat → Option Nat
  | 0, _ => none
  | d + 1, k => if p k then some k else fsO p d (k + 1)
theorem fsO_some {p : Nat → Bool} : ∀ {d k w : Nat}, fsO p d k = some w → p w = true ∧ w < k + d
  | 0, k, w, h => by cases h
  | d + 1, k, w, h => by
    rw [fsO] at h
    by_cases e : p k = true
    · rw [if_pos e] at h
      cases h
      exact ⟨e, by omega⟩
    · rw [if_neg e] at h
      have := fsO_some h
      exact ⟨this.1, by omega⟩
/-- a word that is free on a day -/
noncomputable def frB (f : Hp) (c : Nat) (day : Int32) (w : Nat) : Bool := stW (f 17) (f 18) (f 19) c w && decide (nI (ldF f w day) = 0)
theorem c_free (h : Iv n lk ln c mr t kc f) (day : Int32) : ∀ d w, w + d = 36 → am_run 96 2 [.ref 1, .int day, .int (nI w)] [] f = some (enc (-1) (fsO (frB f c day) d w), f) := by
  intro d
  induction d with
  | zero =>
    intro w hw
    have : w = 36 := by omega
    subst this
    rw [eX8_lowestFreeWord_2_1, if_neg (by decide)]; rfl
  | succ d ih =>
    intro w hw
    have hst : am_call 10 [.ref 16, .int (nI w)] f = some (bi (stW (f 17) (f 18) (f 19) c w), f) := c_allowsWord h.c3 h.c40 (by omega) h.nl
    rw [eX8_lowestFreeWord_2_1, if_pos (show nI w < (36 : Int32) from nI_lt (b := 36) (by omega) (by decide)), hst, am_cal_some, c_led (by omega), am_cal_some, nI_1, ih (w + 1) (by omega), fsO]
    unfold frB
    cases stW (f 17) (f 18) (f 19) c w with
    | false => rfl
    | true =>
      rw [bi_t, if_neg one_ne, Bool.true_and]
      by_cases e : nI (ldF f w day) = 0
      · rw [if_pos e, decide_eq_true e]; rfl
      · rw [if_neg e, decide_eq_false e]; rfl
theorem m_free (h : Iv n lk ln c mr t kc f) (me : ME f g) (day S' p' : Int32) : ∀ d w, w + d = 36 → am_run 169 217 [.ref 50, .null, .int day, .int S', .null, .int p', .null, .null, .int (nI w), .null, .null] [] g = match fsO (frB f c day) d w with
    | none => some (-3, g)
    | some y => am_run 169 262 [.ref 50, .null, .int day, .int S', .null, .int p', .null, .null, .int (nI y), .int 0, .null] [] g := by
  intro d
  induction d with
  | zero =>
    intro w hw
    have : w = 36 := by omega
    subst this
    rw [eX9_split_217_50, if_neg (by decide), if_pos (show nI 36 = (36 : Int32) from rfl)]; rfl
  | succ d ih =>
    intro w hw
    rw [eX9_split_217_50, if_pos (show nI w < (36 : Int32) from nI_lt (b := 36) (by omega) (by decide)), h.e_stand me (by omega), am_cal_some, h.e_led me (by omega), am_cal_some, nI_1, ih (w + 1) (by omega), if_neg (show ¬ nI w = (36 : Int32) from fun z => by have := (nI_eq (b := 36) (by omega) (by decide)).mp z; omega)]
    rw [fsO]
    unfold frB
    cases stW (f 17) (f 18) (f 19) c w with
    | false =>
      rw [bi_f, if_pos rfl, Bool.false_and]
      rfl
    | true =>
      rw [bi_t, if_neg one_ne, Bool.true_and]
      by_cases e : nI (ldF f w day) = 0
      · rw [if_pos e, decide_eq_true e]; rfl
      · rw [if_neg e, decide_eq_false e]; rfl
theorem led_bit {w u : Nat → Int32} {x day : Int32} {m s : Nat} (hs : s < m) (hp : ledP w u x day s = true) : ∀ k, s < k → (ledS w u x day m k).testBit s = true
  | 0, h => absurd h (Nat.not_lt_zero _)
  | k + 1, h => by
    rw [ledS]
    by_cases e : s = k
    · subst e
      rw [if_pos hp, Nat.testBit_or]
      have : (wSet w (w s) m).testBit s = true := by
        unfold wSet
        rw [setOf_bit, decide_eq_true hs, decide_eq_true rfl]; rfl
      rw [this, Bool.or_true]
    · have ih := led_bit (w := w) (u := u) (x := x) (day := day) hs hp k (by omega)
      split
      · rw [Nat.testBit_or, ih, Bool.true_or]
      · exact ih
/-- a word that is free is no side's -/
theorem free_ne (h : Iv n lk ln c mr t kc f) {y : Nat} (hy : y < 36) {day : Int32} (hf : frB f c day y = true) : ∀ s, s < 9 → f 38 s ≠ nI y := by
  intro s hs e
  unfold frB at hf
  simp only [Bool.and_eq_true, decide_eq_true_eq] at hf
  have hb := led_bit (w := f 38) (u := fun s => f 39 (s * 36 + y)) (x := nI y) (day := day) (m := 9) hs (by unfold ledP; rw [decide_eq_true e]; rfl) 9 hs
  have hl : ∀ k, ledS (f 38) (fun s => f 39 (s * 36 + y)) (nI y) day 9 k < 2 ^ 9 := by
    intro k
    induction k with
    | zero => exact Nat.two_pow_pos 9
    | succ k ih =>
      rw [ledS]
      split
      · exact Nat.or_lt_two_pow ih (wSet_lt _ _ 9)
      · exact ih
  have hz : ledS (f 38) (fun s => f 39 (s * 36 + y)) (nI y) day 9 9 = 0 := by
    have h9 := hl 9
    have h0 : nI (ledS (f 38) (fun s => f 39 (s * 36 + y)) (nI y) day 9 9) = nI 0 := hf.2
    exact (nI_eq (by omega) (by omega)).mp h0
  rw [hz, Nat.zero_testBit] at hb
  cases hb
theorem m_spL {W : Nat → Int32} {U : Nat → Nat → Int32} {la : Int32} {Q y : Nat} {S' p' : Int32} (h9 : n ≤ 9) (hQ : Q < 2 ^ n) (hQe : S' &&& (p' ^^^ (-1)) = nI Q) (hy : y < 36) (hW : okW W) (day : Int32) (hla : day + vO f c 2 day = la) : ∀ d s g, s + d = n → g 50 0 = nI n → OV f c g → MT (rnW W (Q &&& (2 ^ s - 1)) (nI y)) (rnV W U (Q &&& (2 ^ s - 1)) (nI y) la) g → ∃ g1, am_run 169 262 [.ref 50, .null, .int day, .int S', .null, .int p', .null, .null, .int (nI y), .int (nI s), .null] [] g = some (nI y, am_up g1 62 0 day) ∧ FrM g g1 ∧ MT (rnW W Q (nI y)) (rnV W U Q (nI y) la) g1 := by
  have h5 := pow9 h9
  intro d
  induction d with
  | zero =>
    intro s g hs h0 hov hc
    have : s = n := by omega
    subst this
    rw [rn_all hQ] at hc
    refine ⟨g, ?_, FrM.refl g, hc⟩
    have z62 : ∀ (x : Int32) (c : Hp → Option Rs), am_ast g 62 3 0 x c = c (am_up g 62 0 x) := fun x c => am_ast_in (j := 0) _ _ _ c (by decide) (by decide)
    rw [eX9_split_262_50, h0, if_neg (nI_nlt (Nat.le_refl _) (by omega)), z62]
  | succ d ih =>
    intro s g hs h0 hov hc
    rw [eX9_split_262_50, h0, if_pos (nI_lt (by omega) (by omega)), hQe, m_has (by omega) (by omega), am_cal_some, nI_1]
    cases hb : Q.testBit s with
    | false =>
      rw [bi_f, if_pos rfl]
      exact ih (s + 1) g (by omega) h0 hov (by rw [rn_skip hb]; exact hc)
    | true =>
      rw [bi_t, if_neg one_ne]
      obtain ⟨g1, a1, a2, a3, a4, a5⟩ := m_get (o := vO f c 2 day) hov hc (rnW_ok hW hy) (show s < 9 by omega) (nI y) day rfl
      rw [a1, am_cal_some]
      rw [hla] at a3
      have fr : FrM g g1 := ⟨a2, a4, a5⟩
      obtain ⟨g', b1, b2, b3⟩ := ih (s + 1) g1 (by omega) (by rw [a2 50 (by decide) (by decide)]; exact h0) (hov.fr fr) (a3.congr (fun x _ => (rnW_step W Q s (nI y) hb (low_bits Q s) x).symm) (fun x v _ _ => (rnV_step W U Q s (nI y) la hb x v).symm))
      exact ⟨g', b1, fr.trans b2, b3⟩
/-- the town behind a split -/
theorem sp_town {ww : Nat → Nat} {w : Nat → Int32} {a p y : Nat} (hTW : TW n ww w) (ha : a < n) (h9 : n ≤ 9) (hp : ∀ v, p.testBit v = true → (cdS n ww (ww a)).testBit v = true) (hy : y < 36) (hfree : ∀ s, s < n → ww s ≠ y) : TW n (fun s => if (cdS n ww (ww a) ^^^ p).testBit s then y else ww s) (rnW w (cdS n ww (ww a) ^^^ p) (nI y)) ∧ ∀ s, s < n → cdS n (fun s => if (cdS n ww (ww a) ^^^ p).testBit s then y else ww s) (if (cdS n ww (ww a) ^^^ p).testBit s then y else ww s) = (if (cdS n ww (ww a) ^^^ p).testBit s then cdS n ww (ww a) ^^^ p else if ww s = ww a then p else cdS n ww (ww s)) := by
  have hQ : ∀ v, (cdS n ww (ww a) ^^^ p).testBit v = true → v < n ∧ ww v = ww a := fun v hv => by
    rw [Nat.testBit_xor] at hv
    cases hx : p.testBit v with
    | true =>
      have := hp v hx
      rw [this, hx] at hv
      cases hv
    | false =>
      rw [hx, Bool.xor_false, cd_bit] at hv
      simpa using hv
  have hpn : ∀ v, p.testBit v = true → v < n ∧ ww v = ww a := fun v hv => by
    have := hp v hv
    rw [cd_bit] at this
    simpa using this
  refine ⟨⟨fun s hs => ?_, fun s h1 h2 => ?_⟩, fun s hs => ?_⟩
  · unfold rnW
    show (if (cdS n ww (ww a) ^^^ p).testBit s = true then nI y else w s) = nI (if (cdS n ww (ww a) ^^^ p).testBit s = true then y else ww s) ∧ (if (cdS n ww (ww a) ^^^ p).testBit s = true then y else ww s) < 36
    cases (cdS n ww (ww a) ^^^ p).testBit s with
    | true => exact ⟨rfl, hy⟩
    | false => exact hTW.1 s hs
  · unfold rnW
    cases hx : (cdS n ww (ww a) ^^^ p).testBit s with
    | true => have := (hQ s hx).1; omega
    | false => exact hTW.2 s h1 h2
  · apply Nat.eq_of_testBit_eq
    intro v
    rw [cd_bit]
    show (decide (v < n) && decide ((if (cdS n ww (ww a) ^^^ p).testBit v then y else ww v) = _)) = _
    cases hs1 : (cdS n ww (ww a) ^^^ p).testBit s with
    | true =>
      simp only [if_true]
      cases hv1 : (cdS n ww (ww a) ^^^ p).testBit v with
      | true => rw [decide_eq_true (hQ v hv1).1]; simp
      | false =>
        by_cases hv : v < n
        · have := hfree v hv
          simp [this]
        · simp [hv]
    | false =>
      simp only [Bool.false_eq_true, if_false]
      by_cases e : ww s = ww a
      · rw [if_pos e]
        cases hv1 : (cdS n ww (ww a) ^^^ p).testBit v with
        | true =>
          have h1 : p.testBit v = false := by
            cases hx : p.testBit v with
            | false => rfl
            | true =>
              rw [Nat.testBit_xor, hp v hx, hx] at hv1
              cases hv1
          have h2 : ¬ y = ww s := fun z => hfree s hs z.symm
          rw [h1]
          simp [h2]
        | false =>
          by_cases hv : v < n
          · have h3 : p.testBit v = (cdS n ww (ww a)).testBit v := by
              rw [Nat.testBit_xor] at hv1
              cases hx : p.testBit v <;> cases hz : (cdS n ww (ww a)).testBit v <;> rw [hx, hz] at hv1 <;> first | rfl | cases hv1
            rw [h3, cd_bit, e]
            simp
          · have h4 : p.testBit v = false := by
              cases hx : p.testBit v with
              | false => rfl
              | true => have := (hpn v hx).1; omega
            rw [h4]
            simp [hv]
      · rw [if_neg e, cd_bit]
        cases hv1 : (cdS n ww (ww a) ^^^ p).testBit v with
        | true =>
          have h1 := (hQ v hv1).2
          have h2 : ¬ y = ww s := fun z => hfree s hs z.symm
          have h3 : ¬ ww v = ww s := fun z => e (z.symm.trans h1)
          simp [h2, h3]
        | false => simp
theorem op_split (h : Iv n lk ln c mr t kc f) (a1 a2 : Int32) : OP 88 169 [.int a1, .int a2] f := by
  by_cases e1 : wi a1 0 (nI n - 1) = true
  case neg =>
    have e1 : wi a1 0 (nI n - 1) = false := by simpa using e1
    exact OP.same h (r := -1) (by rw [eX8_split_1, c_isSide, h.n7, am_cal_some, e1, bi_f, if_pos rfl]) (by rw [eX9_split_50, m_isSide, h.n0, am_cal_some, e1, bi_f, if_pos rfl])
  by_cases e2 : wi a2 0 14600 = true
  case neg =>
    have e2 : wi a2 0 14600 = false := by simpa using e2
    exact OP.same h (r := -1) (by rw [eX8_split_1, c_isSide, h.n7, am_cal_some, e1, bi_t, if_neg one_ne, c_isDay, am_cal_some, e2, bi_f, if_pos rfl]) (by rw [eX9_split_50, m_isSide, h.n0, am_cal_some, e1, bi_t, if_neg one_ne, m_isDay, am_cal_some, e2, bi_f, if_pos rfl])
  obtain ⟨a, ha, rfl⟩ := wi_side h.n9 e1
  obtain ⟨d, hd, rfl⟩ := wi_day e2
  have h9 := h.n9
  have h5 := pow9 h9
  have w0 := h.w0 ha
  by_cases e3 : f 37 4 < 0
  · have ea : f 38 a < 0 := by rw [decide_eq_true e3] at w0; exact of_decide_eq_true w0
    refine OP.same h (r := -2) ?_ ?_
    · rw [eX8_split_1, c_isSide, h.n7, am_cal_some, e1, bi_t, if_neg one_ne, c_isDay, am_cal_some, e2, bi_t, if_neg one_ne, c_isGiven, am_cal_some, decide_eq_true e3, Bool.not_true, bi_f, if_pos rfl]
    · rw [eX9_split_50, m_isSide, h.n0, am_cal_some, e1, bi_t, if_neg one_ne, m_isDay, am_cal_some, e2, bi_t, if_neg one_ne, am_ald_in _ _ _ (show a < 27 by omega) (by decide), h.tw a (by omega), if_pos ea]
  have ea : ¬ f 38 a < 0 := by rw [decide_eq_false e3] at w0; exact of_decide_eq_false w0
  by_cases e4 : nI d < f 37 4
  · refine OP.same h (r := -2) ?_ ?_
    · rw [eX8_split_1, c_isSide, h.n7, am_cal_some, e1, bi_t, if_neg one_ne, c_isDay, am_cal_some, e2, bi_t, if_neg one_ne, c_isGiven, am_cal_some, decide_eq_false e3, Bool.not_false, bi_t, if_neg one_ne, if_pos e4]
    · rw [eX9_split_50, m_isSide, h.n0, am_cal_some, e1, bi_t, if_neg one_ne, m_isDay, am_cal_some, e2, bi_t, if_neg one_ne, am_ald_in _ _ _ (show a < 27 by omega) (by decide), h.tw a (by omega), if_neg ea, ald_0 _ _ _ (by decide) (by decide), h.tl, if_pos e4]
  rcases h.gv with ⟨z, -⟩ | ⟨-, ww, ed, dl, hg⟩
  · exact absurd z e3
  obtain ⟨a1', a2'⟩ := hg.2.1.1 a ha
  have a1' : f 38 a = nI (ww a) := a1'
  have hTW : TW n ww (f 38) := hg.2.1
  have cda : am_call 47 [.ref 37, .int (nI a)] f = some (nI (cdS n ww (ww a)), f) := by rw [c_codeOf (by omega), a1', if_neg (nI_pos (by omega)), TW_cd hTW h9 a2']
  have pa := cd_pos (ww := ww) ha
  have la := cd_lt n ww (ww a)
  -- halves
  have hRW : ∀ p, 1 ≤ p → p < 2 ^ n → Rd (f 3) (f 4) (f 17) (f 18) (f 19) n c lk ln (nI d) p = true → WS lk ln n p = some (Wd lk ln n p) ∧ Wd lk ln n p < 9000 := fun p _ h2 hr => ⟨Rd_W hr, WS_lt2 h9 h.lb h.nb (show p < 512 by omega) _ (Rd_W hr)⟩
  have hDn := fun p => (dNo_ok (n := n) (p := p) h.1.2.2.2 hd h9).2
  have hHH : HH n lk ln c mr t kc (Rd (f 3) (f 4) (f 17) (f 18) (f 19) n c lk ln (nI d)) (dNo f d n) (nI d) f := ⟨h, rfl, fun p _ => (dNo_ok h.1.2.2.2 hd h9).1⟩
  obtain ⟨g, g1, g2, g3⟩ := c_bestHalf (Wt := Wd lk ln n) hDn hRW pa la hHH
  have hgi := g2.1
  have gRd : Rd (g 3) (g 4) (g 17) (g 18) (g 19) n c lk ln (nI d) = Rd (f 3) (f 4) (f 17) (f 18) (f 19) n c lk ln (nI d) := g2.2.1
  have gD := g2.2.2
  have hgg : GvT n lk ln ww ed dl 37 g := by
    unfold GvT at hg ⊢
    simp only [Nat.reduceAdd] at hg ⊢
    rw [g3.2.2.1 37 (by decide), g3.2.2.1 38 (by decide), g3.2.2.1 40 (by decide)]
    exact hg
  have g38 : g 38 a = nI (ww a) := by rw [g3.2.2.1 38 (by decide)]; exact a1'
  -- what the reference does up to its halves, on any heap with these cells
  have hM : ∀ G, ME g G → ∃ k, (∀ q, q ≠ 65 → k q = G q) ∧ ME g k ∧ am_call 169 [.ref 50, .int (nI a), .int (nI d)] G = (if encP (upF (gH (Rd (f 3) (f 4) (f 17) (f 18) (f 19) n c lk ln (nI d)) (dNo f d n) (Wd lk ln n) (cdS n ww (ww a))) (cdS n ww (ww a))) = 0 then some (-2, k) else am_run 169 217 [.ref 50, .null, .int (nI d), .int (nI (cdS n ww (ww a))), .null, .int (encP (upF (gH (Rd (f 3) (f 4) (f 17) (f 18) (f 19) n c lk ln (nI d)) (dNo f d n) (Wd lk ln n) (cdS n ww (ww a))) (cdS n ww (ww a)))), .null, .null, .int 0, .null, .null] [] k) := by
    intro G me
    obtain ⟨k, k1, k2, k3, k4⟩ := hgi.e_layFrom me
    refine ⟨k, k2, k4, ?_⟩
    have G60 : G 60 a = nI (ww a) := by rw [me.1 60 (by decide) (by decide), hgi.tw a (by omega)]; exact g38
    have k60 : k 60 a = nI (ww a) := by rw [k4.1 60 (by decide) (by decide), hgi.tw a (by omega)]; exact g38
    have G62 : G 62 0 = f 37 4 := by rw [me.1 62 (by decide) (by decide), hgi.tl, g3.2.2.1 37 (by decide)]
    have cdk : am_call 164 [.ref 50, .int (nI (ww a))] k = some (nI (cdS n ww (ww a)), k) := by rw [hgi.e_codeOf k4 (nI_m1 (by omega)), TW_cd hgg.2.1 h9 a2']
    have hl := m_haL (Wt := Wd lk ln n) hDn hRW pa la hgi gRd gD k4 k3 (cdS n ww (ww a) - 1) 1 (by omega) (by omega)
    have hu1 : upF (gH (Rd (f 3) (f 4) (f 17) (f 18) (f 19) n c lk ln (nI d)) (dNo f d n) (Wd lk ln n) (cdS n ww (ww a))) 1 = none := by
      cases hx : upF (gH (Rd (f 3) (f 4) (f 17) (f 18) (f 19) n c lk ln (nI d)) (dNo f d n) (Wd lk ln n) (cdS n ww (ww a))) 1 with
      | none => rfl
      | some z =>
        obtain ⟨u1, u2, -⟩ := upF_some hx
        have := cnd_le (gH_cnd z.2 (by rw [u2]; exact fun w => by cases w))
        omega
    rw [hu1] at hl
    have hl : am_run 169 72 [.ref 50, .null, .int (nI d), .int (nI (cdS n ww (ww a))), .int (nI (lowb (cdS n ww (ww a)))), .int 0, .int 0, .int 0, .int 1, .null, .null] [] k = _ := hl
    rw [eX9_split_50, m_isSide, hgi.e_n me, am_cal_some, e1, bi_t, if_neg one_ne, m_isDay, am_cal_some, e2, bi_t, if_neg one_ne, am_ald_in _ _ _ (show a < 27 by omega) (by decide), G60, if_neg (nI_pos (by omega)), ald_0 _ _ _ (by decide) (by decide), G62, if_neg e4, k1, am_cal_some, am_ald_in _ _ _ (show a < 27 by omega) (by decide), k60, cdk, am_cal_some, lowI (by omega), hl, eX9_split_72_50, if_neg (nI_nlt (Nat.le_refl _) (by omega))]
  have hC0 : ∀ X, (am_call 88 [.ref 1, .int (nI a), .int (nI d)] f = X) = ((if encP (upF (gH (Rd (f 3) (f 4) (f 17) (f 18) (f 19) n c lk ln (nI d)) (dNo f d n) (Wd lk ln n) (cdS n ww (ww a))) (cdS n ww (ww a))) = 0 then some (-2, g) else am_cal (am_call 96 [.ref 1, .int (nI d)] g) fun x6 g6 => if x6 < 0 then some (-3, g6) else am_cal (am_call 93 [.ref 1, .int (nI (cdS n ww (ww a)) ^^^ encP (upF (gH (Rd (f 3) (f 4) (f 17) (f 18) (f 19) n c lk ln (nI d)) (dNo f d n) (Wd lk ln n) (cdS n ww (ww a))) (cdS n ww (ww a)))), .int x6, .int (nI d)] g6) fun _ g7 => some (x6, am_up g7 37 4 (nI d))) = X) := fun X => by
    rw [eX8_split_1, c_isSide, h.n7, am_cal_some, e1, bi_t, if_neg one_ne, c_isDay, am_cal_some, e2, bi_t, if_neg one_ne, c_isGiven, am_cal_some, decide_eq_false e3, Bool.not_false, bi_t, if_neg one_ne, if_neg e4, cda, am_cal_some, g1, am_cal_some]
  cases hz : upF (gH (Rd (f 3) (f 4) (f 17) (f 18) (f 19) n c lk ln (nI d)) (dNo f d n) (Wd lk ln n) (cdS n ww (ww a))) (cdS n ww (ww a)) with
  | none =>
    obtain ⟨k, k1, k2, k3⟩ := hM g (ME.of (fun _ _ => rfl))
    rw [hz, if_pos (show encP none = 0 from rfl)] at k3
    refine OP.ask hgi (h := k) (r := -2) ?_ k3 g3 (AgR.of (fun q hq => k1 q (fun z => hq (by rw [z]; decide))) (fun j _ => by rw [k1 50 (by decide)]))
    show am_call 88 [.ref 1, .int (nI a), .int (nI d)] f = _
    rw [hC0, hz, if_pos (show encP none = 0 from rfl)]
  | some z =>
    obtain ⟨u1, u2, -⟩ := upF_some hz
    have hcn := gH_cnd z.2 (by rw [u2]; exact fun w => by cases w)
    have hle := cnd_le hcn
    have hlt := cnd_lt hcn
    have hsub := cnd_sub hcn
    have hand := cnd_and hcn
    have ep : encP (some z) = nI z.2 := rfl
    have hne0 : ¬ nI z.2 = 0 := nI_nez (by omega) (by omega)
    have hRR : Rd (f 3) (f 4) (f 17) (f 18) (f 19) n c lk ln (nI d) z.2 = true ∧ Rd (f 3) (f 4) (f 17) (f 18) (f 19) n c lk ln (nI d) (cdS n ww (ww a) ^^^ z.2) = true := by
      unfold gH at u2
      split at u2
      · rename_i hcc
        simp only [Bool.and_eq_true] at hcc
        exact hcc.2.2
      · cases u2
    have xe : nI (cdS n ww (ww a)) ^^^ nI z.2 = nI (cdS n ww (ww a) ^^^ z.2) := nx_xor _ _
    have hfr := c_free hgi (nI d) 36 0 (by omega)
    have hfr : am_call 96 [.ref 1, .int (nI d)] g = some (enc (-1) (fsO (frB g c (nI d)) 36 0), g) := by rw [eX8_lowestFreeWord_1]; exact hfr
    cases hy : fsO (frB g c (nI d)) 36 0 with
    | none =>
      obtain ⟨k, k1, k2, k3⟩ := hM g (ME.of (fun _ _ => rfl))
      have hmf := m_free hgi k2 (nI d) (nI (cdS n ww (ww a))) (nI z.2) 36 0 (by omega)
      rw [hy] at hmf hfr
      have hmf : am_run 169 217 [.ref 50, .null, .int (nI d), .int (nI (cdS n ww (ww a))), .null, .int (nI z.2), .null, .null, .int 0, .null, .null] [] k = some (-3, k) := hmf
      rw [hz, ep, if_neg hne0, hmf] at k3
      refine OP.ask hgi (h := k) (r := -3) ?_ k3 g3 (AgR.of (fun q hq => k1 q (fun z => hq (by rw [z]; decide))) (fun j _ => by rw [k1 50 (by decide)]))
      show am_call 88 [.ref 1, .int (nI a), .int (nI d)] f = _
      rw [hC0, hz, ep, if_neg hne0, hfr, am_cal_some, enc_none, if_pos (by decide)]
    | some y =>
      obtain ⟨y1, y2⟩ := fsO_some hy
      have y36 : y < 36 := by omega
      rw [hy, enc_some] at hfr
      -- the class renames
      obtain ⟨G0, c1, c2, c3⟩ := c_renameAll (g := g) (S := cdS n ww (ww a) ^^^ z.2) (y := y) hgi.c3 h.c40 (by omega) y36 (nI d) hgi.okW (hgi.CT0 (fun q _ => rfl))
      have hC : am_call 88 [.ref 1, .int (nI a), .int (nI d)] f = some (nI y, am_up G0 37 4 (nI d)) := by
        rw [hC0, hz, ep, if_neg hne0, hfr, am_cal_some, if_neg (nI_pos (by omega)), xe, c1, am_cal_some]
      have hGG : ∀ q, q ∉ [37, 38, 39] → am_up G0 37 4 (nI d) q = g q := fun q hq => by
        simp only [List.mem_cons, List.not_mem_nil, or_false, not_or] at hq
        rw [am_up_ne hq.1, c2 q hq.2.1 hq.2.2]
      have hG3 : am_up G0 37 4 (nI d) 37 3 = g 37 3 := by rw [am_up_j (by decide), c2 37 (by decide) (by decide)]
      have hG4 : am_up G0 37 4 (nI d) 37 4 = nI d := am_up_same _ _ _ _
      have hGC : CT (rnW (g 38) (cdS n ww (ww a) ^^^ z.2) (nI y)) (rnV (g 38) (fun s x => g 39 (s * 36 + x)) (cdS n ww (ww a) ^^^ z.2) (nI y) (nI d + vO g c 2 (nI d))) (am_up G0 37 4 (nI d)) := ⟨fun s hs => by rw [am_up_ne (by decide)]; exact c3.1 s hs, fun s x hs hx => by rw [am_up_ne (by decide)]; exact c3.2 s x hs hx⟩
      generalize am_up G0 37 4 (nI d) = G at hC hGG hG3 hG4 hGC
      have me : ME g G := ME.of (fun q hq => hGG q (by simp only [List.mem_cons, List.not_mem_nil, or_false]; omega))
      -- the reference
      obtain ⟨k, k1, k2, k3⟩ := hM G me
      have hmf := m_free hgi k2 (nI d) (nI (cdS n ww (ww a))) (nI z.2) 36 0 (by omega)
      rw [hy] at hmf
      have hmf : am_run 169 217 [.ref 50, .null, .int (nI d), .int (nI (cdS n ww (ww a))), .null, .int (nI z.2), .null, .null, .int 0, .null, .null] [] k = am_run 169 262 [.ref 50, .null, .int (nI d), .int (nI (cdS n ww (ww a))), .null, .int (nI z.2), .null, .null, .int (nI y), .int 0, .null] [] k := hmf
      have hQe : nI (cdS n ww (ww a)) &&& (nI z.2 ^^^ (-1)) = nI (cdS n ww (ww a) ^^^ z.2) := by rw [andn, sub_and hand]
      obtain ⟨H1, r1, r2, r3⟩ := m_spL (f := g) (c := c) (W := g 38) (U := fun s x => g 39 (s * 36 + x)) (la := nI d + vO g c 2 (nI d)) h9 (show cdS n ww (ww a) ^^^ z.2 < 2 ^ n by omega) hQe y36 hgi.okW (nI d) rfl n 0 k (by omega) (hgi.e_n k2) (hgi.e_ov k2) ((hgi.MT0 k2).congr (fun s _ => (rn_none (g 38) (fun s x => g 39 (s * 36 + x)) (cdS n ww (ww a) ^^^ z.2) (nI y) 0).1 s) (fun s x _ _ => (rn_none (g 38) (fun s x => g 39 (s * 36 + x)) (cdS n ww (ww a) ^^^ z.2) (nI y) (nI d + vO g c 2 (nI d))).2 s x))
      have r1 : am_run 169 262 [.ref 50, .null, .int (nI d), .int (nI (cdS n ww (ww a))), .null, .int (nI z.2), .null, .null, .int (nI y), .int 0, .null] [] k = _ := r1
      rw [hz, ep, if_neg hne0, hmf, r1] at k3
      have hfree : ∀ s, s < n → ww s ≠ y := fun s hs e => by
        obtain ⟨s1, s2⟩ := hgg.2.1.1 s hs
        have s1 : g 38 s = nI (ww s) := s1
        exact free_ne hgi y36 y1 s (by omega) (by rw [s1, e])
      obtain ⟨hTW', hcd⟩ := sp_town (n := n) (ww := ww) (w := g 38) (a := a) (p := z.2) (y := y) hgg.2.1 ha h9 hsub y36 hfree
      have hHG : ∀ q, q < 50 ∨ q = 77 ∨ (51 ≤ q ∧ q ≤ 64 ∧ q ≠ 60 ∧ q ≠ 61 ∧ q ≠ 62) → am_up H1 62 0 (nI d) q = G q := fun q hq => by
        rw [am_up_ne (by omega), r2.1 q (by omega) (by omega), k1 q (by omega)]
      have hH50 : ∀ j, am_up H1 62 0 (nI d) 50 j = G 50 j := fun j => by
        rw [am_up_ne (by decide), r2.1 50 (by decide) (by decide), k1 50 (by decide)]
      refine OP.act hC k3 ⟨by rw [hGG 0 (by decide), g3.2.1], by rw [hGG 77 (by decide), g3.1 77 (by decide)]⟩ ⟨hHG 0 (by decide), hHG 77 (by decide)⟩ (hgi.acted (G := G) (d := d) (ww' := fun s => if (cdS n ww (ww a) ^^^ z.2).testBit s then y else ww s) hGG hG3 hG4 hd hGC (fun q hq => hHG q (Or.inl hq)) (hH50 0) (hH50 6) (hH50 16) (fun q h1 h2 h3 => hHG q (Or.inr (Or.inr ?_))) (fun j hj => ?_) (fun j hj => ?_) (fun j hj => ?_) (am_up_same _ _ _ _) ?_ hg.1 hTW' (fun s hs => ?_))
      · simp only [List.mem_cons, List.not_mem_nil, or_false, not_or] at h3
        omega
      · rw [am_up_ne (by decide), r2.2.1 j hj, k1 60 (by decide)]
      · rw [am_up_ne (by decide), r2.2.2 j hj, k1 61 (by decide)]
      · rw [am_up_j (by omega), r2.1 62 (by decide) (by decide), k1 62 (by decide)]
      · exact ⟨fun s hs => by rw [am_up_ne (by decide)]; exact r3.1 s hs, fun s x hs hx => by rw [am_up_ne (by decide)]; exact r3.2 s x hs hx⟩
      · have := hcd s hs
        show WS lk ln n (cdS n (fun s => if (cdS n ww (ww a) ^^^ z.2).testBit s then y else ww s) (if (cdS n ww (ww a) ^^^ z.2).testBit s then y else ww s)) ≠ none
        rw [this]
        split
        · exact Rd_some hRR.2
        · split
          · exact Rd_some hRR.1
          · exact hg.2.2.2.2.2.2.1 s hs
end Ops13

