section Help
theorem one_ne : ¬ (1 : Int32) = 0 := by decide
theorem wi_nat {a : Int32} {lo hi : Nat} (hlo : lo < 2 ^ 31) (hhi : hi < 2 ^ 31) (h : wi a (nI lo) (nI hi) = true) : ∃ s, lo ≤ s ∧ s ≤ hi ∧ a = nI s := by
  unfold wi at h
  simp only [Bool.and_eq_true, decide_eq_true_eq] at h
  have h0 : ¬ a < 0 := by
    intro z
    have z1 := (fa_lt _ _).mp z
    have z2 := (fa_le _ _).mp h.1
    rw [nI_toInt hlo] at z2
    have : (0 : Int32).toInt = 0 := rfl
    omega
  obtain ⟨j, hj, rfl⟩ := nI_of h0
  exact ⟨j, (nI_leI hlo hj).mp h.1, (nI_leI hj hhi).mp h.2, rfl⟩
theorem wi_nI {s lo hi : Nat} (hlo : lo < 2 ^ 31) (hhi : hi < 2 ^ 31) (hs : s < 2 ^ 31) : wi (nI s) (nI lo) (nI hi) = (decide (lo ≤ s) && decide (s ≤ hi)) := by
  unfold wi
  congr 1
  · exact decide_eq_decide.mpr (nI_leI hlo hs)
  · exact decide_eq_decide.mpr (nI_leI hs hhi)
theorem wi_side {a : Int32} {n : Nat} (h9 : n ≤ 9) (h : wi a 0 (nI n - 1) = true) : ∃ s, s < n ∧ a = nI s := by
  cases n with
  | zero =>
    unfold wi at h
    simp only [Bool.and_eq_true, decide_eq_true_eq] at h
    have h1 := (fa_le _ _).mp h.1
    have h2 := (fa_le _ _).mp h.2
    have e1 : (0 : Int32).toInt = 0 := rfl
    have e2 : (nI 0 - 1 : Int32).toInt = -1 := by decide
    omega
  | succ m =>
    rw [nI_pred] at h
    obtain ⟨s, -, s2, s3⟩ := wi_nat (lo := 0) (hi := m) (by omega) (by omega) h
    exact ⟨s, by omega, s3⟩
theorem wi_shape {a : Int32} {n : Nat} (h9 : n ≤ 9) (h : wi a 1 (nI (2 ^ n - 1)) = true) : ∃ S, 1 ≤ S ∧ S < 2 ^ n ∧ a = nI S := by
  have h5 := pow9 h9
  have h6 := Nat.two_pow_pos n
  obtain ⟨s, s1, s2, s3⟩ := wi_nat (lo := 1) (hi := 2 ^ n - 1) (by omega) (by omega) h
  exact ⟨s, s1, by omega, s3⟩
theorem wi_day {a : Int32} (h : wi a 0 14600 = true) : ∃ d, d ≤ 14600 ∧ a = nI d := by
  obtain ⟨s, -, s2, s3⟩ := wi_nat (lo := 0) (hi := 14600) (by omega) (by omega) h
  exact ⟨s, s2, s3⟩
theorem wi_word {a : Int32} (h : wi a 0 35 = true) : ∃ d, d < 36 ∧ a = nI d := by
  obtain ⟨s, -, s2, s3⟩ := wi_nat (lo := 0) (hi := 35) (by omega) (by omega) h
  exact ⟨s, by omega, s3⟩
theorem nn_of {a : Int32} (h : ¬ a < 0) : ∃ j : Nat, j < 2 ^ 31 ∧ a = nI j := nI_of h
variable {n : Nat} {lk ln : Nat → Nat} {c : Nat} {mr : Nat → Nat} {t kc : Nat} {f g : Hp}
theorem IC.keepW (h : IC n lk ln c mr f) (hW : WC n lk ln g) (hc : ∀ q, q ∈ [3, 4, 17, 18, 19, 22, 23, 24, 26, 27, 32, 36] → g q = f q) : IC n lk ln c mr g := by
  unfold IC SV WV shO
  rw [hc 3 (by decide), hc 4 (by decide), hc 17 (by decide), hc 18 (by decide), hc 19 (by decide), hc 22 (by decide), hc 23 (by decide), hc 24 (by decide), hc 26 (by decide), hc 27 (by decide), hc 32 (by decide), hc 36 (by decide)]
  exact ⟨hW, h.2⟩
theorem Iv.waI (h : Iv n lk ln c mr t kc f) : Iv n lk ln c mr t kc (wa f) ∧ AgC f (wa f) := by
  obtain ⟨-, w1, w2, w3⟩ := wa_ok h.cs h.wc
  have w2' : ∀ q, q ∉ [2, 8, 9] → wa f q = f q := fun q hq => by
    simp only [List.mem_cons, List.not_mem_nil, or_false, not_or] at hq
    exact w2 q hq.1 hq.2.1 hq.2.2
  have ag : AgC f (wa f) := AgC.of (fun q hq => w2' q (fun z => hq (by
    simp only [List.mem_cons, List.not_mem_nil, or_false] at z ⊢
    omega))) w3
  refine ⟨h.cls ag (h.C.keepW (Or.inr w1) (fun q hq => w2' q (fun z => ?_))), ag⟩
  simp only [List.mem_cons, List.not_mem_nil, or_false] at z hq
  omega
theorem Iv.layFrom (h : Iv n lk ln c mr t kc f) : ∃ g, am_call 129 [.ref 50] f = some (0, g) ∧ AgR f g ∧ TOK lk n (g 65) (2 ^ n) ∧ ∀ q, q ≠ 65 → g q = f q := by
  obtain ⟨T, t1, t2⟩ := m_layFrom h.n0 h.n9 h.ms.2.2.1 h.lb
  refine ⟨_, t1, AgR.of (fun q hq => setC_ne (fun z => hq (by rw [z]; decide))) (fun j _ => by rw [setC_ne (by decide)]), by rw [setC_eq]; exact t2, fun q hq => setC_ne hq⟩
theorem Iv.walkOf (h : Iv n lk ln c mr t kc f) (hT : TOK lk n (f 65) (2 ^ n)) {S : Nat} (h1 : 1 ≤ S) (hS : S < 2 ^ n) : am_call 130 [.ref 50, .int (nI S)] f = some (enc (-4) (WS lk ln n S), f) := m_walkOf h.n0 h.n9 h.lb h.ms.2.2.2.2.1 h.nb hT h1 hS
theorem Iv.leastWalk (h : Iv n lk ln c mr t kc f) {S : Nat} (h1 : 1 ≤ S) (hS : S < 2 ^ n) : am_call 34 [.ref 2, .int (nI S)] f = some (encW 0 (WS lk ln n S), wa f) := c_leastWalk h.cs h.wc h1 hS
theorem Iv.c_right (h : Iv n lk ln c mr t kc f) {S : Nat} (h1 : 1 ≤ S) (hS : S < 2 ^ n) (day : Int32) : am_call 22 [.ref 22, .int (nI S), .int day] f = some (bi (Rd (f 3) (f 4) (f 17) (f 18) (f 19) n c lk ln day S), wa f) := c_isRight h.cs h.wc h1 hS day
theorem Iv.m_right (h : Iv n lk ln c mr t kc f) (hT : TOK lk n (f 65) (2 ^ n)) {S : Nat} (h1 : 1 ≤ S) (hS : S < 2 ^ n) (day : Int32) : am_call 147 [.ref 50, .int (nI S), .int day] f = some (bi (Rd (f 3) (f 4) (f 17) (f 18) (f 19) n c lk ln day S), f) := by
  rw [← h.RdI day]
  exact m_isRight h.ms hT h1 hS day
/-- a number of the rules -/
def vO (f : Hp) (c : Nat) (w day : Int32) : Int32 := valO w (f 18) (lastIx (pIt (letC w) day (f 17) (f 19)) c)
theorem Iv.lastI (h : Iv n lk ln c mr t kc f) (lt day : Int32) : lastIx (pIt lt day (fun k => f 58 (150 + 3 * k)) (fun k => f 58 (152 + 3 * k))) c = lastIx (pIt lt day (f 17) (f 19)) c := lastIx_congr fun k hk => by
  obtain ⟨e1, -, e3⟩ := h.it3 k hk
  unfold pIt
  rw [e1, e3]
theorem Iv.c_val (h : Iv n lk ln c mr t kc f) (w day : Int32) : am_call 7 [.ref 16, .int w, .int day] f = some (vO f c w day, f) := c_valueOn h.c3 h.c40 w day
theorem Iv.m_val (h : Iv n lk ln c mr t kc f) (w day : Int32) : am_call 142 [.ref 50, .int w, .int day] f = some (vO f c w day, f) := by
  rw [m_ruleOf h.c1 h.c40, h.lastI]
  unfold vO
  cases hl : lastIx (pIt (letC w) day (f 17) (f 19)) c with
  | none => rfl
  | some k =>
    obtain ⟨k1, -⟩ := lastIx_lt hl
    show some (f 58 (151 + 3 * k), f) = some (f 18 k, f)
    rw [(h.it k k1).2.1]
theorem c_isGiven (f : Hp) : am_call 44 [.ref 37] f = some (bi (!decide (f 37 4 < 0)), f) := by
  rw [eX6_isGiven_37]
  by_cases e : f 37 4 < 0
  · rw [if_pos e, am_z0, decide_eq_true e]; rfl
  · rw [if_neg e, am_z1, decide_eq_false e]; rfl
/-- blank or given -/
theorem Iv.gv (h : Iv n lk ln c mr t kc f) : (f 37 4 < 0 ∧ Blk 37 f) ∨ (¬ f 37 4 < 0 ∧ ∃ ww e d, GvT n lk ln ww e d 37 f) := by
  rcases h.ts with hb | ⟨ww, e, d, hg⟩
  · refine Or.inl ⟨?_, hb⟩
    rw [hb.2.2]
    decide
  · refine Or.inr ⟨?_, ww, e, d, hg⟩
    rw [hg.2.2.2.2.1]
    have := hg.2.2.2.2.2.1
    exact nI_pos (by omega)
/-- behind the sides there is no word -/
theorem Iv.tm (h : Iv n lk ln c mr t kc f) : ∀ s, n ≤ s → s < 9 → f 38 s = -1 := by
  rcases h.ts with hb | ⟨ww, e, d, hg⟩
  · exact fun s _ hs => hb.1 s hs
  · exact hg.2.1.2
/-- a word, or none -/
theorem Iv.tv (h : Iv n lk ln c mr t kc f) : ∀ s, s < 9 → (f 38 s < 0 ∧ f 38 s = -1) ∨ (¬ f 38 s < 0 ∧ ∃ w, w < 36 ∧ f 38 s = nI w) := by
  intro s hs
  rcases h.ts with hb | ⟨ww, e, d, hg⟩
  · have := hb.1 s hs
    exact Or.inl ⟨by rw [this]; decide, this⟩
  · by_cases e : s < n
    · obtain ⟨s1, s2⟩ := hg.2.1.1 s e
      have s1 : f 38 s = nI (ww s) := s1
      exact Or.inr ⟨by rw [s1]; exact nI_pos (by omega), ww s, s2, s1⟩
    · have : f 38 s = -1 := hg.2.1.2 s (by omega) hs
      exact Or.inl ⟨by rw [this]; decide, this⟩
theorem Iv.cod (h : Iv n lk ln c mr t kc f) {x : Int32} (hx : x ≠ -1) : wSet (f 60) x n = wSet (f 38) x 9 := by
  have h9 := h.n9
  rw [wSet_more h9 h.tm hx]
  exact wSet_congr fun s hs => h.tw s (by omega)
theorem Iv.led (h : Iv n lk ln c mr t kc f) {w : Nat} (hw : w < 36) (day : Int32) : ledS (f 60) (fun s => f 61 (9 * w + s)) (nI w) day n n = ledS (f 38) (fun s => f 39 (s * 36 + w)) (nI w) day 9 9 := by
  have h9 := h.n9
  have hcase : ∀ s, s < n → 0 ≤ f 60 s ∨ f 60 s = -1 := fun s hs => by
    rw [h.tw s (by omega)]
    rcases h.tv s (by omega) with ⟨-, e⟩ | ⟨-, w, w1, e⟩
    · exact Or.inr e
    · exact Or.inl (by rw [e]; exact nI_pos' (by omega))
  refine (ledS_eq h9 (fun s hs => (h.tw s (by omega)).symm) h.tm (fun s hs => (h.tu s w (by omega) hw).symm) (nI_m1 (by omega)) (fun s hs hv => ?_) hcase).symm
  rcases hcase s hs with e | e
  · exact absurd hv (Int32.not_lt.mpr e)
  · exact e
theorem m_areG : ∀ d i b, i + d = n → n ≤ 9 → f 50 0 = nI n → am_run 123 4 [.ref 50, .int (bi b), .int (nI i)] [] f = some (bi (b || exR (fun s => !decide (f 60 s < 0)) d i), f) := by
  intro d
  induction d with
  | zero =>
    intro i b hi h9 h0
    rw [eX9_areGiven_4_50, h0, if_neg (nI_nlt (by omega) (by omega)), am_z_bi]
    simp [exR]
  | succ d ih =>
    intro i b hi h9 h0
    rw [eX9_areGiven_4_50, h0, if_pos (nI_lt (by omega) (by omega)), am_ald_in _ _ _ (show i < 27 by omega) (by decide), nI_1]
    have i0 := ih (i + 1) false (by omega) h9 h0
    have i1 := ih (i + 1) true (by omega) h9 h0
    rw [bi_f] at i0
    rw [bi_t] at i1
    cases b with
    | true => rw [bi_t, if_neg one_ne, i1]; simp
    | false =>
      rw [bi_f, if_pos rfl]
      by_cases e : f 60 i < 0
      · rw [if_pos e, i0, exR, decide_eq_true e]; simp
      · rw [if_neg e, i1, exR, decide_eq_false e]; simp
theorem Iv.areGiven (h : Iv n lk ln c mr t kc f) : am_call 123 [.ref 50] f = some (bi (!decide (f 37 4 < 0)), f) := by
  have h9 := h.n9
  have key : am_run 123 4 [.ref 50, .int 0, .int 0] [] f = _ := m_areG (f := f) n 0 false (by omega) h.n9 h.n0
  rw [eX9_areGiven_50, key, Bool.false_or]
  congr 2
  rcases h.gv with ⟨e, hb⟩ | ⟨e, ww, ed, d, hg⟩
  · rw [decide_eq_true e]
    have : ∀ d i, i + d = n → exR (fun s => !decide (f 60 s < 0)) d i = false := by
      intro d
      induction d with
      | zero => intro i _; rfl
      | succ d ih =>
        intro i hi
        rw [exR, ih (i + 1) (by omega), h.tw i (by omega), hb.1 i (by omega)]
        rfl
    rw [this n 0 (by omega)]; rfl
  · rw [decide_eq_false e]
    obtain ⟨m, rfl⟩ : ∃ m, n = m + 1 := ⟨n - 1, by have := hg.1; omega⟩
    obtain ⟨s1, s2⟩ := hg.2.1.1 0 (by omega)
    have s1 : f 38 0 = nI (ww 0) := s1
    rw [exR, h.tw 0 (by omega), s1, decide_eq_false (nI_pos (by omega))]; rfl
/-- what the class shapes -/
theorem Iv.shapeOn (h : Iv n lk ln c mr t kc f) {d : Nat} (hd : d ≤ 14600) : ∃ g, am_call 23 [.ref 22, .int (nI d)] f = some (0, g) ∧ Iv n lk ln c mr t kc g ∧ AgC f g ∧ SV (Rd (f 3) (f 4) (f 17) (f 18) (f 19) n c lk ln (nI d)) (Wd lk ln n) n g ∧ (∀ q, q ∉ [2, 8, 9, 22, 23, 24, 25, 26] → g q = f q) := by
  obtain ⟨g, g1, g2, g3, g4, g5, g6, g7, g8, g9⟩ := c_shapeOn h.cs h.wc h.C.2.1 (fun e => h.C.2.2.2.1 d hd e)
  have ag : AgC f g := AgC.of (fun q hq => g4 q (fun z => hq (by
    simp only [List.mem_cons, List.not_mem_nil, or_false] at z ⊢
    omega))) g5
  refine ⟨g, g1, h.cls ag ⟨g3, g8, by rw [g4 36 (by decide)]; exact h.C.2.2.1, fun d' hd' e => ?_, fun d' l hd' h2 h4 e1 e2 => ?_⟩, ag, g9, g4⟩
  · rw [g7] at e
    have : d = d' := (nI_eq (by omega) (by omega)).mp e
    subst this
    rw [g4 3 (by decide), g4 4 (by decide), g4 17 (by decide), g4 18 (by decide), g4 19 (by decide)]
    exact g9
  · rw [g4 27 (by decide)] at e1 e2
    have := h.C.2.2.2.2 d' l hd' h2 h4 e1 e2
    unfold shO at this ⊢
    rw [g4 3 (by decide), g4 4 (by decide), g4 17 (by decide), g4 18 (by decide), g4 19 (by decide)]
    exact this.keep (by rw [g4 27 (by decide)]) (by rw [g4 27 (by decide)]) (by rw [g4 27 (by decide)]) (g4 32 (by decide))
theorem Iv.layShapes (h : Iv n lk ln c mr t kc f) (day : Int32) : ∃ g, am_call 149 [.ref 50, .int day] f = some (bi (decide (SH (Rd (f 3) (f 4) (f 17) (f 18) (f 19) n c lk ln day) (Wd lk ln n) n ≠ [])), g) ∧ AgR f g ∧ TOK lk n (g 65) (2 ^ n) ∧ MV (Rd (f 3) (f 4) (f 17) (f 18) (f 19) n c lk ln day) (Wd lk ln n) n g := by
  obtain ⟨g, g1, g2, g3, g4, g5⟩ := m_layShapes h.ms day
  rw [h.RdI day] at g1 g5
  refine ⟨g, g1, AgR.of (fun q hq => g2 q (fun z => hq (by
    simp only [List.mem_cons, List.not_mem_nil, or_false] at z ⊢
    omega))) (fun j hj => g3 j (fun z => hj (by rw [z]; decide))), g4, g5⟩
theorem WS_enc (h9 : n ≤ 9) (hlb : ∀ i, lk i ≤ 500) (hnb : ∀ i, ln i ≤ 500) {S : Nat} (hS : S < 2 ^ n) (g : Hp) : (if encW 0 (WS lk ln n S) < 1000000 then some (encW 0 (WS lk ln n S), g) else some ((-4 : Int32), g)) = some (enc (-4) (WS lk ln n S), g) := by
  have h5 := pow9 h9
  cases e : WS lk ln n S with
  | none => rw [encW_none, if_neg (by decide), enc_none]
  | some w =>
    have := WS_lt2 h9 hlb hnb (show S < 512 by omega) w e
    rw [encW_some, if_pos (show nI (w + 0) < (1000000 : Int32) from nI_lt (b := 1000000) (by omega) (by decide)), enc_some, Nat.add_zero]
end Help
