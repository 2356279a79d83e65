section Acted
variable {n : Nat} {lk ln : Nat → Nat} {c : Nat} {mr : Nat → Nat} {t kc : Nat} {f g : Hp}
/-- the reference's cells are as in f -/
def ME (f g : Hp) : Prop := (∀ q, 51 ≤ q → q ≤ 64 → g q = f q) ∧ g 50 0 = f 50 0
theorem ME.of (h : ∀ q, 50 ≤ q → g q = f q) : ME f g := ⟨fun q h1 _ => h q (by omega), by rw [h 50 (by decide)]⟩
theorem ME.step {k : Hp} (h : ME f g) (h1 : ∀ q, 51 ≤ q → q ≤ 64 → k q = g q) (h2 : k 50 0 = g 50 0) : ME f k := ⟨fun q a b => by rw [h1 q a b, h.1 q a b], h2.trans h.2⟩
theorem Iv.e_n (h : Iv n lk ln c mr t kc f) (e : ME f g) : g 50 0 = nI n := by rw [e.2]; exact h.n0
theorem Iv.e_ms (h : Iv n lk ln c mr t kc f) (e : ME f g) : MS n lk ln c g := MS.keep h.ms e.2 (e.1 55 (by decide) (by decide)) (e.1 53 (by decide) (by decide)) (by rw [e.1 57 (by decide) (by decide)])
theorem Iv.e_Rd (h : Iv n lk ln c mr t kc f) (e : ME f g) (day : Int32) : Rd (g 51) (g 52) (fun k => g 58 (150 + 3 * k)) (fun k => g 58 (151 + 3 * k)) (fun k => g 58 (152 + 3 * k)) n c lk ln day = Rd (f 3) (f 4) (f 17) (f 18) (f 19) n c lk ln day := by
  rw [e.1 51 (by decide) (by decide), e.1 52 (by decide) (by decide), e.1 58 (by decide) (by decide)]
  exact h.RdI day
theorem Iv.e_layFrom (h : Iv n lk ln c mr t kc f) (e : ME f g) : ∃ k, am_call 129 [.ref 50] g = some (0, k) ∧ (∀ q, q ≠ 65 → k q = g q) ∧ TOK lk n (k 65) (2 ^ n) ∧ ME f k := by
  obtain ⟨T, t1, t2⟩ := m_layFrom (h.e_n e) h.n9 (h.e_ms e).2.2.1 h.lb
  exact ⟨_, t1, fun q hq => setC_ne hq, by rw [setC_eq]; exact t2, e.step (fun q a b => setC_ne (by omega)) (by rw [setC_ne (by decide)])⟩
theorem Iv.e_walkOf (h : Iv n lk ln c mr t kc f) (e : ME f g) (hT : TOK lk n (g 65) (2 ^ n)) {S : Nat} (h1 : 1 ≤ S) (hS : S < 2 ^ n) : am_call 130 [.ref 50, .int (nI S)] g = some (enc (-4) (WS lk ln n S), g) := m_walkOf (h.e_n e) h.n9 h.lb (h.e_ms e).2.2.2.2.1 h.nb hT h1 hS
theorem Iv.e_right (h : Iv n lk ln c mr t kc f) (e : ME f g) (hT : TOK lk n (g 65) (2 ^ n)) {S : Nat} (h1 : 1 ≤ S) (hS : S < 2 ^ n) (day : Int32) : am_call 147 [.ref 50, .int (nI S), .int day] g = some (bi (Rd (f 3) (f 4) (f 17) (f 18) (f 19) n c lk ln day S), g) := by
  rw [← h.e_Rd e day]
  exact m_isRight (h.e_ms e) hT h1 hS day
theorem Iv.e_codeOf (h : Iv n lk ln c mr t kc f) (e : ME f g) {x : Int32} (hx : x ≠ -1) : am_call 164 [.ref 50, .int x] g = some (nI (wSet (f 38) x 9), g) := by
  rw [m_codeOf (h.e_n e) h.n9, e.1 60 (by decide) (by decide), h.cod hx]
theorem Iv.e_doorsIn (h : Iv n lk ln c mr t kc f) (e : ME f g) {S : Nat} (hS : S < 2 ^ 31) (day : Int32) : am_call 128 [.ref 50, .int (nI S), .int day] g = some (dSum (f 3) (f 4) n S day, g) := by
  rw [m_doorsIn (h.e_n e) h.n9 hS, e.1 51 (by decide) (by decide), e.1 52 (by decide) (by decide), h.1.2.1.2.1, h.1.2.1.2.2.1]
theorem Iv.e_stand (h : Iv n lk ln c mr t kc f) (e : ME f g) {w : Nat} (hw : w < 36) : am_call 158 [.ref 50, .int (nI w)] g = some (bi (stW (f 17) (f 18) (f 19) c w), g) := by
  rw [m_mayStand (by rw [e.1 57 (by decide) (by decide)]; exact h.c1) h.c40 hw, e.1 58 (by decide) (by decide)]
  have := stW_congr h.it3 w
  unfold stW at this ⊢
  rw [this]
theorem Iv.e_led (h : Iv n lk ln c mr t kc f) (e : ME f g) {w : Nat} (hw : w < 36) (day : Int32) : am_call 167 [.ref 50, .int (nI w), .int day] g = some (nI (ldF f w day), g) := by
  rw [m_leadOf (h.e_n e) h.n9 hw, e.1 60 (by decide) (by decide), e.1 61 (by decide) (by decide), h.led hw]; rfl
theorem Iv.e_ov (h : Iv n lk ln c mr t kc f) (e : ME f g) : OV f c g := fun g' h1 h2 => h.ov g' (by rw [h1, e.1 57 (by decide) (by decide)]) (by rw [h2, e.1 58 (by decide) (by decide)])
theorem Iv.e_layS (h : Iv n lk ln c mr t kc f) (e : ME f g) (d : Nat) : ∃ k, am_call 149 [.ref 50, .int (nI d)] g = some (bi (decide (shO n lk ln c d f ≠ [])), k) ∧ (∀ q, q ∉ [50, 65, 66, 67, 68, 69, 70] → k q = g q) ∧ (∀ j, j ≠ 25 → k 50 j = g 50 j) ∧ ME f k ∧ k 50 25 = nI (shO n lk ln c d f).length ∧ ∀ j, j < (shO n lk ln c d f).length → k 70 j = nI ((shO n lk ln c d f).getD j 0) := by
  obtain ⟨k, k1, k2, k3, k4, k5⟩ := m_layShapes (h.e_ms e) (nI d)
  rw [h.e_Rd e] at k1 k5
  exact ⟨k, k1, k2, k3, e.step (fun q a b => k2 q (by simp only [List.mem_cons, List.not_mem_nil, or_false]; omega)) (k3 0 (by decide)), k5.2.1, k5.2.2.2⟩
theorem Iv.e_layW (h : Iv n lk ln c mr t kc f) (e : ME f g) {d l : Nat} (h2 : 2 ≤ l) (h4 : l ≤ 4) (h25 : g 50 25 = nI (shO n lk ln c d f).length) (h70 : ∀ j, j < (shO n lk ln c d f).length → g 70 j = nI ((shO n lk ln c d f).getD j 0)) (hk1 : 1 ≤ (shO n lk ln c d f).length) (hk4 : (shO n lk ln c d f).length ≤ 4) : ∃ k, am_call 160 [.ref 50, .int (nI l)] g = some (bi (!decide (wbO n lk ln c mr d l f = none)), k) ∧ (∀ q, q ≠ 50 → q ≠ 71 → q ≠ 72 → k q = g q) ∧ (∀ j, j ≠ 27 → k 50 j = g 50 j) ∧ ME f k ∧ ∀ z, wbO n lk ln c mr d l f = some z → ∀ i, i < (shO n lk ln c d f).length → k 71 i = nI (wd l (z.2 i)) := by
  have hso := (SH_ok (R := Rd (f 3) (f 4) (f 17) (f 18) (f 19) n c lk ln (nI d)) (Wt := Wd lk ln n) h.n9).1
  have h5 := pow9 h.n9
  have hmw : MWI (stW (f 17) (f 18) (f 19) c) lk ln n c (fun a => (shO n lk ln c d f).getD a 0) mr l (shO n lk ln c d f).length g := by
    refine ⟨h.e_ms e, by rw [e.1 59 (by decide) (by decide), h.M.1]; exact h.M.2, h25, hk1, hk4, h2, h4, fun a ha => ⟨h70 a ha, Nat.lt_of_lt_of_le (hso a ha).2.2 h5⟩, fun w hw g' e1 e2 => ?_⟩
    rw [m_mayStand (by rw [e1, e.1 57 (by decide) (by decide)]; exact h.c1) h.c40 hw, e2, e.1 58 (by decide) (by decide)]
    have := stW_congr h.it3 w
    unfold stW at this ⊢
    rw [this]
  obtain ⟨k, a1, a2, a3⟩ := m_layWords hmw
  exact ⟨k, a1, a2.1, a2.2, e.step (fun q a b => a2.1 q (by omega) (by omega) (by omega)) (a2.2 0 (by decide)), fun z hz i hi => (a3.2 z hz).2 i hi⟩
/-- both have acted on the town that stands -/
theorem Iv.acted {G H : Hp} {W' : Nat → Int32} {U' : Nat → Nat → Int32} {ww' : Nat → Nat} {d : Nat} (h : Iv n lk ln c mr t kc f) (hG : ∀ q, q ∉ [37, 38, 39] → G q = f q) (hG3 : G 37 3 = f 37 3) (hG4 : G 37 4 = nI d) (hd : d ≤ 14600) (hCT : CT W' U' G) (hHl : ∀ q, q < 50 → H q = G q) (hH0 : H 50 0 = G 50 0) (hH6 : H 50 6 = G 50 6) (hH16 : H 50 16 = G 50 16) (hHm : ∀ q, 51 ≤ q → q ≤ 64 → q ∉ [60, 61, 62] → H q = G q) (h60 : ∀ j, 9 ≤ j → H 60 j = G 60 j) (h61 : ∀ j, 324 ≤ j → H 61 j = G 61 j) (h62 : ∀ j, 1 ≤ j → H 62 j = G 62 j) (h620 : H 62 0 = nI d) (hMT : MT W' U' H) (hn : 1 ≤ n) (hTW : TW n ww' W') (hWS : ∀ s, s < n → WS lk ln n (cdS n ww' (ww' s)) ≠ none) : Inv H := by
  have h9 := h.n9
  have hq : ∀ q, q ∉ [37, 38, 39, 50, 60, 61, 62] → q ≤ 64 → H q = f q := fun q hq h64 => by
    simp only [List.mem_cons, List.not_mem_nil, or_false, not_or] at hq
    by_cases e : q < 50
    · rw [hHl q e, hG q (by simp only [List.mem_cons, List.not_mem_nil, or_false]; omega)]
    · rw [hHm q (by omega) h64 (by simp only [List.mem_cons, List.not_mem_nil, or_false]; omega), hG q (by simp only [List.mem_cons, List.not_mem_nil, or_false]; omega)]
  have f50 : ∀ j, H 50 j = G 50 j → H 50 j = f 50 j := fun j e => by rw [e, hG 50 (by decide)]
  have hed : ∃ e, f 37 3 = nI e ∧ e ≤ 10 ∧ ∀ i s, i < e → s < n → ∃ v, v < 36 ∧ f 40 (i * 9 + s) = nI v := by
    rcases h.gv with ⟨-, hb⟩ | ⟨-, ww, e, d', hg⟩
    · exact ⟨0, hb.2.1, by omega, fun i s hi => absurd hi (Nat.not_lt_zero _)⟩
    · exact ⟨e, hg.2.2.1, hg.2.2.2.1, hg.2.2.2.2.2.2.2⟩
  obtain ⟨e, e1, e2, e3⟩ := hed
  have hg : Gvn n lk ln 37 H := by
    refine ⟨ww', e, d, hn, TW_cp h9 hTW (fun s hs => ?_), by rw [hHl 37 (by decide), hG3]; exact e1, e2, by rw [hHl 37 (by decide)]; exact hG4, hd, hWS, fun i s hi hs => ?_⟩
    · show H 38 s = W' s
      rw [hHl 38 (by decide)]
      exact hCT.1 s hs
    · obtain ⟨v, v1, v2⟩ := e3 i s hi hs
      exact ⟨v, v1, by show H 40 _ = _; rw [hq 40 (by decide) (by decide)]; exact v2⟩
  have ht : TRl 37 0 H := by
    refine ⟨fun s hs => ?_, fun s w hs hw => ?_, fun j hj => ?_, ?_, ?_⟩
    · show H 60 (9 * 0 + s) = H 38 s
      rw [show 9 * 0 + s = s by omega, hMT.1 s hs, hHl 38 (by decide), hCT.1 s hs]
    · show H 61 (324 * 0 + (9 * w + s)) = H 39 (s * 36 + w)
      rw [show 324 * 0 + (9 * w + s) = 9 * w + s by omega, hMT.2 s w hs hw, hHl 39 (by decide), hCT.2 s w hs hw]
    · show H 64 (90 * 0 + j) = H 40 j
      rw [show 90 * 0 + j = j by omega, hq 64 (by decide) (by decide), hq 40 (by decide) (by decide)]
      exact h.tb j hj
    · show H 63 0 = H 37 3
      rw [hq 63 (by decide) (by decide), hHl 37 (by decide), hG3]
      exact h.te
    · show H 62 0 = H 37 4
      rw [h620, hHl 37 (by decide), hG4]
  refine ⟨n, lk, ln, c, mr, t, kc, h.1.keep (by rw [hq 2 (by decide) (by decide)]) (fun q hq' => hq q (fun z => ?_) ?_) (f50 0 hH0), h.2.1.keep (by rw [hq 16 (by decide) (by decide)]) (by rw [hq 57 (by decide) (by decide)]) (hq 17 (by decide) (by decide)) (hq 18 (by decide) (by decide)) (hq 19 (by decide) (by decide)) (fun j _ => by rw [hq 58 (by decide) (by decide)]), h.2.2.1.keep (by rw [hq 10 (by decide) (by decide)]) (f50 6 hH6) (hq 11 (by decide) (by decide)) (hq 56 (by decide) (by decide)), h.M.keep (hq 21 (by decide) (by decide)) (hq 59 (by decide) (by decide)), h.K.act (by rw [hq 1 (by decide) (by decide)]) (f50 16 hH16) (fun q hq' => hq q (fun z => ?_) ?_) (fun j hj => by rw [h60 j hj, hG 60 (by decide)]) (fun j hj => by rw [h61 j hj, hG 61 (by decide)]) (fun j _ => by rw [hq 64 (by decide) (by decide)]) (fun j hj => by rw [h62 j hj, hG 62 (by decide)]) (fun j _ => by rw [hq 63 (by decide) (by decide)]) ht hg, h.C.keep (by rw [hq 2 (by decide) (by decide)]) (fun q hq' => hq q (fun z => ?_) ?_)⟩
  all_goals
    simp only [List.mem_cons, List.not_mem_nil, or_false] at *
    omega
/-- words of a town as both have them -/
theorem Iv.CT0 (h : Iv n lk ln c mr t kc f) (hg : ∀ q, q = 38 ∨ q = 39 → g q = f q) : CT (f 38) (fun s x => f 39 (s * 36 + x)) g := ⟨fun s _ => by rw [hg 38 (Or.inl rfl)], fun s x _ _ => by rw [hg 39 (Or.inr rfl)]⟩
theorem Iv.MT0 (h : Iv n lk ln c mr t kc f) (e : ME f g) : MT (f 38) (fun s x => f 39 (s * 36 + x)) g := ⟨fun s hs => by rw [e.1 60 (by decide) (by decide)]; exact h.tw s hs, fun s x hs hx => by rw [e.1 61 (by decide) (by decide)]; exact h.tu s x hs hx⟩
theorem Iv.okW (h : Iv n lk ln c mr t kc f) : okW (f 38) := fun s hs => by
  rcases h.tv s hs with ⟨-, e⟩ | ⟨-, e⟩
  · exact Or.inl e
  · exact Or.inr e
end Acted
