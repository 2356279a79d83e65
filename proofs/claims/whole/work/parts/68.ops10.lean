section Ops10
variable {n : Nat} {lk ln : Nat → Nat} {c : Nat} {mr : Nat → Nat} {t kc : Nat} {f g : Hp}
theorem m_cpa {a b : Nat} (ha : a ≤ 2) (hb : b ≤ 2) (hab : a ≠ b) (f : Hp) : ∀ d k T, k + d = 9 → (∀ j, ¬ (9 * b ≤ j ∧ j < 9 * b + k) → T j = f 60 j) → (∀ i, i < k → T (9 * b + i) = f 60 (9 * a + i)) → ∃ T', am_run 183 2 [.ref 50, .int (nI a), .int (nI b), .int (nI k)] [] (setC f 60 T) = am_run 183 38 [.ref 50, .int (nI a), .int (nI b), .int 0] [] (setC f 60 T') ∧ (∀ j, ¬ (9 * b ≤ j ∧ j < 9 * b + 9) → T' j = f 60 j) ∧ ∀ i, i < 9 → T' (9 * b + i) = f 60 (9 * a + i) := by
  intro d
  have mi : ∀ x y, 9 * nI x + nI y = nI (9 * x + y) := fun x y => by
    show nI 9 * nI x + nI y = _
    rw [pk_mul, nI_add]
  induction d with
  | zero =>
    intro k T hk h1 h2
    have : k = 9 := by omega
    subst this
    refine ⟨T, ?_, h1, h2⟩
    rw [eX9_copy_2_50, if_neg (by decide)]
  | succ d ih =>
    intro k T hk h1 h2
    rw [eX9_copy_2_50, if_pos (show nI k < (9 : Int32) from nI_lt (b := 9) (by omega) (by decide)), mi, mi, am_ald_in _ _ _ (show 9 * a + k < 27 by omega) (by decide), am_ast_in _ _ _ _ (show 9 * b + k < 27 by omega) (by decide), setC_eq, up_setC, nI_1, h1 (9 * a + k) (by omega)]
    refine ih (k + 1) _ (by omega) (fun j hj => ?_) (fun i hi => ?_)
    · rw [upd_ne (by omega), h1 j (by omega)]
    · by_cases e : i = k
      · subst e; rw [upd_same]
      · rw [upd_ne (by omega), h2 i (by omega)]
theorem m_cpb {a b : Nat} (ha : a ≤ 2) (hb : b ≤ 2) (hab : a ≠ b) (f : Hp) : ∀ d k T, k + d = 324 → (∀ j, ¬ (324 * b ≤ j ∧ j < 324 * b + k) → T j = f 61 j) → (∀ i, i < k → T (324 * b + i) = f 61 (324 * a + i)) → ∃ T', am_run 183 38 [.ref 50, .int (nI a), .int (nI b), .int (nI k)] [] (setC f 61 T) = am_run 183 77 [.ref 50, .int (nI a), .int (nI b), .int 0] [] (setC f 61 T') ∧ (∀ j, ¬ (324 * b ≤ j ∧ j < 324 * b + 324) → T' j = f 61 j) ∧ ∀ i, i < 324 → T' (324 * b + i) = f 61 (324 * a + i) := by
  intro d
  have mi : ∀ x y, 324 * nI x + nI y = nI (324 * x + y) := fun x y => by
    show nI 324 * nI x + nI y = _
    rw [pk_mul, nI_add]
  induction d with
  | zero =>
    intro k T hk h1 h2
    have : k = 324 := by omega
    subst this
    refine ⟨T, ?_, h1, h2⟩
    rw [eX9_copy_38_50, if_neg (by decide)]
  | succ d ih =>
    intro k T hk h1 h2
    rw [eX9_copy_38_50, if_pos (show nI k < (324 : Int32) from nI_lt (b := 324) (by omega) (by decide)), mi, mi, am_ald_in _ _ _ (show 324 * a + k < 972 by omega) (by decide), am_ast_in _ _ _ _ (show 324 * b + k < 972 by omega) (by decide), setC_eq, up_setC, nI_1, h1 (324 * a + k) (by omega)]
    refine ih (k + 1) _ (by omega) (fun j hj => ?_) (fun i hi => ?_)
    · rw [upd_ne (by omega), h1 j (by omega)]
    · by_cases e : i = k
      · subst e; rw [upd_same]
      · rw [upd_ne (by omega), h2 i (by omega)]
theorem m_cpc {a b : Nat} (ha : a ≤ 2) (hb : b ≤ 2) (hab : a ≠ b) (f : Hp) : ∀ d k T, k + d = 90 → (∀ j, ¬ (90 * b ≤ j ∧ j < 90 * b + k) → T j = f 64 j) → (∀ i, i < k → T (90 * b + i) = f 64 (90 * a + i)) → ∃ T', am_run 183 77 [.ref 50, .int (nI a), .int (nI b), .int (nI k)] [] (setC f 64 T) = some (0, am_up (am_up (setC f 64 T') 62 b (f 62 a)) 63 b (f 63 a)) ∧ (∀ j, ¬ (90 * b ≤ j ∧ j < 90 * b + 90) → T' j = f 64 j) ∧ ∀ i, i < 90 → T' (90 * b + i) = f 64 (90 * a + i) := by
  intro d
  have mi : ∀ x y, 90 * nI x + nI y = nI (90 * x + y) := fun x y => by
    show nI 90 * nI x + nI y = _
    rw [pk_mul, nI_add]
  induction d with
  | zero =>
    intro k T hk h1 h2
    have : k = 90 := by omega
    subst this
    refine ⟨T, ?_, h1, h2⟩
    rw [eX9_copy_77_50, if_neg (by decide), am_ald_in _ _ _ (show a < 3 by omega) (by decide), am_ast_in _ _ _ _ (show b < 3 by omega) (by decide), am_ald_in _ _ _ (show a < 3 by omega) (by decide), am_ast_in _ _ _ _ (show b < 3 by omega) (by decide), am_up_ne (show 63 ≠ 62 by decide), setC_ne (by decide), setC_ne (by decide)]
  | succ d ih =>
    intro k T hk h1 h2
    rw [eX9_copy_77_50, if_pos (show nI k < (90 : Int32) from nI_lt (b := 90) (by omega) (by decide)), mi, mi, am_ald_in _ _ _ (show 90 * a + k < 270 by omega) (by decide), am_ast_in _ _ _ _ (show 90 * b + k < 270 by omega) (by decide), setC_eq, up_setC, nI_1, h1 (90 * a + k) (by omega)]
    refine ih (k + 1) _ (by omega) (fun j hj => ?_) (fun i hi => ?_)
    · rw [upd_ne (by omega), h1 j (by omega)]
    · by_cases e : i = k
      · subst e; rw [upd_same]
      · rw [upd_ne (by omega), h2 i (by omega)]
/-- the reference's a-th town is copied to its b-th -/
def CpM (a b : Nat) (f H : Hp) : Prop := (∀ q, q ∉ [60, 61, 62, 63, 64] → H q = f q) ∧ ((∀ j, ¬ (9 * b ≤ j ∧ j < 9 * b + 9) → H 60 j = f 60 j) ∧ ∀ i, i < 9 → H 60 (9 * b + i) = f 60 (9 * a + i)) ∧ ((∀ j, ¬ (324 * b ≤ j ∧ j < 324 * b + 324) → H 61 j = f 61 j) ∧ ∀ i, i < 324 → H 61 (324 * b + i) = f 61 (324 * a + i)) ∧ ((∀ j, ¬ (90 * b ≤ j ∧ j < 90 * b + 90) → H 64 j = f 64 j) ∧ ∀ i, i < 90 → H 64 (90 * b + i) = f 64 (90 * a + i)) ∧ (H 62 b = f 62 a ∧ ∀ j, j ≠ b → H 62 j = f 62 j) ∧ (H 63 b = f 63 a ∧ ∀ j, j ≠ b → H 63 j = f 63 j)
theorem m_copy2 {a b : Nat} (ha : a ≤ 2) (hb : b ≤ 2) (hab : a ≠ b) (f : Hp) : ∃ H, am_call 183 [.ref 50, .int (nI a), .int (nI b)] f = some (0, H) ∧ CpM a b f H := by
  obtain ⟨T1, t1, t2, t3⟩ := m_cpa ha hb hab f 9 0 (f 60) (by omega) (fun _ _ => rfl) (fun i hi => absurd hi (Nat.not_lt_zero _))
  obtain ⟨T2, u1, u2, u3⟩ := m_cpb ha hb hab (setC f 60 T1) 324 0 (f 61) (by omega) (fun _ _ => by rw [setC_ne (by decide)]) (fun i hi => absurd hi (Nat.not_lt_zero _))
  obtain ⟨T3, v1, v2, v3⟩ := m_cpc ha hb hab (setC (setC f 60 T1) 61 T2) 90 0 (f 64) (by omega) (fun _ _ => by rw [setC_ne (by decide), setC_ne (by decide)]) (fun i hi => absurd hi (Nat.not_lt_zero _))
  rw [setC_self] at t1
  have e2 : setC (setC f 60 T1) 61 (f 61) = setC f 60 T1 := by
    have := setC_self (setC f 60 T1) 61
    rw [setC_ne (by decide)] at this
    exact this
  have e3 : setC (setC (setC f 60 T1) 61 T2) 64 (f 64) = setC (setC f 60 T1) 61 T2 := by
    have := setC_self (setC (setC f 60 T1) 61 T2) 64
    rw [setC_ne (show 64 ≠ 61 by decide), setC_ne (show 64 ≠ 60 by decide)] at this
    exact this
  rw [e2] at u1
  rw [e3] at v1
  have t1 : am_run 183 2 [.ref 50, .int (nI a), .int (nI b), .int 0] [] f = _ := t1
  have u1 : am_run 183 38 [.ref 50, .int (nI a), .int (nI b), .int 0] [] (setC f 60 T1) = _ := u1
  have v1 : am_run 183 77 [.ref 50, .int (nI a), .int (nI b), .int 0] [] (setC (setC f 60 T1) 61 T2) = _ := v1
  refine ⟨_, by rw [eX9_copy_50, t1, u1, v1], fun q hq => ?_, ⟨fun j hj => ?_, fun i hi => ?_⟩, ⟨fun j hj => ?_, fun i hi => ?_⟩, ⟨fun j hj => ?_, fun i hi => ?_⟩, ⟨?_, fun j hj => ?_⟩, ?_, fun j hj => ?_⟩
  · simp only [List.mem_cons, List.not_mem_nil, or_false, not_or] at hq
    rw [am_up_ne (by omega), am_up_ne (by omega), setC_ne (by omega), setC_ne (by omega), setC_ne (by omega)]
  · rw [am_up_ne (by decide), am_up_ne (by decide), setC_ne (by decide), setC_ne (by decide), setC_eq, t2 j hj]
  · rw [am_up_ne (by decide), am_up_ne (by decide), setC_ne (by decide), setC_ne (by decide), setC_eq, t3 i hi]
  · rw [am_up_ne (by decide), am_up_ne (by decide), setC_ne (by decide), setC_eq, u2 j hj, setC_ne (by decide)]
  · rw [am_up_ne (by decide), am_up_ne (by decide), setC_ne (by decide), setC_eq, u3 i hi, setC_ne (by decide)]
  · rw [am_up_ne (by decide), am_up_ne (by decide), setC_eq, v2 j hj, setC_ne (by decide), setC_ne (by decide)]
  · rw [am_up_ne (by decide), am_up_ne (by decide), setC_eq, v3 i hi, setC_ne (by decide), setC_ne (by decide)]
  · rw [am_up_ne (by decide), am_up_same, setC_ne (by decide), setC_ne (by decide)]
  · rw [am_up_ne (by decide), am_up_j hj, setC_ne (by decide), setC_ne (by decide), setC_ne (by decide)]
  · rw [am_up_same, setC_ne (by decide), setC_ne (by decide)]
  · rw [am_up_j hj, am_up_ne (by decide), setC_ne (by decide), setC_ne (by decide), setC_ne (by decide)]
/-- both copy -/
theorem TRl.cp {q d a b : Nat} {F G H : Hp} (h : TRl q a F) (hF : ∀ x, 50 ≤ x → G x = F x) (hc : CpC q d F G) (hm : CpM a b G H) (hd : d ≤ 46) : TRl d b H := by
  obtain ⟨h1, h2, h3, h4, h5⟩ := h
  obtain ⟨c1, c2, c3, c4, c5, c6⟩ := hc
  obtain ⟨m1, ⟨-, m2⟩, ⟨-, m3⟩, ⟨-, m4⟩, ⟨m5, -⟩, m6, -⟩ := hm
  have hH : ∀ x, x ≤ 49 → H x = G x := fun x hx => m1 x (by simp only [List.mem_cons, List.not_mem_nil, or_false]; omega)
  refine ⟨fun s hs => ?_, fun s w hs hw => ?_, fun j hj => ?_, ?_, ?_⟩
  · rw [m2 s hs, hF 60 (by decide), h1 s hs, hH _ (by omega), c2 s hs]
  · rw [m3 _ (by omega), hF 61 (by decide), h2 s w hs hw, hH _ (by omega), c3 _ (by omega)]
  · rw [m4 j hj, hF 64 (by decide), h3 j hj, hH _ (by omega), c4 j hj]
  · rw [m6, hF 63 (by decide), h4, hH _ (by omega), c5]
  · rw [m5, hF 62 (by decide), h5, hH _ (by omega), c6]
/-- a town that neither touches -/
theorem TRl.off {q d a b k p : Nat} {F G H : Hp} (h : TRl p k F) (hF : ∀ x, 50 ≤ x → G x = F x) (hc : CpC q d F G) (hm : CpM a b G H) (hp : p ≤ 46) (hpd : p + 3 < d ∨ d + 3 < p) (hkb : k ≠ b) : TRl p k H := by
  obtain ⟨h1, h2, h3, h4, h5⟩ := h
  obtain ⟨c1, -⟩ := hc
  obtain ⟨m1, ⟨m2, -⟩, ⟨m3, -⟩, ⟨m4, -⟩, ⟨-, m5⟩, -, m6⟩ := hm
  have hH : ∀ x, x ≤ 49 → (x < d ∨ d + 3 < x) → H x = F x := fun x hx hd => by
    rw [m1 x (by simp only [List.mem_cons, List.not_mem_nil, or_false]; omega), c1 x (by simp only [List.mem_cons, List.not_mem_nil, or_false]; omega)]
  refine ⟨fun s hs => ?_, fun s w hs hw => ?_, fun j hj => ?_, ?_, ?_⟩
  · rw [m2 _ (by omega), hF 60 (by decide), h1 s hs, hH _ (by omega) (by omega)]
  · rw [m3 _ (by omega), hF 61 (by decide), h2 s w hs hw, hH _ (by omega) (by omega)]
  · rw [m4 _ (by omega), hF 64 (by decide), h3 j hj, hH _ (by omega) (by omega)]
  · rw [m6 _ hkb, hF 63 (by decide), h4, hH _ (by omega) (by omega)]
  · rw [m5 _ hkb, hF 62 (by decide), h5, hH _ (by omega) (by omega)]
theorem TSt.off {p : Nat} {F H : Hp} (h : TSt n lk ln p F) (hH : ∀ x, p ≤ x → x ≤ p + 3 → H x = F x) : TSt n lk ln p H := by
  unfold TSt Gvn GvT Blk at h ⊢
  rw [hH p (by omega) (by omega), hH (p + 1) (by omega) (by omega), hH (p + 3) (by omega) (by omega)]
  exact h
theorem Blk.off {p : Nat} {F H : Hp} (hH : ∀ x, p ≤ x → x ≤ p + 3 → H x = F x) : Blk p H ↔ Blk p F := by
  unfold Blk
  rw [hH p (by omega) (by omega), hH (p + 1) (by omega) (by omega)]
/-- all but the towns stays -/
theorem Iv.towns {kc' : Nat} (h : Iv n lk ln c mr t kc f) (hd : ∀ q, q ∉ [1, 37, 38, 39, 40, 42, 43, 44, 45, 46, 47, 48, 49, 50, 60, 61, 62, 63, 64] → g q = f q) (h50 : ∀ j, j ≠ 16 → g 50 j = f 50 j) (hK : IK n lk ln kc' g) : Inv g :=
  ⟨n, lk, ln, c, mr, t, kc', h.1.keep (by rw [hd 2 (by decide)]) (fun q hq => hd q (fun z => by
    simp only [List.mem_cons, List.not_mem_nil, or_false] at z hq
    omega)) (h50 0 (by decide)), h.2.1.keep (by rw [hd 16 (by decide)]) (by rw [hd 57 (by decide)]) (hd 17 (by decide)) (hd 18 (by decide)) (hd 19 (by decide)) (fun j _ => by rw [hd 58 (by decide)]), h.2.2.1.keep (by rw [hd 10 (by decide)]) (h50 6 (by decide)) (hd 11 (by decide)) (hd 56 (by decide)), h.M.keep (hd 21 (by decide)) (hd 59 (by decide)), hK, h.C.keep (by rw [hd 2 (by decide)]) (fun q hq => hd q (fun z => by
    simp only [List.mem_cons, List.not_mem_nil, or_false] at z hq
    omega))⟩
theorem keep_K {d k : Nat} {G H : Hp} (h : Iv n lk ln c mr t kc f) (hd : (d = 42 ∧ k = 1 ∧ kc = 0) ∨ (d = 46 ∧ k = 2 ∧ kc = 1)) (hF : ∀ x, x ≠ 1 → (x < d ∨ d + 3 < x) → G x = f x) (hc : CpC 37 d f G) (hm : CpM 0 k G H) (H' : Hp) (hH1 : H' 1 10 = nI (kc + 1)) (hH50 : H' 50 16 = nI (kc + 1)) (hH : ∀ x, x ≠ 1 → x ≠ 50 → H' x = H x) : IK n lk ln (kc + 1) H' := by
  have h9 := h.n9
  obtain ⟨a1, a2, a3, a4, a5, a6, a7⟩ := h.K
  have hF50 : ∀ x, 50 ≤ x → G x = f x := fun x hx => hF x (by omega) (by omega)
  have hx : ∀ x, x ≤ 49 → x ≠ 1 → H' x = G x := fun x h1 h2 => by
    rw [hH x h2 (by omega), hm.1 x (by simp only [List.mem_cons, List.not_mem_nil, or_false]; omega)]
  have hT : ∀ {p k : Nat}, 37 ≤ p → p ≤ 46 → TRl p k H → TRl p k H' := fun {p k} h1 h2 ht => by
    unfold TRl at ht ⊢
    rw [hH 60 (by decide) (by decide), hH 61 (by decide) (by decide), hH 62 (by decide) (by decide), hH 63 (by decide) (by decide), hH 64 (by decide) (by decide), hH p (by omega) (by omega), hH (p + 1) (by omega) (by omega), hH (p + 2) (by omega) (by omega), hH (p + 3) (by omega) (by omega)]
    exact ht
  have hnew : TRl d k H' := hT (by omega) (by omega) (TRl.cp a2.1 hF50 hc hm (by omega))
  have hst : TSt n lk ln d H' := TSt.cp h9 (fun s hs => by rw [hx _ (by omega) (by omega)]; exact hc.2.1 s hs) (fun j hj => by rw [hx _ (by omega) (by omega)]; exact hc.2.2.2.1 j hj) (by rw [hx _ (by omega) (by omega)]; exact hc.2.2.2.2.1) (by rw [hx _ (by omega) (by omega)]; exact hc.2.2.2.2.2) a2.2
  have hbn : Blk d H' ↔ Blk 37 f := Blk.cp (fun s hs => by rw [hx _ (by omega) (by omega)]; exact hc.2.1 s hs) (by rw [hx _ (by omega) (by omega)]; exact hc.2.2.2.2.1) (by rw [hx _ (by omega) (by omega)]; exact hc.2.2.2.2.2)
  have hoff : ∀ p, 37 ≤ p → p ≤ 46 → (p + 3 < d ∨ d + 3 < p) → ∀ x, p ≤ x → x ≤ p + 3 → H' x = f x := fun p h1 h2 h3 x h4 h5 => by rw [hx x (by omega) (by omega), hF x (by omega) (by omega)]
  have h37 : TRl 37 0 H' := hT (by decide) (by decide) (TRl.off a2.1 hF50 hc hm (by decide) (by omega) (by omega))
  have hb37 : Blk 37 H' ↔ Blk 37 f := Blk.off (hoff 37 (by decide) (by decide) (by omega))
  have hs37 : TSt n lk ln 37 H' := a2.2.off (hoff 37 (by decide) (by decide) (by omega))
  rcases hd with ⟨rfl, rfl, rfl⟩ | ⟨rfl, rfl, rfl⟩
  · exact ⟨⟨hH1, by decide, hH50⟩, ⟨h37, hs37⟩, fun _ => ⟨hnew, hst⟩, fun z => absurd z (by decide), fun _ hb => hbn.mpr (hb37.mp hb), fun z => absurd z (by decide), fun z => absurd z (by decide)⟩
  · have hb42 : Blk 42 H' ↔ Blk 42 f := Blk.off (hoff 42 (by decide) (by decide) (by omega))
    exact ⟨⟨hH1, by decide, hH50⟩, ⟨h37, hs37⟩, fun _ => ⟨hT (by decide) (by decide) (TRl.off (a3 (by decide)).1 hF50 hc hm (by decide) (by omega) (by omega)), (a3 (by decide)).2.off (hoff 42 (by decide) (by decide) (by omega))⟩, fun _ => ⟨hnew, hst⟩, fun _ hb => hb42.mpr (a5 (by decide) (hb37.mp hb)), fun _ hb => hbn.mpr (hb37.mp hb), fun _ hb => hb42.mpr (a5 (by decide) (hbn.mp hb))⟩
theorem op_keep (h : Iv n lk ln c mr t kc f) : OP 103 184 [] f := by
  obtain ⟨k1, k2, k3⟩ := h.K.1
  have hcases : kc = 0 ∨ kc = 1 ∨ kc = 2 := by omega
  have key : ∀ d, (d = 42 ∧ kc = 0) ∨ (d = 46 ∧ kc = 1) → ∀ G, CpC 37 d f G → am_call 103 [.ref 1] f = some (nI (kc + 1), am_up G 1 10 (nI (kc + 1))) → OP 103 184 [] f := by
    intro d hd G hc hC
    have hG : ∀ x, x ≠ 1 → (x < d ∨ d + 3 < x) → am_up G 1 10 (nI (kc + 1)) x = f x := fun x h1 h2 => by
      rw [am_up_ne h1, hc.1 x (by simp only [List.mem_cons, List.not_mem_nil, or_false]; omega)]
    obtain ⟨H, d1, d2⟩ := m_copy2 (a := 0) (b := kc + 1) (by decide) (by omega) (by omega) (am_up G 1 10 (nI (kc + 1)))
    have d2G : CpM 0 (kc + 1) G (setC H 1 (G 1)) := by
      obtain ⟨m1, m2, m3, m4, m5, m6⟩ := d2
      have e : ∀ q, q ≠ 1 → setC H 1 (G 1) q = H q := fun q hq => setC_ne hq
      have e' : ∀ q, q ≠ 1 → am_up G 1 10 (nI (kc + 1)) q = G q := fun q hq => am_up_ne hq
      unfold CpM
      rw [e 60 (by decide), e 61 (by decide), e 62 (by decide), e 63 (by decide), e 64 (by decide)]
      rw [e' 60 (by decide)] at m2
      rw [e' 61 (by decide)] at m3
      rw [e' 64 (by decide)] at m4
      rw [e' 62 (by decide)] at m5
      rw [e' 63 (by decide)] at m6
      refine ⟨fun q hq => ?_, m2, m3, m4, m5, m6⟩
      by_cases q1 : q = 1
      · subst q1; rw [setC_eq]
      · rw [e q q1, m1 q hq, e' q q1]
    have hD : am_call 184 [.ref 50] (am_up G 1 10 (nI (kc + 1))) = some (nI (kc + 1), am_up H 50 16 (nI (kc + 1))) := by
      have g50 : am_up G 1 10 (nI (kc + 1)) 50 16 = nI kc := by rw [hG 50 (by decide) (by omega)]; exact k3
      have h50 : H 50 16 = nI kc := by rw [d2.1 50 (by decide)]; exact g50
      have e1 : 1 + nI kc = nI (kc + 1) := by
        show nI 1 + nI kc = _
        rw [nI_add, Nat.add_comm]
      have d1' : am_call 183 [.ref 50, .int 0, .int (nI (kc + 1))] (am_up G 1 10 (nI (kc + 1))) = some (0, H) := d1
      rw [eX9_keep_50, g50, if_neg (show ¬ nI kc = (2 : Int32) from fun z => by have := (nI_eq (b := 2) (by omega) (by decide)).mp z; omega), e1, d1', am_cal_some, am_up_same, h50, nI_1]
    refine OP.act hC hD ⟨hG 0 (by decide) (by omega), hG 77 (by decide) (by omega)⟩ ⟨by rw [am_up_ne (by decide), d2.1 0 (by decide)], by rw [am_up_ne (by decide), d2.1 77 (by decide)]⟩ (h.towns (kc' := kc + 1) (fun q hq => ?_) (fun j hj => ?_) (keep_K (d := d) (k := kc + 1) (G := G) (H := setC H 1 (G 1)) h (by omega) (fun x h1 h2 => hc.1 x (by simp only [List.mem_cons, List.not_mem_nil, or_false]; omega)) hc d2G (am_up H 50 16 (nI (kc + 1))) ?_ (am_up_same _ _ _ _) (fun x h1 h2 => by rw [am_up_ne h2, setC_ne h1])))
    · simp only [List.mem_cons, List.not_mem_nil, or_false, not_or] at hq
      rw [am_up_ne (by omega), d2.1 q (by simp only [List.mem_cons, List.not_mem_nil, or_false]; omega), hG q (by omega) (by omega)]
    · rw [am_up_j hj, d2.1 50 (by decide), hG 50 (by decide) (by omega)]
    · rw [am_up_ne (by decide), d2.1 1 (by decide), am_up_same]
  rcases hcases with rfl | rfl | rfl
  · obtain ⟨G, c1, c2⟩ := c_copy_42_37 f
    refine key 42 (by omega) G c2 ?_
    have g110 : G 1 10 = nI 0 := by rw [c2.1 1 (by decide)]; exact k1
    rw [eX8_keep_1, k1, if_pos (by decide), if_pos (by decide), c1, am_cal_some, am_up_same, g110]
    rfl
  · obtain ⟨G, c1, c2⟩ := c_copy_46_37 f
    refine key 46 (by omega) G c2 ?_
    have g110 : G 1 10 = nI 1 := by rw [c2.1 1 (by decide)]; exact k1
    rw [eX8_keep_1, k1, if_pos (by decide), if_neg (by decide), if_pos (by decide), c1, am_cal_some, am_up_same, g110]
    rfl
  · exact OP.same h (r := -3) (by rw [eX8_keep_1, k1, if_neg (by decide)]) (by rw [eX9_keep_50, k3, if_pos (by decide)])
theorem back_K {q k : Nat} {G H : Hp} (h : Iv n lk ln c mr t (kc + 1) f) (hd : (q = 42 ∧ k = 1 ∧ kc = 0) ∨ (q = 46 ∧ k = 2 ∧ kc = 1)) (hF : ∀ x, x ≠ 1 → x ≠ 50 → (x < 37 ∨ 40 < x) → G x = f x) (hc : (∀ s, s < 9 → G (37 + 1) s = f (q + 1) s) ∧ (∀ j, j < 324 → G (37 + 2) j = f (q + 2) j) ∧ (∀ j, j < 90 → G (37 + 3) j = f (q + 3) j) ∧ G 37 3 = f q 3 ∧ G 37 4 = f q 4) (hm : CpM k 0 G H) (hH1 : H 1 10 = nI kc) (hH50 : H 50 16 = nI kc) : IK n lk ln kc H := by
  have h9 := h.n9
  obtain ⟨a1, a2, a3, a4, a5, a6, a7⟩ := h.K
  have hF50 : ∀ x, 51 ≤ x → G x = f x := fun x hx => hF x (by omega) (by omega) (by omega)
  have hx : ∀ x, x ≤ 49 → H x = G x := fun x h1 => hm.1 x (by simp only [List.mem_cons, List.not_mem_nil, or_false]; omega)
  have hold : TRl q k f ∧ TSt n lk ln q f := by
    rcases hd with ⟨rfl, rfl, rfl⟩ | ⟨rfl, rfl, rfl⟩
    · exact a3 (by decide)
    · exact a4 (by decide)
  have hnew : TRl 37 0 H := by
    obtain ⟨h1, h2, h3, h4, h5⟩ := hold.1
    obtain ⟨c2, c3, c4, c5, c6⟩ := hc
    obtain ⟨m1, ⟨-, m2⟩, ⟨-, m3⟩, ⟨-, m4⟩, ⟨m5, -⟩, m6, -⟩ := hm
    refine ⟨fun s hs => ?_, fun s w hs hw => ?_, fun j hj => ?_, ?_, ?_⟩
    · rw [m2 s hs, hF50 60 (by decide), h1 s hs, hx _ (by omega), c2 s hs]
    · rw [m3 _ (by omega), hF50 61 (by decide), h2 s w hs hw, hx _ (by omega), c3 _ (by omega)]
    · rw [m4 j hj, hF50 64 (by decide), h3 j hj, hx _ (by omega), c4 j hj]
    · rw [m6, hF50 63 (by decide), h4, hx _ (by omega), c5]
    · rw [m5, hF50 62 (by decide), h5, hx _ (by omega), c6]
  have hst : TSt n lk ln 37 H := TSt.cp h9 (fun s hs => by rw [hx _ (by omega)]; exact hc.1 s hs) (fun j hj => by rw [hx _ (by omega)]; exact hc.2.2.1 j hj) (by rw [hx _ (by omega)]; exact hc.2.2.2.1) (by rw [hx _ (by omega)]; exact hc.2.2.2.2) hold.2
  have hbn : Blk 37 H ↔ Blk q f := Blk.cp (fun s hs => by rw [hx _ (by omega)]; exact hc.1 s hs) (by rw [hx _ (by omega)]; exact hc.2.2.2.1) (by rw [hx _ (by omega)]; exact hc.2.2.2.2)
  rcases hd with ⟨rfl, rfl, rfl⟩ | ⟨rfl, rfl, rfl⟩
  · exact ⟨⟨hH1, by decide, hH50⟩, ⟨hnew, hst⟩, fun z => absurd z (by decide), fun z => absurd z (by decide), fun z => absurd z (by decide), fun z => absurd z (by decide), fun z => absurd z (by decide)⟩
  · have hoff : ∀ x, 42 ≤ x → x ≤ 42 + 3 → H x = f x := fun x h4 h5 => by rw [hx x (by omega), hF x (by omega) (by omega) (by omega)]
    have hb42 : Blk 42 H ↔ Blk 42 f := Blk.off hoff
    have h42 : TRl 42 1 H := by
      obtain ⟨h1, h2, h3, h4, h5⟩ := (a3 (by decide)).1
      obtain ⟨m1, ⟨m2, -⟩, ⟨m3, -⟩, ⟨m4, -⟩, ⟨-, m5⟩, -, m6⟩ := hm
      refine ⟨fun s hs => ?_, fun s w hs hw => ?_, fun j hj => ?_, ?_, ?_⟩
      · rw [m2 _ (by omega), hF50 60 (by decide), h1 s hs, hoff _ (by omega) (by omega)]
      · rw [m3 _ (by omega), hF50 61 (by decide), h2 s w hs hw, hoff _ (by omega) (by omega)]
      · rw [m4 _ (by omega), hF50 64 (by decide), h3 j hj, hoff _ (by omega) (by omega)]
      · rw [m6 _ (by decide), hF50 63 (by decide), h4, hoff _ (by omega) (by omega)]
      · rw [m5 _ (by decide), hF50 62 (by decide), h5, hoff _ (by omega) (by omega)]
    exact ⟨⟨hH1, by decide, hH50⟩, ⟨hnew, hst⟩, fun _ => ⟨h42, (a3 (by decide)).2.off hoff⟩, fun z => absurd z (by decide), fun _ hb => hb42.mpr (a7 (by decide) (hbn.mp hb)), fun z => absurd z (by decide), fun z => absurd z (by decide)⟩
theorem op_back (h : Iv n lk ln c mr t kc f) : OP 104 185 [] f := by
  cases kc with
  | zero =>
    obtain ⟨k1, k2, k3⟩ := h.K.1
    exact OP.same h (r := -2) (by rw [eX8_back_1, k1, if_neg (by decide)]) (by rw [eX9_back_50, k3, if_pos nI_0])
  | succ kc =>
    obtain ⟨k1, k2, k3⟩ := h.K.1
    have hcases : kc = 0 ∨ kc = 1 := by omega
    have key : ∀ q, (q = 42 ∧ kc = 0) ∨ (q = 46 ∧ kc = 1) → ∀ G, CpC q 37 (am_up f 1 10 (nI kc)) G → am_call 104 [.ref 1] f = some (nI kc, G) → OP 104 185 [] f := by
      intro q hq G hc hC
      have hG : ∀ x, x ≠ 1 → (x < 37 ∨ 40 < x) → G x = f x := fun x h1 h2 => by
        rw [hc.1 x (by simp only [List.mem_cons, List.not_mem_nil, or_false]; omega), am_up_ne h1]
      have hG1 : G 1 10 = nI kc := by rw [hc.1 1 (by decide), am_up_same]
      obtain ⟨H, d1, d2⟩ := m_copy2 (a := kc + 1) (b := 0) (by omega) (by decide) (by omega) (am_up G 50 16 (nI kc))
      have g50 : G 50 16 = nI (kc + 1) := by rw [hG 50 (by decide) (by decide)]; exact k3
      have h50 : H 50 16 = nI kc := by rw [d2.1 50 (by decide), am_up_same]
      have hD : am_call 185 [.ref 50] G = some (nI kc, H) := by
        have e1 : 1 + nI kc = nI (kc + 1) := by
          show nI 1 + nI kc = _
          rw [nI_add, Nat.add_comm]
        have d1' : am_call 183 [.ref 50, .int (nI (kc + 1)), .int 0] (am_up G 50 16 (nI kc)) = some (0, H) := d1
        rw [eX9_back_50, g50, if_neg (nI_nez (by omega) (by omega)), nI_pred, am_up_same, e1, d1', am_cal_some, h50]
      refine OP.act hC hD ⟨hG 0 (by decide) (by decide), hG 77 (by decide) (by decide)⟩ ⟨by rw [d2.1 0 (by decide), am_up_ne (by decide)], by rw [d2.1 77 (by decide), am_up_ne (by decide)]⟩ (h.towns (kc' := kc) (fun x hx => ?_) (fun j hj => ?_) (back_K (q := q) (k := kc + 1) (G := am_up G 50 16 (nI kc)) (H := H) h (by omega) (fun x h1 h2 h3 => by rw [am_up_ne h2]; exact hG x h1 h3) ?_ d2 ?_ h50))
      · simp only [List.mem_cons, List.not_mem_nil, or_false, not_or] at hx
        rw [d2.1 x (by simp only [List.mem_cons, List.not_mem_nil, or_false]; omega), am_up_ne (by omega), hG x (by omega) (by omega)]
      · rw [d2.1 50 (by decide), am_up_j hj, hG 50 (by decide) (by decide)]
      · obtain ⟨c1, c2, c3, c4, c5, c6⟩ := hc
        rw [am_up_ne (by omega)] at c2 c3 c4 c5 c6
        rw [am_up_ne (by decide), am_up_ne (by decide), am_up_ne (by decide), am_up_ne (by decide)]
        exact ⟨c2, c3, c4, c5, c6⟩
      · rw [d2.1 1 (by decide), am_up_ne (by decide)]; exact hG1
    rcases hcases with rfl | rfl
    · obtain ⟨G, c1, c2⟩ := c_copy_37_42 (am_up f 1 10 (nI 0))
      refine key 42 (by omega) G c2 ?_
      have g110 : G 1 10 = nI 0 := by rw [c2.1 1 (by decide), am_up_same]
      rw [eX8_back_1, k1, if_pos (by decide), nI_pred, am_up_same, if_pos (by decide), c1, am_cal_some, g110]
    · obtain ⟨G, c1, c2⟩ := c_copy_37_46 (am_up f 1 10 (nI 1))
      refine key 46 (by omega) G c2 ?_
      have g110 : G 1 10 = nI 1 := by rw [c2.1 1 (by decide), am_up_same]
      rw [eX8_back_1, k1, if_pos (by decide), nI_pred, am_up_same, if_neg (by decide), if_pos (by decide), c1, am_cal_some, g110]
end Ops10

