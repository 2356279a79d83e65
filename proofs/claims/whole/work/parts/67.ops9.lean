section Ops9
variable {n : Nat} {lk ln : Nat → Nat} {c : Nat} {mr : Nat → Nat} {t kc : Nat} {f g : Hp}
theorem am_cp_in (f : Hp) (q d : Nat) {nq nd sp dp m : Nat} (c : Hp → Option Rs) (h1 : sp + m ≤ nq) (h2 : dp + m ≤ nd) (hq : nq < 2 ^ 31) (hd : nd < 2 ^ 31) : am_cp f q d nq nd (nI sp) (nI dp) (nI m) c = c (setC f d (va_cpy (f q) (f d) sp dp m)) := by
  unfold am_cp
  rw [nI_toInt (by omega), nI_toInt (by omega), nI_toInt (by omega), nI_clamp (by omega), nI_clamp (by omega), nI_clamp (by omega), if_pos (by omega)]
  rfl
theorem cpy0 {w v : Nat → Int32} {m j : Nat} (h : j < m) : va_cpy w v 0 0 m j = w j := by
  rw [pk_cpy_in (Nat.zero_le _) (by omega)]
  congr 1
  omega
/-- the town of q is copied to d by the class -/
def CpC (q d : Nat) (f G : Hp) : Prop := (∀ a, a ∉ [d, d + 1, d + 2, d + 3] → G a = f a) ∧ (∀ s, s < 9 → G (d + 1) s = f (q + 1) s) ∧ (∀ j, j < 324 → G (d + 2) j = f (q + 2) j) ∧ (∀ j, j < 90 → G (d + 3) j = f (q + 3) j) ∧ G d 3 = f q 3 ∧ G d 4 = f q 4
theorem c_copy_46_37 (f : Hp) : ∃ G, am_call 43 [.ref 46, .ref 37] f = some (0, G) ∧ CpC 37 46 f G := by
  have p1 : ∀ (f : Hp) (c : Hp → Option Rs), am_cp f 38 47 9 9 0 0 (Int32.ofNat 9) c = c (setC f 47 (va_cpy (f 38) (f 47) 0 0 9)) := fun f c => am_cp_in (sp := 0) (dp := 0) (m := 9) f 38 47 c (by decide) (by decide) (by decide) (by decide)
  have p2 : ∀ (f : Hp) (c : Hp → Option Rs), am_cp f 39 48 324 324 0 0 (Int32.ofNat 324) c = c (setC f 48 (va_cpy (f 39) (f 48) 0 0 324)) := fun f c => am_cp_in (sp := 0) (dp := 0) (m := 324) f 39 48 c (by decide) (by decide) (by decide) (by decide)
  have p3 : ∀ (f : Hp) (c : Hp → Option Rs), am_cp f 40 49 90 90 0 0 (Int32.ofNat 90) c = c (setC f 49 (va_cpy (f 40) (f 49) 0 0 90)) := fun f c => am_cp_in (sp := 0) (dp := 0) (m := 90) f 40 49 c (by decide) (by decide) (by decide) (by decide)
  refine ⟨_, by rw [eX6_copy_46_37, p1, p2, p3], fun a ha => ?_, fun s hs => ?_, fun j hj => ?_, fun j hj => ?_, ?_, ?_⟩
  · simp only [List.mem_cons, List.not_mem_nil, or_false, not_or, Nat.reduceAdd] at ha
    rw [am_up_ne (by omega), am_up_ne (by omega), setC_ne (by omega), setC_ne (by omega), setC_ne (by omega)]
  · show (am_up _ _ _ _) 47 s = f 38 s
    rw [am_up_ne (by decide), am_up_ne (by decide), setC_ne (by decide), setC_ne (by decide), setC_eq, cpy0 hs]
  · show (am_up _ _ _ _) 48 j = f 39 j
    rw [am_up_ne (by decide), am_up_ne (by decide), setC_ne (by decide), setC_eq, cpy0 hj, setC_ne (by decide)]
  · show (am_up _ _ _ _) 49 j = f 40 j
    rw [am_up_ne (by decide), am_up_ne (by decide), setC_eq, cpy0 hj, setC_ne (by decide), setC_ne (by decide)]
  · rw [am_up_j (by decide), am_up_same, setC_ne (by decide), setC_ne (by decide), setC_ne (by decide)]
  · rw [am_up_same, am_up_ne (by decide), setC_ne (by decide), setC_ne (by decide), setC_ne (by decide)]
theorem c_copy_42_37 (f : Hp) : ∃ G, am_call 43 [.ref 42, .ref 37] f = some (0, G) ∧ CpC 37 42 f G := by
  have p1 : ∀ (f : Hp) (c : Hp → Option Rs), am_cp f 38 43 9 9 0 0 (Int32.ofNat 9) c = c (setC f 43 (va_cpy (f 38) (f 43) 0 0 9)) := fun f c => am_cp_in (sp := 0) (dp := 0) (m := 9) f 38 43 c (by decide) (by decide) (by decide) (by decide)
  have p2 : ∀ (f : Hp) (c : Hp → Option Rs), am_cp f 39 44 324 324 0 0 (Int32.ofNat 324) c = c (setC f 44 (va_cpy (f 39) (f 44) 0 0 324)) := fun f c => am_cp_in (sp := 0) (dp := 0) (m := 324) f 39 44 c (by decide) (by decide) (by decide) (by decide)
  have p3 : ∀ (f : Hp) (c : Hp → Option Rs), am_cp f 40 45 90 90 0 0 (Int32.ofNat 90) c = c (setC f 45 (va_cpy (f 40) (f 45) 0 0 90)) := fun f c => am_cp_in (sp := 0) (dp := 0) (m := 90) f 40 45 c (by decide) (by decide) (by decide) (by decide)
  refine ⟨_, by rw [eX6_copy_42_37, p1, p2, p3], fun a ha => ?_, fun s hs => ?_, fun j hj => ?_, fun j hj => ?_, ?_, ?_⟩
  · simp only [List.mem_cons, List.not_mem_nil, or_false, not_or, Nat.reduceAdd] at ha
    rw [am_up_ne (by omega), am_up_ne (by omega), setC_ne (by omega), setC_ne (by omega), setC_ne (by omega)]
  · show (am_up _ _ _ _) 43 s = f 38 s
    rw [am_up_ne (by decide), am_up_ne (by decide), setC_ne (by decide), setC_ne (by decide), setC_eq, cpy0 hs]
  · show (am_up _ _ _ _) 44 j = f 39 j
    rw [am_up_ne (by decide), am_up_ne (by decide), setC_ne (by decide), setC_eq, cpy0 hj, setC_ne (by decide)]
  · show (am_up _ _ _ _) 45 j = f 40 j
    rw [am_up_ne (by decide), am_up_ne (by decide), setC_eq, cpy0 hj, setC_ne (by decide), setC_ne (by decide)]
  · rw [am_up_j (by decide), am_up_same, setC_ne (by decide), setC_ne (by decide), setC_ne (by decide)]
  · rw [am_up_same, am_up_ne (by decide), setC_ne (by decide), setC_ne (by decide), setC_ne (by decide)]
theorem c_copy_37_46 (f : Hp) : ∃ G, am_call 43 [.ref 37, .ref 46] f = some (0, G) ∧ CpC 46 37 f G := by
  have p1 : ∀ (f : Hp) (c : Hp → Option Rs), am_cp f 47 38 9 9 0 0 (Int32.ofNat 9) c = c (setC f 38 (va_cpy (f 47) (f 38) 0 0 9)) := fun f c => am_cp_in (sp := 0) (dp := 0) (m := 9) f 47 38 c (by decide) (by decide) (by decide) (by decide)
  have p2 : ∀ (f : Hp) (c : Hp → Option Rs), am_cp f 48 39 324 324 0 0 (Int32.ofNat 324) c = c (setC f 39 (va_cpy (f 48) (f 39) 0 0 324)) := fun f c => am_cp_in (sp := 0) (dp := 0) (m := 324) f 48 39 c (by decide) (by decide) (by decide) (by decide)
  have p3 : ∀ (f : Hp) (c : Hp → Option Rs), am_cp f 49 40 90 90 0 0 (Int32.ofNat 90) c = c (setC f 40 (va_cpy (f 49) (f 40) 0 0 90)) := fun f c => am_cp_in (sp := 0) (dp := 0) (m := 90) f 49 40 c (by decide) (by decide) (by decide) (by decide)
  refine ⟨_, by rw [eX6_copy_37_46, p1, p2, p3], fun a ha => ?_, fun s hs => ?_, fun j hj => ?_, fun j hj => ?_, ?_, ?_⟩
  · simp only [List.mem_cons, List.not_mem_nil, or_false, not_or, Nat.reduceAdd] at ha
    rw [am_up_ne (by omega), am_up_ne (by omega), setC_ne (by omega), setC_ne (by omega), setC_ne (by omega)]
  · show (am_up _ _ _ _) 38 s = f 47 s
    rw [am_up_ne (by decide), am_up_ne (by decide), setC_ne (by decide), setC_ne (by decide), setC_eq, cpy0 hs]
  · show (am_up _ _ _ _) 39 j = f 48 j
    rw [am_up_ne (by decide), am_up_ne (by decide), setC_ne (by decide), setC_eq, cpy0 hj, setC_ne (by decide)]
  · show (am_up _ _ _ _) 40 j = f 49 j
    rw [am_up_ne (by decide), am_up_ne (by decide), setC_eq, cpy0 hj, setC_ne (by decide), setC_ne (by decide)]
  · rw [am_up_j (by decide), am_up_same, setC_ne (by decide), setC_ne (by decide), setC_ne (by decide)]
  · rw [am_up_same, am_up_ne (by decide), setC_ne (by decide), setC_ne (by decide), setC_ne (by decide)]
theorem c_copy_37_42 (f : Hp) : ∃ G, am_call 43 [.ref 37, .ref 42] f = some (0, G) ∧ CpC 42 37 f G := by
  have p1 : ∀ (f : Hp) (c : Hp → Option Rs), am_cp f 43 38 9 9 0 0 (Int32.ofNat 9) c = c (setC f 38 (va_cpy (f 43) (f 38) 0 0 9)) := fun f c => am_cp_in (sp := 0) (dp := 0) (m := 9) f 43 38 c (by decide) (by decide) (by decide) (by decide)
  have p2 : ∀ (f : Hp) (c : Hp → Option Rs), am_cp f 44 39 324 324 0 0 (Int32.ofNat 324) c = c (setC f 39 (va_cpy (f 44) (f 39) 0 0 324)) := fun f c => am_cp_in (sp := 0) (dp := 0) (m := 324) f 44 39 c (by decide) (by decide) (by decide) (by decide)
  have p3 : ∀ (f : Hp) (c : Hp → Option Rs), am_cp f 45 40 90 90 0 0 (Int32.ofNat 90) c = c (setC f 40 (va_cpy (f 45) (f 40) 0 0 90)) := fun f c => am_cp_in (sp := 0) (dp := 0) (m := 90) f 45 40 c (by decide) (by decide) (by decide) (by decide)
  refine ⟨_, by rw [eX6_copy_37_42, p1, p2, p3], fun a ha => ?_, fun s hs => ?_, fun j hj => ?_, fun j hj => ?_, ?_, ?_⟩
  · simp only [List.mem_cons, List.not_mem_nil, or_false, not_or, Nat.reduceAdd] at ha
    rw [am_up_ne (by omega), am_up_ne (by omega), setC_ne (by omega), setC_ne (by omega), setC_ne (by omega)]
  · show (am_up _ _ _ _) 38 s = f 43 s
    rw [am_up_ne (by decide), am_up_ne (by decide), setC_ne (by decide), setC_ne (by decide), setC_eq, cpy0 hs]
  · show (am_up _ _ _ _) 39 j = f 44 j
    rw [am_up_ne (by decide), am_up_ne (by decide), setC_ne (by decide), setC_eq, cpy0 hj, setC_ne (by decide)]
  · show (am_up _ _ _ _) 40 j = f 45 j
    rw [am_up_ne (by decide), am_up_ne (by decide), setC_eq, cpy0 hj, setC_ne (by decide), setC_ne (by decide)]
  · rw [am_up_j (by decide), am_up_same, setC_ne (by decide), setC_ne (by decide), setC_ne (by decide)]
  · rw [am_up_same, am_up_ne (by decide), setC_ne (by decide), setC_ne (by decide), setC_ne (by decide)]
theorem TW_cp {ww : Nat → Nat} {w v : Nat → Int32} (h9 : n ≤ 9) (h : TW n ww w) (e : ∀ s, s < 9 → v s = w s) : TW n ww v := ⟨fun s hs => by rw [e s (by omega)]; exact h.1 s hs, fun s h1 h2 => by rw [e s h2]; exact h.2 s h1 h2⟩
theorem Blk.cp {q d : Nat} (hc : ∀ s, s < 9 → g (d + 1) s = f (q + 1) s) (h3 : g d 3 = f q 3) (h4 : g d 4 = f q 4) : Blk d g ↔ Blk q f := by
  unfold Blk
  rw [h3, h4]
  exact ⟨fun h => ⟨fun s hs => by rw [← hc s hs]; exact h.1 s hs, h.2⟩, fun h => ⟨fun s hs => by rw [hc s hs]; exact h.1 s hs, h.2⟩⟩
theorem Gvn.cp {q d : Nat} (h9 : n ≤ 9) (hc : ∀ s, s < 9 → g (d + 1) s = f (q + 1) s) (hb : ∀ j, j < 90 → g (d + 3) j = f (q + 3) j) (h3 : g d 3 = f q 3) (h4 : g d 4 = f q 4) (h : Gvn n lk ln q f) : Gvn n lk ln d g := by
  obtain ⟨ww, e, dd, a1, a2, a3, a4, a5, a6, a7, a8⟩ := h
  refine ⟨ww, e, dd, a1, TW_cp h9 a2 hc, by rw [h3]; exact a3, a4, by rw [h4]; exact a5, a6, a7, fun i s hi hs => ?_⟩
  obtain ⟨v, v1, v2⟩ := a8 i s hi hs
  exact ⟨v, v1, by rw [hb _ (by omega)]; exact v2⟩
theorem TSt.cp {q d : Nat} (h9 : n ≤ 9) (hc : ∀ s, s < 9 → g (d + 1) s = f (q + 1) s) (hb : ∀ j, j < 90 → g (d + 3) j = f (q + 3) j) (h3 : g d 3 = f q 3) (h4 : g d 4 = f q 4) (h : TSt n lk ln q f) : TSt n lk ln d g := by
  rcases h with h | h
  · exact Or.inl ((Blk.cp hc h3 h4).mpr h)
  · exact Or.inr (Gvn.cp h9 hc hb h3 h4 h)
theorem Gvn.nb {q : Nat} (h : Gvn n lk ln q f) : ¬ Blk q f := by
  obtain ⟨ww, e, d, a1, a2, a3, a4, a5, a6, -⟩ := h
  intro hb
  exact m1_ne (d := d) (by omega) (hb.2.2.symm.trans a5)
/-- the town that stands has changed, and is given -/
theorem IK.act (h : IK n lk ln kc f) (h1 : g 1 10 = f 1 10) (h2 : g 50 16 = f 50 16) (hc : ∀ q, q ∈ [42, 43, 44, 45, 46, 47, 48, 49] → g q = f q) (h60 : ∀ j, 9 ≤ j → g 60 j = f 60 j) (h61 : ∀ j, 324 ≤ j → g 61 j = f 61 j) (h64 : ∀ j, 90 ≤ j → g 64 j = f 64 j) (h62 : ∀ j, 1 ≤ j → g 62 j = f 62 j) (h63 : ∀ j, 1 ≤ j → g 63 j = f 63 j) (ht : TRl 37 0 g) (hg : Gvn n lk ln 37 g) : IK n lk ln kc g := by
  obtain ⟨a1, -, a3, a4, -, -, a7⟩ := h
  have e42 : ∀ X : Prop, (Blk 42 g → X) → (Blk 42 f → X) := fun X hx hb => hx (by
    unfold Blk at hb ⊢
    simp only [Nat.reduceAdd] at hb ⊢
    rw [hc 42 (by decide), hc 43 (by decide)]
    exact hb)
  have e46 : Blk 46 g → Blk 46 f := fun hb => by
    unfold Blk at hb ⊢
    simp only [Nat.reduceAdd] at hb ⊢
    rw [hc 46 (by decide), hc 47 (by decide)] at hb
    exact hb
  refine ⟨⟨by rw [h1]; exact a1.1, a1.2.1, by rw [h2]; exact a1.2.2⟩, ⟨ht, Or.inr hg⟩, fun k => ⟨?_, ?_⟩, fun k => ⟨?_, ?_⟩, fun _ hb => absurd hb hg.nb, fun _ hb => absurd hb hg.nb, fun k hb => ?_⟩
  · obtain ⟨b1, b2, b3, b4, b5⟩ := (a3 k).1
    simp only [Nat.reduceAdd] at b1 b2 b3
    unfold TRl
    simp only [Nat.reduceAdd]
    rw [hc 42 (by decide), hc 43 (by decide), hc 44 (by decide), hc 45 (by decide), h63 1 (by decide), h62 1 (by decide)]
    exact ⟨fun s hs => by rw [h60 _ (by omega)]; exact b1 s hs, fun s w hs hw => by rw [h61 _ (by omega)]; exact b2 s w hs hw, fun j hj => by rw [h64 _ (by omega)]; exact b3 j hj, b4, b5⟩
  · have := (a3 k).2
    unfold TSt Gvn GvT Blk at this ⊢
    simp only [Nat.reduceAdd] at this ⊢
    rw [hc 42 (by decide), hc 43 (by decide), hc 45 (by decide)]
    exact this
  · obtain ⟨b1, b2, b3, b4, b5⟩ := (a4 k).1
    simp only [Nat.reduceAdd] at b1 b2 b3
    unfold TRl
    simp only [Nat.reduceAdd]
    rw [hc 46 (by decide), hc 47 (by decide), hc 48 (by decide), hc 49 (by decide), h63 2 (by decide), h62 2 (by decide)]
    exact ⟨fun s hs => by rw [h60 _ (by omega)]; exact b1 s hs, fun s w hs hw => by rw [h61 _ (by omega)]; exact b2 s w hs hw, fun j hj => by rw [h64 _ (by omega)]; exact b3 j hj, b4, b5⟩
  · have := (a4 k).2
    unfold TSt Gvn GvT Blk at this ⊢
    simp only [Nat.reduceAdd] at this ⊢
    rw [hc 46 (by decide), hc 47 (by decide), hc 49 (by decide)]
    exact this
  · have := a7 k (e46 hb)
    unfold Blk at this ⊢
    simp only [Nat.reduceAdd] at this ⊢
    rw [hc 42 (by decide), hc 43 (by decide)]
    exact this
theorem m_edL {e : Nat} (he : e < 10) (f : Hp) (h63 : f 63 0 = nI e) : ∀ d s T, s + d = 9 → ∃ T', am_run 180 26 [.ref 50, .int (nI s)] [] (setC f 64 T) = some (nI e, am_up (setC f 64 T') 63 0 (nI (e + 1))) ∧ (∀ j, j < 9 * e + s → T' j = T j) ∧ (∀ j, 9 * e + 9 ≤ j → T' j = T j) ∧ ∀ i, s ≤ i → i < 9 → T' (9 * e + i) = f 60 i := by
  intro d
  induction d with
  | zero =>
    intro s T hs
    have : s = 9 := by omega
    subst this
    refine ⟨T, ?_, fun _ _ => rfl, fun _ _ => rfl, fun i h1 h2 => by omega⟩
    have z1 : ∀ (k : Hp) (x : Int32) (c : Hp → Option Rs), am_ast k 63 3 0 x c = c (am_up k 63 0 x) := fun k x c => am_ast_in (j := 0) _ _ _ c (by decide) (by decide)
    rw [eX9_edition_26_50, if_neg (by decide), ald_0 _ _ _ (by decide) (by decide), z1, ald_0 _ _ _ (by decide) (by decide), am_up_same, setC_ne (by decide), h63, nI_1, nI_pred]
  | succ d ih =>
    intro s T hs
    obtain ⟨T', a1, a2, a3, a4⟩ := ih (s + 1) (upd T (9 * e + s) (f 60 s)) (by omega)
    refine ⟨T', ?_, fun j hj => by rw [a2 j (by omega), upd_ne (by omega)], fun j hj => by rw [a3 j hj, upd_ne (by omega)], fun i h1 h2 => ?_⟩
    · rw [eX9_edition_26_50, if_pos (show nI s < (9 : Int32) from nI_lt (b := 9) (by omega) (by decide)), ald_0 _ _ _ (by decide) (by decide), am_ald_in _ _ _ (show s < 27 by omega) (by decide), setC_ne (by decide), h63, idx9', setC_ne (by decide), am_ast_in _ _ _ _ (show 9 * e + s < 270 by omega) (by decide), up_setC, nI_1, a1]
    · by_cases ei : i = s
      · subst ei
        rw [a2 _ (by omega), upd_same]
      · exact a4 i (by omega) h2
theorem op_edition (h : Iv n lk ln c mr t kc f) : OP 100 180 [] f := by
  have h9 := h.n9
  by_cases e5 : f 37 4 < 0
  · refine OP.same h (r := -2) ?_ ?_
    · rw [eX8_edition_1, c_isGiven, am_cal_some, decide_eq_true e5, Bool.not_true, bi_f, if_pos rfl]
    · rw [eX9_edition_50, h.areGiven, am_cal_some, decide_eq_true e5, Bool.not_true, bi_f, if_pos rfl]
  rcases h.gv with ⟨z, -⟩ | ⟨-, ww, e, d, hg⟩
  · exact absurd z e5
  obtain ⟨b1, b2, b3, b4, b5, b6, b7, b8⟩ := hg
  have b3 : f 37 3 = nI e := b3
  by_cases e6 : e = 10
  · refine OP.same h (r := -3) ?_ ?_
    · rw [eX8_edition_1, c_isGiven, am_cal_some, decide_eq_false e5, Bool.not_false, bi_t, if_neg one_ne, b3, if_neg (show ¬ nI e < (10 : Int32) by rw [e6]; decide)]
    · rw [eX9_edition_50, h.areGiven, am_cal_some, decide_eq_false e5, Bool.not_false, bi_t, if_neg one_ne, ald_0 _ _ _ (by decide) (by decide), h.te, b3, if_pos (show nI e = (10 : Int32) by rw [e6]; rfl)]
  have he : e < 10 := by omega
  have me : nI e * 9 = nI (e * 9) := pk_mul e 9
  have p1 : ∀ (c : Hp → Option Rs), am_cp f 38 40 9 90 0 (nI (e * 9)) 9 c = c (setC f 40 (va_cpy (f 38) (f 40) 0 (e * 9) 9)) := fun c => am_cp_in (sp := 0) (m := 9) f 38 40 c (by decide) (by omega) (by decide) (by decide)
  have hC : am_call 100 [.ref 1] f = some (nI e, am_up (setC f 40 (va_cpy (f 38) (f 40) 0 (e * 9) 9)) 37 3 (nI (e + 1))) := by
    rw [eX8_edition_1, c_isGiven, am_cal_some, decide_eq_false e5, Bool.not_false, bi_t, if_neg one_ne, b3, if_pos (show nI e < (10 : Int32) from nI_lt (b := 10) (by omega) (by decide)), eX6_print_37, b3, me, p1, am_cal_some, am_up_same, setC_ne (by decide), b3, nI_1, nI_pred]
  have c2 : ∀ q, q ≠ 37 → q ≠ 40 → am_up (setC f 40 (va_cpy (f 38) (f 40) 0 (e * 9) 9)) 37 3 (nI (e + 1)) q = f q := fun q p r => by rw [am_up_ne p, setC_ne r]
  have c37 : am_up (setC f 40 (va_cpy (f 38) (f 40) 0 (e * 9) 9)) 37 3 (nI (e + 1)) 37 3 = nI (e + 1) := am_up_same _ _ _ _
  have c374 : am_up (setC f 40 (va_cpy (f 38) (f 40) 0 (e * 9) 9)) 37 3 (nI (e + 1)) 37 4 = f 37 4 := by rw [am_up_j (by decide), setC_ne (by decide)]
  have c40 : am_up (setC f 40 (va_cpy (f 38) (f 40) 0 (e * 9) 9)) 37 3 (nI (e + 1)) 40 = va_cpy (f 38) (f 40) 0 (e * 9) 9 := by rw [am_up_ne (by decide), setC_eq]
  generalize am_up (setC f 40 (va_cpy (f 38) (f 40) 0 (e * 9) 9)) 37 3 (nI (e + 1)) = G at hC c2 c37 c374 c40
  have g63 : G 63 0 = nI e := by rw [c2 63 (by decide) (by decide), h.te]; exact b3
  have gAr : am_call 123 [.ref 50] G = some (1, G) := by
    have key : am_run 123 4 [.ref 50, .int 0, .int 0] [] G = _ := m_areG (f := G) (n := n) n 0 false (by omega) h9 (by rw [c2 50 (by decide) (by decide)]; exact h.n0)
    have hfa := h.areGiven
    rw [eX9_areGiven_50] at hfa
    have keyf : am_run 123 4 [.ref 50, .int 0, .int 0] [] f = _ := m_areG (f := f) (n := n) n 0 false (by omega) h9 h.n0
    rw [keyf, decide_eq_false e5] at hfa
    have e := (Prod.mk.inj (Option.some.inj hfa)).1
    rw [eX9_areGiven_50, key, c2 60 (by decide) (by decide), e]; rfl
  obtain ⟨T, t1, t2, t3, t4⟩ := m_edL he G g63 9 0 (G 64) (by omega)
  rw [setC_self] at t1
  have t1 : am_run 180 26 [.ref 50, .int 0] [] G = _ := t1
  have hD : am_call 180 [.ref 50] G = some (nI e, am_up (setC G 64 T) 63 0 (nI (e + 1))) := by
    rw [eX9_edition_50, gAr, am_cal_some, if_neg one_ne, ald_0 _ _ _ (by decide) (by decide), g63, if_neg (show ¬ nI e = (10 : Int32) from fun z => e6 ((nI_eq (b := 10) (by omega) (by decide)).mp z)), t1]
  have d2 : ∀ q, q ∉ [37, 40, 63, 64] → am_up (setC G 64 T) 63 0 (nI (e + 1)) q = f q := fun q hq => by
    simp only [List.mem_cons, List.not_mem_nil, or_false, not_or] at hq
    rw [am_up_ne (by omega), setC_ne (by omega), c2 q (by omega) (by omega)]
  have d64 : am_up (setC G 64 T) 63 0 (nI (e + 1)) 64 = T := by rw [am_up_ne (by decide), setC_eq]
  have d63 : am_up (setC G 64 T) 63 0 (nI (e + 1)) 63 0 = nI (e + 1) := am_up_same _ _ _ _
  have d63' : ∀ j, 1 ≤ j → am_up (setC G 64 T) 63 0 (nI (e + 1)) 63 j = f 63 j := fun j hj => by rw [am_up_j (by omega), setC_ne (by decide), c2 63 (by decide) (by decide)]
  have d37 : am_up (setC G 64 T) 63 0 (nI (e + 1)) 37 = G 37 := by rw [am_up_ne (by decide), setC_ne (by decide)]
  have d40 : am_up (setC G 64 T) 63 0 (nI (e + 1)) 40 = G 40 := by rw [am_up_ne (by decide), setC_ne (by decide)]
  have hH : (am_up (setC G 64 T) 63 0 (nI (e + 1))) 0 = G 0 ∧ (am_up (setC G 64 T) 63 0 (nI (e + 1))) 77 = G 77 := ⟨by rw [am_up_ne (by decide), setC_ne (by decide)], by rw [am_up_ne (by decide), setC_ne (by decide)]⟩
  generalize am_up (setC G 64 T) 63 0 (nI (e + 1)) = H at hD d2 d64 d63 d63' d37 d40 hH
  have cpi : ∀ s, s < 9 → G 40 (e * 9 + s) = f 38 s := fun s hs => by
    rw [c40, pk_cpy_in (by omega) (by omega)]
    congr 1
    omega
  have cpo : ∀ j, (j < e * 9 ∨ e * 9 + 9 ≤ j) → G 40 j = f 40 j := fun j hj => by rw [c40, pk_cpy_out hj]
  have g64 : G 64 = f 64 := c2 64 (by decide) (by decide)
  refine OP.act hC hD ⟨c2 0 (by decide) (by decide), c2 77 (by decide) (by decide)⟩ hH ⟨n, lk, ln, c, mr, t, kc, h.1.keep (by rw [d2 2 (by decide)]) (fun q hq => d2 q (fun z => ?_)) (by rw [d2 50 (by decide)]), h.2.1.keep (by rw [d2 16 (by decide)]) (by rw [d2 57 (by decide)]) (d2 17 (by decide)) (d2 18 (by decide)) (d2 19 (by decide)) (fun j _ => by rw [d2 58 (by decide)]), h.2.2.1.keep (by rw [d2 10 (by decide)]) (by rw [d2 50 (by decide)]) (d2 11 (by decide)) (d2 56 (by decide)), h.M.keep (d2 21 (by decide)) (d2 59 (by decide)), h.K.act (by rw [d2 1 (by decide)]) (by rw [d2 50 (by decide)]) (fun q hq => d2 q (fun z => ?_)) (fun j _ => by rw [d2 60 (by decide)]) (fun j _ => by rw [d2 61 (by decide)]) (fun j hj => by rw [d64, t3 j (by omega), g64]) (fun j _ => by rw [d2 62 (by decide)]) d63' ⟨?_, ?_, ?_, ?_, ?_⟩ ⟨ww, e + 1, d, b1, ?_, ?_, by omega, ?_, b6, b7, ?_⟩, h.C.keep (by rw [d2 2 (by decide)]) (fun q hq => d2 q (fun z => ?_))⟩
  · simp only [List.mem_cons, List.not_mem_nil, or_false] at z hq
    omega
  · simp only [List.mem_cons, List.not_mem_nil, or_false] at z hq
    omega
  · intro s hs
    show H 60 (9 * 0 + s) = H 38 s
    rw [d2 60 (by decide), d2 38 (by decide)]
    exact h.K.2.1.1.1 s hs
  · intro s w hs hw
    show H 61 (324 * 0 + (9 * w + s)) = H 39 (s * 36 + w)
    rw [d2 61 (by decide), d2 39 (by decide)]
    exact h.K.2.1.1.2.1 s w hs hw
  · intro j hj
    show H 64 (90 * 0 + j) = H 40 j
    rw [d64, d40, show 90 * 0 + j = j by omega]
    by_cases q1 : j < e * 9
    · rw [t2 j (by omega), g64, cpo j (Or.inl q1)]
      exact h.tb j hj
    · by_cases q2 : e * 9 + 9 ≤ j
      · rw [t3 j (by omega), g64, cpo j (Or.inr q2)]
        exact h.tb j hj
      · have p1 := t4 (j - e * 9) (by omega) (by omega)
        have p2 := cpi (j - e * 9) (by omega)
        rw [show 9 * e + (j - e * 9) = j by omega] at p1
        rw [show e * 9 + (j - e * 9) = j by omega] at p2
        rw [p1, p2, c2 60 (by decide) (by decide)]
        exact h.tw _ (by omega)
  · show H 63 0 = H 37 3
    rw [d63, d37, c37]
  · show H 62 0 = H 37 4
    rw [d2 62 (by decide), d37, c374]
    exact h.tl
  · show TW n ww (H 38)
    rw [d2 38 (by decide)]
    exact b2
  · rw [d37]; exact c37
  · rw [d37, c374]; exact b5
  · intro i s hi hs
    show ∃ v, v < 36 ∧ H 40 (i * 9 + s) = nI v
    rw [d40]
    by_cases ei : i = e
    · subst ei
      obtain ⟨v1, v2⟩ := b2.1 s hs
      exact ⟨ww s, v2, by rw [cpi s (by omega)]; exact v1⟩
    · obtain ⟨v, v1, v2⟩ := b8 i s (by omega) hs
      exact ⟨v, v1, by rw [cpo _ (by omega)]; exact v2⟩
  · simp only [List.mem_cons, List.not_mem_nil, or_false] at z hq
    omega
end Ops9

