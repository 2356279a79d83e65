section Find
variable {stand : Nat → Bool} {hm : Nat → Nat → Nat → Nat → Nat} {l B k : Nat}
theorem cx_drop {p : Nat → Bool} {x : Nat} (hx : p x = true) : ∀ n, cx (fun d => p d && !decide (x = d)) n + (if x < n then 1 else 0) = cx p n
  | 0 => by simp [cx]
  | n + 1 => by
    have ih := cx_drop hx n
    rw [cx, cx]
    by_cases e : x = n
    · subst e
      rw [hx]
      simp only [Nat.lt_irrefl, if_false, Nat.add_zero] at ih
      simp [ih]
    · have e2 : (x < n + 1) = (x < n) := propext ⟨fun h => by omega, fun h => by omega⟩
      simp only [e, decide_false, Bool.not_false, Bool.and_true, e2]
      omega
theorem cx_ext {p q : Nat → Bool} (h : ∀ d, p d = q d) (n : Nat) : cx p n = cx q n := by
  have : p = q := funext h
  rw [this]
theorem cx_left {D : Nat → Nat} : ∀ {a : Nat}, lgl stand D a = true → (∀ i, i < a → D i < B) → cx (fun d => stand d && neqB D d a) B + a = cx stand B
  | 0, _, _ => by
    rw [Nat.add_zero]
    exact cx_ext (fun d => by simp [neqB]) B
  | a + 1, h, hB => by
    rw [lgl, Bool.and_eq_true, Bool.and_eq_true] at h
    have ih := cx_left (a := a) h.1 (fun i hi => hB i (by omega))
    have hd := cx_drop (p := fun d => stand d && neqB D d a) (x := D a) (by simp [h.2.1, h.2.2]) B
    rw [if_pos (hB a (by omega))] at hd
    have e : cx (fun d => stand d && neqB D d (a + 1)) B = cx (fun d => (stand d && neqB D d a) && !decide (D a = d)) B := cx_ext (fun d => by rw [neqB, Bool.and_assoc]) B
    rw [e]
    omega
theorem cx_pos {p : Nat → Bool} : ∀ {n : Nat}, 0 < cx p n → ∃ d, d < n ∧ p d = true
  | 0, h => absurd h (Nat.lt_irrefl 0)
  | n + 1, h => by
    rw [cx] at h
    cases hp : p n with
    | true => exact ⟨n, by omega, hp⟩
    | false =>
      rw [hp] at h
      obtain ⟨d, h1, h2⟩ := cx_pos (p := p) (n := n) (by simpa using h)
      exact ⟨d, by omega, h2⟩
theorem fo_some {α : Type} {g : Nat → Option α → Option α} (hg : ∀ d a, a ≠ none → g d a ≠ none) : ∀ {n : Nat} {a : Option α}, (a ≠ none ∨ ∃ d, d < n ∧ ∀ a, g d a ≠ none) → fo g n a ≠ none
  | 0, a, h => by
    rcases h with h | ⟨d, h, -⟩
    · exact h
    · omega
  | n + 1, a, h => by
    rw [fo]
    rcases h with h | ⟨d, h1, h2⟩
    · exact hg n _ (fo_some hg (Or.inl h))
    · by_cases e : d = n
      · subst e; exact h2 _
      · exact hg n _ (fo_some hg (Or.inr ⟨d, by omega, h2⟩))
theorem dfs_keep (m a : Nat) (D : Nat → Nat) : ∀ acc : WAcc, acc ≠ none → dfs stand hm B m a D acc ≠ none :=
  dfs_all (P := fun acc => acc ≠ none) (fun E _ _ _ acc h => by
    unfold wput
    cases acc with
    | none => exact absurd rfl h
    | some z =>
      show (if hs hm E (a + m) < z.1 then some (hs hm E (a + m), E) else some z) ≠ none
      split <;> exact fun h => by cases h)
theorem dfs_some : ∀ (m a : Nat) (D : Nat → Nat) (acc : WAcc), lgl stand D a = true → (∀ i, i < a → D i < B) → a + m ≤ cx stand B → dfs stand hm B m a D acc ≠ none
  | 0, a, D, acc, hl, hB, hc => by
    rw [dfs, hl, if_pos rfl]
    unfold wput
    cases acc with
    | none => exact fun h => by cases h
    | some z =>
      show (if hs hm D a < z.1 then some (hs hm D a, D) else some z) ≠ none
      split <;> exact fun h => by cases h
  | m + 1, a, D, acc, hl, hB, hc => by
    rw [dfs]
    have hx := cx_left hl hB
    obtain ⟨d, h1, h2⟩ := cx_pos (p := fun d => stand d && neqB D d a) (n := B) (by omega)
    refine fo_some (fun d acc h => dfs_keep m (a + 1) _ acc h) (Or.inr ⟨d, h1, fun acc => dfs_some m (a + 1) _ acc ?_ (fun i hi => ?_) (by omega)⟩)
    · rw [lgl_setD, hl]
      exact h2
    · by_cases e : i = a
      · subst e; rw [setD_eq]; exact h1
      · rw [setD_ne e]; exact hB i (by omega)
/-- the best words -/
def WB (stand : Nat → Bool) (hm : Nat → Nat → Nat → Nat → Nat) (B k : Nat) : WAcc := dfs stand hm B k 0 (fun _ => 0) none
theorem WB_none : (WB stand hm B k = none) = (cx stand B < k) := by
  refine propext ⟨fun h => ?_, fun h => ?_⟩
  · have : ¬ 0 + k ≤ cx stand B := fun hle => dfs_some k 0 (fun _ => 0) none rfl (fun i hi => absurd hi (Nat.not_lt_zero _)) hle h
    omega
  · refine dfs_all (P := fun acc => acc = none) (fun E _ h2 h3 acc hacc => ?_) none rfl
    have := cx_left (B := B) h3 (fun i hi => h2 i (by omega) hi)
    omega
/-- what the class's wording holds -/
def WV (stand : Nat → Bool) (hm : Nat → Nat → Nat → Nat → Nat) (l B k : Nat) (g : Hp) : Prop := g 27 9 = nI (cx stand B) ∧ g 27 10 = nI k ∧ g 27 11 = encH (WB stand hm B k) ∧ ∀ z, WB stand hm B k = some z → z.1 < 1000000 ∧ ∀ i, i < k → g 32 i = nI (wd l (z.2 i))
end Find
section Find2
variable {f : Hp} {n c : Nat} {lk ln sh mr : Nat → Nat} {l k : Nat}
theorem hmN_le {h : Nat → Int32} (hmr : MRD mr h) (h2 : 2 ≤ l) (h4 : l ≤ 4) {i j d e : Nat} (hd : d < l * l) (he : e < l * l) : hmN lk n sh mr l i j d e ≤ 60000 := by
  have a1 := (rdW_nI hmr (wd_ok h2 h4 hd).1 (wd_ok h2 h4 he).1).2
  have a2 := (rdW_nI hmr (wd_ok h2 h4 he).1 (wd_ok h2 h4 hd).1).2
  have a3 := (tmN_le lk n sh i j).1
  unfold hmN
  have : (rWN mr (wd l d) (wd l e) + rWN mr (wd l e) (wd l d)) * tmN lk n sh i j ≤ 20000 * 3 := Nat.mul_le_mul (by omega) a3
  omega
theorem c_find16 (h : CS n lk ln c f) (hmr : MRD mr (f 21)) (hn : ∀ k, k < c → f 17 k = 110 → ∃ x y, x < 6 ∧ y < 6 ∧ f 18 k = nI x ∧ f 19 k = nI y) (h2 : 2 ≤ l) (h4 : l ≤ 4) (hk : f 22 6 = nI k) (hk4 : k ≤ 4) (hsh : ∀ a, a < k → f 26 a = nI (sh a) ∧ sh a < 512) (day : Int32) : ∃ g, am_run 56 16 [.ref 27, .int day, .int (nI l)] [] f = some (bi (!decide (WB (fun d => stW (f 17) (f 18) (f 19) c (wd l d)) (hmN lk n sh mr l) (l * l) k = none)), g) ∧ (∀ q, q ∉ [27, 28, 29, 30, 31, 32] → g q = f q) ∧ (∀ j, j ∉ [9, 10, 11, 12, 13] → g 27 j = f 27 j) ∧ g 27 12 = day ∧ g 27 13 = nI l ∧ WV (fun d => stW (f 17) (f 18) (f 19) c (wd l d)) (hmN lk n sh mr l) l (l * l) k g := by
  have hb : l * l ≤ 4 * 4 := Nat.mul_le_mul h4 h4
  generalize hst : (fun d => stW (f 17) (f 18) (f 19) c (wd l d)) = stand
  have emin : am_min (f 22 6) 4 = nI k := by
    rw [hk]
    unfold am_min
    rw [if_neg (show ¬ (4 : Int32) < nI k from nI_nlt (a := 4) hk4 (by decide))]
  rw [eX7_findWords_16_27, emin]
  generalize hf1 : am_up f 27 10 (nI k) = f1
  have h1 : ∀ q, q ≠ 27 → f1 q = f q := fun q hq => by rw [← hf1, am_up_ne hq]
  have h1j : ∀ j, j ≠ 10 → f1 27 j = f 27 j := fun j hj => by rw [← hf1, am_up_j hj]
  have h1k : f1 27 10 = nI k := by rw [← hf1, am_up_same]
  obtain ⟨g1, e1, e2, e3, e4, e5⟩ := c_gather (f := f1) (c := c) (l := l) h4 (by rw [h1 16 (by decide)]; exact h.2.2.2.2.2.2.1) h.2.2.2.2.2.2.2 (by rw [h1 17 (by decide), h1 18 (by decide), h1 19 (by decide)]; exact hn)
  rw [h1 17 (by decide), h1 18 (by decide), h1 19 (by decide)] at e4 e5
  rw [cw_all _ h2 h4, hst] at e4
  have e5' : ∀ d, d < l * l → stand d = true → g1 28 (cx stand d) = nI (wd l d) := by
    intro d hd hs
    obtain ⟨w1, w2⟩ := wd_ok h2 h4 hd
    have := e5 (wd l d) w1 w2 (by rw [← hst] at hs; exact hs)
    rwa [cw_cxA _ h2 h4 hd, hst] at this
  rw [e1, am_cal_some, eX7_compareAll_27]
  -- the candidates by their number
  have hcx : ∀ a, a < cx stand (l * l) → ∃ d, d < l * l ∧ stand d = true ∧ cx stand d = a := by
    intro a
    have : ∀ m, m ≤ l * l → a < cx stand m → ∃ d, d < l * l ∧ stand d = true ∧ cx stand d = a := by
      intro m
      induction m with
      | zero => intro _ h; exact absurd h (Nat.not_lt_zero _)
      | succ m ih =>
        intro hm h
        by_cases hlt : a < cx stand m
        · exact ih (by omega) hlt
        · rw [cx] at h
          cases hs : stand m with
          | false => rw [hs] at h; simp at h; omega
          | true =>
            rw [hs] at h
            simp only [if_true] at h
            exact ⟨m, by omega, hs, by omega⟩
    exact this (l * l) (Nat.le_refl _)
  obtain ⟨ca, hca⟩ : ∃ ca : Nat → Nat, ∀ a, a < cx stand (l * l) → ∃ d, d < l * l ∧ stand d = true ∧ cx stand d = a ∧ ca a = wd l d := by
    refine ⟨fun a => if h : a < cx stand (l * l) then wd l (Classical.choose (hcx a h)) else 0, fun a ha => ?_⟩
    obtain ⟨p1, p2, p3⟩ := Classical.choose_spec (hcx a ha)
    exact ⟨_, p1, p2, p3, dif_pos ha⟩
  have l2 := cx_le (stand := stand) (l * l)
  obtain ⟨T1, t1, t2⟩ := c_cmpA (f := g1) (ca := ca) (mr := mr) e4 (by omega) (fun a ha => by
    obtain ⟨d, p1, p2, p3, p4⟩ := hca a ha
    rw [p4, ← p3]
    exact ⟨e5' d p1 p2, (wd_ok h2 h4 p1).1⟩) (by rw [e2 21 (by decide) (by decide), h1 21 (by decide)]; exact hmr)
  rw [t1]
  have n1 : ∀ q, q ≠ 29 → setC g1 29 T1 q = g1 q := fun q hq => setC_ne hq
  have hcs1 : CS n lk ln c (setC g1 29 T1) := by
    obtain ⟨a1, a2, a3, a4, a5, a6, a7, a8⟩ := h
    have z : ∀ q, q ≠ 29 → q ≠ 27 → q ≠ 28 → setC g1 29 T1 q = f q := fun q x y w => by rw [n1 q x, e2 q y w, h1 q y]
    exact ⟨by rw [z 2 (by decide) (by decide) (by decide)]; exact a1, a2, by rw [z 7 (by decide) (by decide) (by decide)]; exact a3, a4, by rw [z 5 (by decide) (by decide) (by decide)]; exact a5, a6, by rw [z 16 (by decide) (by decide) (by decide)]; exact a7, a8⟩
  obtain ⟨T2, u1, u2⟩ := c_cmpB (f := setC g1 29 T1) (k := k) (sh := sh) hcs1 (by rw [n1 27 (by decide), e3 10 (by decide), h1k]) hk4 (fun a ha => by rw [n1 26 (by decide), e2 26 (by decide) (by decide), h1 26 (by decide)]; exact hsh a ha)
  rw [u1, am_cal_some]
  generalize hg2 : am_up (setC (setC g1 29 T1) 30 T2) 27 11 1000000 = g2
  have n2 : ∀ q, q ≠ 27 → q ≠ 29 → q ≠ 30 → g2 q = g1 q := fun q x y z => by rw [← hg2, am_up_ne x, setC_ne z, setC_ne y]
  have n2j : ∀ j, j ≠ 11 → g2 27 j = g1 27 j := fun j hj => by rw [← hg2, am_up_j hj, setC_ne (by decide), setC_ne (by decide)]
  have n29 : g2 29 = T1 := by rw [← hg2, am_up_ne (by decide), setC_ne (by decide), setC_eq]
  have n30 : g2 30 = T2 := by rw [← hg2, am_up_ne (by decide), setC_eq]
  have n11 : g2 27 11 = 1000000 := by rw [← hg2, am_up_same]
  have hchi : CHI stand (hmN lk n sh mr l) l (l * l) k g2 := by
    refine ⟨by rw [n2j 9 (by decide)]; exact e4, by rw [n2j 10 (by decide), e3 10 (by decide), h1k], by omega, hk4, ?_, ?_, fun i j d e _ _ hd he => hmN_le hmr h2 h4 hd he⟩
    · rw [n2 28 (by decide) (by decide) (by decide)]; exact e5'
    · intro i j d e hi hj hd he sd se
      have hcd : ∀ d, d < l * l → stand d = true → cx stand d < cx stand (l * l) ∧ ca (cx stand d) = wd l d := by
        intro d hd sd
        have hm := cx_mono (stand := stand) (show d + 1 ≤ l * l by omega)
        rw [cx, sd] at hm
        simp only [if_true] at hm
        have hlt : cx stand d < cx stand (l * l) := by omega
        obtain ⟨d', p1, p2, p3, p4⟩ := hca _ hlt
        rw [p4, (cx_inj p2 sd).mp p3]
        exact ⟨hlt, rfl⟩
      obtain ⟨x1, x2⟩ := hcd d hd sd
      obtain ⟨y1, y2⟩ := hcd e he se
      rw [n29, n30, t2 _ _ x1 y1, u2 i j hi hj, pk_mul, x2, y2]
      rfl
  obtain ⟨g3, v1, v2, v3⟩ := c_choose (stand := stand) (hm := hmN lk n sh mr l) (l := l) (B := l * l) (k := k) g2 (fun _ => 0) none hchi ⟨fun i hi => absurd hi (Nat.not_lt_zero _), n11, fun z hz => by cases hz⟩ rfl (fun i hi => absurd hi (Nat.not_lt_zero _)) (Nat.zero_le k)
  have v1' : am_call 63 [.ref 27, .int 0, .int 0] g2 = some (0, g3) := v1
  rw [v1', am_cal_some]
  have v3' : CHD stand l k (fun _ => 0) 0 (WB stand (hmN lk n sh mr l) (l * l) k) g3 := v3
  have w9 : am_up (am_up g3 27 12 day) 27 13 (nI l) 27 9 = nI (cx stand (l * l)) := by rw [am_up_j (by decide), am_up_j (by decide), v2.2.1 9 (by decide), n2j 9 (by decide), e4]
  have w10 : am_up (am_up g3 27 12 day) 27 13 (nI l) 27 10 = nI k := by rw [am_up_j (by decide), am_up_j (by decide), v2.2.1 10 (by decide), n2j 10 (by decide), e3 10 (by decide), h1k]
  rw [w9, w10, am_z0, am_z1]
  refine ⟨am_up (am_up g3 27 12 day) 27 13 (nI l), ?_, fun q hq => ?_, fun j hj => ?_, by rw [am_up_j (by decide), am_up_same], am_up_same _ _ _ _, w9, w10, ?_, ?_⟩
  · by_cases hlt : cx stand (l * l) < k
    · rw [if_pos (nI_lt hlt (by omega)), decide_eq_true (by rw [WB_none]; exact hlt)]
      rfl
    · rw [if_neg (nI_nlt (by omega) (by omega)), decide_eq_false (by rw [WB_none]; exact hlt)]
      rfl
  · simp only [List.mem_cons, List.not_mem_nil, or_false, not_or] at hq
    obtain ⟨q1, q2, q3, q4, q5, q6⟩ := hq
    rw [am_up_ne q1, am_up_ne q1, v2.1 q q1 q5 q6, n2 q q1 q3 q4, e2 q q1 q2, h1 q q1]
  · simp only [List.mem_cons, List.not_mem_nil, or_false, not_or] at hj
    obtain ⟨j1, j2, j3, j4, j5⟩ := hj
    rw [am_up_j j5, am_up_j j4, v2.2.1 j j3, n2j j j3, e3 j j1, h1j j j2]
  · rw [am_up_j (by decide), am_up_j (by decide)]
    exact v3'.2.1
  · intro z hz
    rw [am_up_ne (by decide), am_up_ne (by decide)]
    exact v3'.2.2 z hz
end Find2
