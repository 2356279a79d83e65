section Inv
/-- the doors, growths and mails are small -/
def DB (f : Hp) : Prop := ∀ s, ∃ d g m : Nat, f 3 s = nI d ∧ d ≤ 200 ∧ f 4 s = nI g ∧ g ≤ 20 ∧ f 6 s = nI m ∧ m ≤ 50
/-- streets of both -/
def IA (n : Nat) (lk ln : Nat → Nat) (f : Hp) : Prop := (f 2 7 = nI n ∧ n ≤ 9 ∧ (∀ i, f 7 i = nI (lk i)) ∧ (∀ i, lk i ≤ 500) ∧ (∀ i, f 5 i = nI (ln i)) ∧ ∀ i, ln i ≤ 500) ∧ (f 50 0 = nI n ∧ f 51 = f 3 ∧ f 52 = f 4 ∧ f 53 = f 5 ∧ f 54 = f 6 ∧ f 55 = f 7) ∧ (∀ a b, a < 9 → b < 9 → lk (9 * a + b) = lk (9 * b + a)) ∧ DB f
/-- an item that was read -/
def vIt (l x y : Int32) : Prop := ∃ a b : Nat, x = nI a ∧ y = nI b ∧ a < 100000 ∧ b < 100000 ∧ (l = 110 → a < 6 ∧ b < 6) ∧ ((l = 115 ∨ l = 117) → a < 9 ∧ b < 9)
/-- items in force of both -/
def IB (c : Nat) (f : Hp) : Prop := f 16 3 = nI c ∧ c ≤ 40 ∧ f 57 1 = nI c ∧ ∀ k, k < c → f 58 (150 + 3 * k) = f 17 k ∧ f 58 (151 + 3 * k) = f 18 k ∧ f 58 (152 + 3 * k) = f 19 k ∧ vIt (f 17 k) (f 18 k) (f 19 k)
/-- texts of both -/
def IT (t : Nat) (f : Hp) : Prop := f 10 1 = nI t ∧ t ≤ 200 ∧ f 50 6 = nI t ∧ ∀ j, j < t → f 56 j = f 11 j &&& 255
def IM (mr : Nat → Nat) (f : Hp) : Prop := f 59 = f 21 ∧ MRD mr (f 21)
/-- sides of a word -/
def cdS (n : Nat) (ww : Nat → Nat) (y : Nat) : Nat := setOf (fun t => decide (ww t = y)) n
/-- a town of the class, and the reference's k-th -/
def TRl (q k : Nat) (f : Hp) : Prop := (∀ s, s < 9 → f 60 (9 * k + s) = f (q + 1) s) ∧ (∀ s w, s < 9 → w < 36 → f 61 (324 * k + (9 * w + s)) = f (q + 2) (s * 36 + w)) ∧ (∀ j, j < 90 → f 64 (90 * k + j) = f (q + 3) j) ∧ f 63 k = f q 3 ∧ f 62 k = f q 4
def Blk (q : Nat) (f : Hp) : Prop := (∀ s, s < 9 → f (q + 1) s = -1) ∧ f q 3 = 0 ∧ f q 4 = -1
def GvT (n : Nat) (lk ln : Nat → Nat) (ww : Nat → Nat) (e d q : Nat) (f : Hp) : Prop := 1 ≤ n ∧ TW n ww (f (q + 1)) ∧ f q 3 = nI e ∧ e ≤ 10 ∧ f q 4 = nI d ∧ d ≤ 14600 ∧ (∀ s, s < n → WS lk ln n (cdS n ww (ww s)) ≠ none) ∧ ∀ i s, i < e → s < n → ∃ v, v < 36 ∧ f (q + 3) (i * 9 + s) = nI v
def Gvn (n : Nat) (lk ln : Nat → Nat) (q : Nat) (f : Hp) : Prop := ∃ ww e d, GvT n lk ln ww e d q f
def TSt (n : Nat) (lk ln : Nat → Nat) (q : Nat) (f : Hp) : Prop := Blk q f ∨ Gvn n lk ln q f
/-- towns of both -/
def IK (n : Nat) (lk ln : Nat → Nat) (kc : Nat) (f : Hp) : Prop := (f 1 10 = nI kc ∧ kc ≤ 2 ∧ f 50 16 = nI kc) ∧ (TRl 37 0 f ∧ TSt n lk ln 37 f) ∧ (1 ≤ kc → TRl 42 1 f ∧ TSt n lk ln 42 f) ∧ (2 ≤ kc → TRl 46 2 f ∧ TSt n lk ln 46 f) ∧ (1 ≤ kc → Blk 37 f → Blk 42 f) ∧ (2 ≤ kc → Blk 37 f → Blk 46 f) ∧ (2 ≤ kc → Blk 46 f → Blk 42 f)
/-- the shapes of a day -/
noncomputable def shO (n : Nat) (lk ln : Nat → Nat) (c d : Nat) (f : Hp) : List Nat := SH (Rd (f 3) (f 4) (f 17) (f 18) (f 19) n c lk ln (nI d)) (Wd lk ln n) n
/-- what is kept to be used again -/
def IC (n : Nat) (lk ln : Nat → Nat) (c : Nat) (mr : Nat → Nat) (f : Hp) : Prop := WC n lk ln f ∧ f 24 0 = 0 ∧ f 36 0 = 0 ∧ (∀ d, d ≤ 14600 → f 22 8 = nI d → SV (Rd (f 3) (f 4) (f 17) (f 18) (f 19) n c lk ln (nI d)) (Wd lk ln n) n f) ∧ ∀ d l, d ≤ 14600 → 2 ≤ l → l ≤ 4 → f 27 12 = nI d → f 27 13 = nI l → WV (fun w => stW (f 17) (f 18) (f 19) c (wd l w)) (hmN lk n (fun a => (shO n lk ln c d f).getD a 0) mr l) l (l * l) (shO n lk ln c d f).length f
/-- all that holds between two calls -/
def Iv (n : Nat) (lk ln : Nat → Nat) (c : Nat) (mr : Nat → Nat) (t kc : Nat) (f : Hp) : Prop := IA n lk ln f ∧ IB c f ∧ IT t f ∧ IM mr f ∧ IK n lk ln kc f ∧ IC n lk ln c mr f
def Inv (f : Hp) : Prop := ∃ n lk ln c mr t kc, Iv n lk ln c mr t kc f
/-- the reference's scratch alone has changed -/
def AgR (f g : Hp) : Prop := (∀ q, q < 50 → g q = f q) ∧ g 77 = f 77 ∧ g 50 0 = f 50 0 ∧ g 50 6 = f 50 6 ∧ g 50 16 = f 50 16 ∧ (∀ q, 51 ≤ q → q ≤ 64 → q ≠ 57 → q ≠ 58 → g q = f q) ∧ g 57 1 = f 57 1 ∧ ∀ j, 150 ≤ j → g 58 j = f 58 j
/-- the class's scratch alone has changed -/
def AgC (f g : Hp) : Prop := (∀ q, 50 ≤ q → g q = f q) ∧ g 0 = f 0 ∧ (∀ q, q ∉ [2, 8, 9, 12, 13, 14, 15, 22, 23, 24, 25, 26, 27, 28, 29, 30, 31, 32, 33, 34, 35, 36] → g q = f q) ∧ ∀ j, j ≠ 8 → g 2 j = f 2 j
theorem AgR.refl (f : Hp) : AgR f f := ⟨fun _ _ => rfl, rfl, rfl, rfl, rfl, fun _ _ _ _ _ => rfl, rfl, fun _ _ => rfl⟩
theorem AgC.refl (f : Hp) : AgC f f := ⟨fun _ _ => rfl, rfl, fun _ _ => rfl, fun _ _ => rfl⟩
theorem AgR.trans {f g h : Hp} (a : AgR f g) (b : AgR g h) : AgR f h := ⟨fun q x => by rw [b.1 q x, a.1 q x], by rw [b.2.1, a.2.1], by rw [b.2.2.1, a.2.2.1], by rw [b.2.2.2.1, a.2.2.2.1], by rw [b.2.2.2.2.1, a.2.2.2.2.1], fun q x y z w => by rw [b.2.2.2.2.2.1 q x y z w, a.2.2.2.2.2.1 q x y z w], by rw [b.2.2.2.2.2.2.1, a.2.2.2.2.2.2.1], fun j x => by rw [b.2.2.2.2.2.2.2 j x, a.2.2.2.2.2.2.2 j x]⟩
theorem AgC.trans {f g h : Hp} (a : AgC f g) (b : AgC g h) : AgC f h := ⟨fun q x => by rw [b.1 q x, a.1 q x], by rw [b.2.1, a.2.1], fun q x => by rw [b.2.2.1 q x, a.2.2.1 q x], fun j x => by rw [b.2.2.2 j x, a.2.2.2 j x]⟩
/-- most scratch of the reference -/
theorem AgR.of {f g : Hp} (h : ∀ q, q ∉ [50, 65, 66, 67, 68, 69, 70, 71, 72, 73, 74, 75, 76] → g q = f q) (h50 : ∀ j, j ∉ [18, 19, 20, 25, 27, 30, 31] → g 50 j = f 50 j) : AgR f g := by
  have hh : ∀ q, (q < 50 ∨ q = 77 ∨ (51 ≤ q ∧ q ≤ 64)) → g q = f q := fun q hq => h q (by simp only [List.mem_cons, List.not_mem_nil, or_false]; omega)
  exact ⟨fun q x => hh q (Or.inl x), hh 77 (by omega), h50 0 (by decide), h50 6 (by decide), h50 16 (by decide), fun q a b _ _ => hh q (by omega), by rw [hh 57 (by omega)], fun j _ => by rw [hh 58 (by omega)]⟩
theorem AgC.of {f g : Hp} (h : ∀ q, q ∉ [2, 8, 9, 12, 13, 14, 15, 22, 23, 24, 25, 26, 27, 28, 29, 30, 31, 32, 33, 34, 35, 36] → g q = f q) (h2 : ∀ j, j ≠ 8 → g 2 j = f 2 j) : AgC f g :=
  ⟨fun q x => h q (by simp only [List.mem_cons, List.not_mem_nil, or_false]; omega), h 0 (by decide), h, h2⟩
theorem SV.keep {R : Nat → Bool} {Wt : Nat → Nat} {n : Nat} {f g : Hp} (h : SV R Wt n f) (h23 : g 23 = f 23) (h226 : g 22 6 = f 22 6) (h227 : g 22 7 = f 22 7) (h26 : g 26 = f 26) : SV R Wt n g := by
  unfold SV
  rw [h23, h226, h227, h26]
  exact h
theorem WV.keep {stand : Nat → Bool} {hm : Nat → Nat → Nat → Nat → Nat} {l B k : Nat} {f g : Hp} (h : WV stand hm l B k f) (h27 : g 27 9 = f 27 9) (h27' : g 27 10 = f 27 10) (h27'' : g 27 11 = f 27 11) (h32 : g 32 = f 32) : WV stand hm l B k g := by
  unfold WV
  rw [h27, h27', h27'', h32]
  exact h
theorem WC.keep {n : Nat} {lk ln : Nat → Nat} {f g : Hp} (h : WC n lk ln f) (h2 : g 2 8 = f 2 8) (h8 : g 8 = f 8) (h9 : g 9 = f 9) : WC n lk ln g := by
  unfold WC W1
  rw [h2, h8, h9]
  exact h
variable {n : Nat} {lk ln : Nat → Nat} {c : Nat} {mr : Nat → Nat} {t kc : Nat} {f g : Hp}
theorem IA.keep (h : IA n lk ln f) (h27 : g 2 7 = f 2 7) (hc : ∀ q, q ∈ [3, 4, 5, 6, 7, 51, 52, 53, 54, 55] → g q = f q) (h50 : g 50 0 = f 50 0) : IA n lk ln g := by
  unfold IA DB
  rw [h27, h50, hc 3 (by decide), hc 4 (by decide), hc 5 (by decide), hc 6 (by decide), hc 7 (by decide), hc 51 (by decide), hc 52 (by decide), hc 53 (by decide), hc 54 (by decide), hc 55 (by decide)]
  exact h
theorem IB.keep (h : IB c f) (h1 : g 16 3 = f 16 3) (h2 : g 57 1 = f 57 1) (h17 : g 17 = f 17) (h18 : g 18 = f 18) (h19 : g 19 = f 19) (h58 : ∀ j, 150 ≤ j → g 58 j = f 58 j) : IB c g := by
  unfold IB
  rw [h1, h2, h17, h18, h19]
  refine ⟨h.1, h.2.1, h.2.2.1, fun k hk => ?_⟩
  rw [h58 _ (by omega), h58 _ (by omega), h58 _ (by omega)]
  exact h.2.2.2 k hk
theorem IT.keep (h : IT t f) (h1 : g 10 1 = f 10 1) (h2 : g 50 6 = f 50 6) (h3 : g 11 = f 11) (h4 : g 56 = f 56) : IT t g := by
  unfold IT
  rw [h1, h2, h3, h4]
  exact h
theorem IM.keep (h : IM mr f) (h1 : g 21 = f 21) (h2 : g 59 = f 59) : IM mr g := by
  unfold IM
  rw [h1, h2]
  exact h
theorem IK.keep (h : IK n lk ln kc f) (h1 : g 1 10 = f 1 10) (h2 : g 50 16 = f 50 16) (hc : ∀ q, q ∈ [37, 38, 39, 40, 42, 43, 44, 45, 46, 47, 48, 49, 60, 61, 62, 63, 64] → g q = f q) : IK n lk ln kc g := by
  unfold IK TSt Gvn GvT TRl Blk
  simp only [Nat.reduceAdd]
  rw [h1, h2, hc 37 (by decide), hc 38 (by decide), hc 39 (by decide), hc 40 (by decide), hc 42 (by decide), hc 43 (by decide), hc 44 (by decide), hc 45 (by decide), hc 46 (by decide), hc 47 (by decide), hc 48 (by decide), hc 49 (by decide), hc 60 (by decide), hc 61 (by decide), hc 62 (by decide), hc 63 (by decide), hc 64 (by decide)]
  exact h
theorem IC.keep (h : IC n lk ln c mr f) (h2 : g 2 8 = f 2 8) (hc : ∀ q, q ∈ [3, 4, 8, 9, 17, 18, 19, 22, 23, 24, 26, 27, 32, 36] → g q = f q) : IC n lk ln c mr g := by
  unfold IC WC W1 SV WV shO
  rw [h2, hc 3 (by decide), hc 4 (by decide), hc 8 (by decide), hc 9 (by decide), hc 17 (by decide), hc 18 (by decide), hc 19 (by decide), hc 22 (by decide), hc 23 (by decide), hc 24 (by decide), hc 26 (by decide), hc 27 (by decide), hc 32 (by decide), hc 36 (by decide)]
  exact h
theorem Iv.ref (h : Iv n lk ln c mr t kc f) (a : AgR f g) : Iv n lk ln c mr t kc g := by
  obtain ⟨h1, h2, h3, h4, h5, h6⟩ := h
  have al : ∀ q, q < 50 → g q = f q := a.1
  have ah : ∀ q, 51 ≤ q → q ≤ 64 → q ≠ 57 → q ≠ 58 → g q = f q := a.2.2.2.2.2.1
  refine ⟨h1.keep (by rw [al 2 (by decide)]) (fun q hq => ?_) a.2.2.1, h2.keep (by rw [al 16 (by decide)]) a.2.2.2.2.2.2.1 (al 17 (by decide)) (al 18 (by decide)) (al 19 (by decide)) a.2.2.2.2.2.2.2, h3.keep (by rw [al 10 (by decide)]) a.2.2.2.1 (al 11 (by decide)) (ah 56 (by decide) (by decide) (by decide) (by decide)), h4.keep (al 21 (by decide)) (ah 59 (by decide) (by decide) (by decide) (by decide)), h5.keep (by rw [al 1 (by decide)]) a.2.2.2.2.1 (fun q hq => ?_), h6.keep (by rw [al 2 (by decide)]) (fun q hq => ?_)⟩
  · simp only [List.mem_cons, List.not_mem_nil, or_false] at hq
    by_cases e : q < 50
    · exact al q e
    · exact ah q (by omega) (by omega) (by omega) (by omega)
  · simp only [List.mem_cons, List.not_mem_nil, or_false] at hq
    by_cases e : q < 50
    · exact al q e
    · exact ah q (by omega) (by omega) (by omega) (by omega)
  · simp only [List.mem_cons, List.not_mem_nil, or_false] at hq
    exact al q (by omega)
theorem Iv.cls (h : Iv n lk ln c mr t kc f) (a : AgC f g) (h6 : IC n lk ln c mr g) : Iv n lk ln c mr t kc g := by
  obtain ⟨h1, h2, h3, h4, h5, -⟩ := h
  have ah : ∀ q, 50 ≤ q → g q = f q := a.1
  have al := a.2.2.1
  refine ⟨h1.keep (a.2.2.2 7 (by decide)) (fun q hq => ?_) (by rw [ah 50 (by decide)]), h2.keep (by rw [al 16 (by decide)]) (by rw [ah 57 (by decide)]) (al 17 (by decide)) (al 18 (by decide)) (al 19 (by decide)) (fun j _ => by rw [ah 58 (by decide)]), h3.keep (by rw [al 10 (by decide)]) (by rw [ah 50 (by decide)]) (al 11 (by decide)) (ah 56 (by decide)), h4.keep (al 21 (by decide)) (ah 59 (by decide)), h5.keep (by rw [al 1 (by decide)]) (by rw [ah 50 (by decide)]) (fun q hq => ?_), h6⟩
  · simp only [List.mem_cons, List.not_mem_nil, or_false] at hq
    exact al q (by simp only [List.mem_cons, List.not_mem_nil, or_false]; omega)
  · simp only [List.mem_cons, List.not_mem_nil, or_false] at hq
    exact al q (by simp only [List.mem_cons, List.not_mem_nil, or_false]; omega)
theorem Iv.cs (h : Iv n lk ln c mr t kc f) : CS n lk ln c f := ⟨h.1.1.1, h.1.1.2.1, h.1.1.2.2.1, h.1.1.2.2.2.1, h.1.1.2.2.2.2.1, h.1.1.2.2.2.2.2, h.2.1.1, h.2.1.2.1⟩
theorem Iv.ms (h : Iv n lk ln c mr t kc f) : MS n lk ln c f := ⟨h.1.2.1.1, h.1.1.2.1, fun i => by rw [h.1.2.1.2.2.2.2.2]; exact h.1.1.2.2.1 i, h.1.1.2.2.2.1, fun i => by rw [h.1.2.1.2.2.2.1]; exact h.1.1.2.2.2.2.1 i, h.1.1.2.2.2.2.2, h.2.1.2.2.1, h.2.1.2.1⟩
theorem Iv.wc (h : Iv n lk ln c mr t kc f) : WC n lk ln f := h.2.2.2.2.2.1
theorem Iv.n9 (h : Iv n lk ln c mr t kc f) : n ≤ 9 := h.1.1.2.1
theorem Iv.n7 (h : Iv n lk ln c mr t kc f) : f 2 7 = nI n := h.1.1.1
theorem Iv.n0 (h : Iv n lk ln c mr t kc f) : f 50 0 = nI n := h.1.2.1.1
theorem Iv.c3 (h : Iv n lk ln c mr t kc f) : f 16 3 = nI c := h.2.1.1
theorem Iv.c40 (h : Iv n lk ln c mr t kc f) : c ≤ 40 := h.2.1.2.1
theorem Iv.c1 (h : Iv n lk ln c mr t kc f) : f 57 1 = nI c := h.2.1.2.2.1
theorem Iv.it (h : Iv n lk ln c mr t kc f) : ∀ k, k < c → f 58 (150 + 3 * k) = f 17 k ∧ f 58 (151 + 3 * k) = f 18 k ∧ f 58 (152 + 3 * k) = f 19 k ∧ vIt (f 17 k) (f 18 k) (f 19 k) := h.2.1.2.2.2
theorem Iv.nl (h : Iv n lk ln c mr t kc f) : ∀ k, k < c → f 17 k = 110 → ∃ x y, x < 6 ∧ y < 6 ∧ f 18 k = nI x ∧ f 19 k = nI y := by
  intro k hk e
  obtain ⟨a, b, e1, e2, -, -, e3, -⟩ := (h.it k hk).2.2.2
  exact ⟨a, b, (e3 e).1, (e3 e).2, e1, e2⟩
theorem Iv.lb (h : Iv n lk ln c mr t kc f) : ∀ i, lk i ≤ 500 := h.1.1.2.2.2.1
theorem Iv.nb (h : Iv n lk ln c mr t kc f) : ∀ i, ln i ≤ 500 := h.1.1.2.2.2.2.2
theorem Iv.K (h : Iv n lk ln c mr t kc f) : IK n lk ln kc f := h.2.2.2.2.1
theorem Iv.C (h : Iv n lk ln c mr t kc f) : IC n lk ln c mr f := h.2.2.2.2.2
theorem Iv.M (h : Iv n lk ln c mr t kc f) : IM mr f := h.2.2.2.1
-- the town that stands
theorem Iv.tw (h : Iv n lk ln c mr t kc f) : ∀ s, s < 9 → f 60 s = f 38 s := fun s hs => by
  have := h.K.2.1.1.1 s hs
  rw [show 9 * 0 + s = s by omega] at this
  exact this
theorem Iv.tu (h : Iv n lk ln c mr t kc f) : ∀ s w, s < 9 → w < 36 → f 61 (9 * w + s) = f 39 (s * 36 + w) := fun s w hs hw => by
  have := h.K.2.1.1.2.1 s w hs hw
  rw [show 324 * 0 + (9 * w + s) = 9 * w + s by omega] at this
  exact this
theorem Iv.tb (h : Iv n lk ln c mr t kc f) : ∀ j, j < 90 → f 64 j = f 40 j := fun j hj => by
  have := h.K.2.1.1.2.2.1 j hj
  rw [show 90 * 0 + j = j by omega] at this
  exact this
theorem Iv.te (h : Iv n lk ln c mr t kc f) : f 63 0 = f 37 3 := h.K.2.1.1.2.2.2.1
theorem Iv.tl (h : Iv n lk ln c mr t kc f) : f 62 0 = f 37 4 := h.K.2.1.1.2.2.2.2
theorem Iv.ts (h : Iv n lk ln c mr t kc f) : TSt n lk ln 37 f := h.K.2.1.2
theorem Gvn.TW {ww : Nat → Nat} {e d q : Nat} (h : GvT n lk ln ww e d q f) : TW n ww (f (q + 1)) := h.2.1
/-- of the class's rules, what the reference has -/
theorem Rd_congr {a b l x y a' b' l' x' y' : Nat → Int32} (ha : a' = a) (hb : b' = b) (h : ∀ k, k < c → l' k = l k ∧ x' k = x k ∧ y' k = y k) (day : Int32) : Rd a' b' l' x' y' n c lk ln day = Rd a b l x y n c lk ln day := by
  subst ha hb
  have hp : ∀ lt dy, lastIx (pIt lt dy l' y') c = lastIx (pIt lt dy l y) c := fun lt dy => lastIx_congr fun k hk => by
    obtain ⟨e1, e2, e3⟩ := h k hk
    unfold pIt
    rw [e1, e3]
  have hv : ∀ w lt dy, valO w x' (lastIx (pIt lt dy l y) c) = valO w x (lastIx (pIt lt dy l y) c) := fun w lt dy => by
    cases hl : lastIx (pIt lt dy l y) c with
    | none => rfl
    | some k =>
      obtain ⟨k1, -⟩ := lastIx_lt hl
      show x' k = x k
      exact (h k k1).2.1
  funext S
  unfold Rd rtB
  rw [hp, hp, hv, hv]
  have : allB (okS (nI S) l' x' y') c = allB (okS (nI S) l x y) c := allB_congr fun k hk => by
    obtain ⟨e1, e2, e3⟩ := h k hk
    unfold okS
    rw [e1, e2, e3]
  rw [this]
theorem stW_congr {l x y l' x' y' : Nat → Int32} (h : ∀ k, k < c → l' k = l k ∧ x' k = x k ∧ y' k = y k) (w : Nat) : stW l' x' y' c w = stW l x y c w := by
  unfold stW
  refine allB_congr fun k hk => ?_
  obtain ⟨e1, e2, e3⟩ := h k hk
  unfold barN
  rw [e1, e2, e3]
theorem Iv.it3 (h : Iv n lk ln c mr t kc f) : ∀ k, k < c → (fun k => f 58 (150 + 3 * k)) k = f 17 k ∧ (fun k => f 58 (151 + 3 * k)) k = f 18 k ∧ (fun k => f 58 (152 + 3 * k)) k = f 19 k := fun k hk => ⟨(h.it k hk).1, (h.it k hk).2.1, (h.it k hk).2.2.1⟩
theorem Iv.RdI (h : Iv n lk ln c mr t kc f) (day : Int32) : Rd (f 51) (f 52) (fun k => f 58 (150 + 3 * k)) (fun k => f 58 (151 + 3 * k)) (fun k => f 58 (152 + 3 * k)) n c lk ln day = Rd (f 3) (f 4) (f 17) (f 18) (f 19) n c lk ln day := Rd_congr h.1.2.1.2.1 h.1.2.1.2.2.1 h.it3 day
/-- a call of both -/
def OP (a b : Nat) (A : List Value) (f : Hp) : Prop := ∃ r g h, am_call a (.ref 1 :: A) f = some (r, g) ∧ am_call b (.ref 50 :: A) g = some (r, h) ∧ g 0 = f 0 ∧ g 77 = f 77 ∧ h 0 = f 0 ∧ h 77 = f 77 ∧ Inv h
/-- a call that asks -/
theorem OP.ask {a b : Nat} {A : List Value} {r : Int32} {h : Hp} (hi : Iv n lk ln c mr t kc g) (h1 : am_call a (.ref 1 :: A) f = some (r, g)) (h2 : am_call b (.ref 50 :: A) g = some (r, h)) (hc : AgC f g) (hr : AgR g h) : OP a b A f :=
  ⟨r, g, h, h1, h2, hc.2.1, hc.1 77 (by decide), by rw [hr.1 0 (by decide), hc.2.1], by rw [hr.2.1, hc.1 77 (by decide)], n, lk, ln, c, mr, t, kc, hi.ref hr⟩
/-- neither heap changes -/
theorem OP.same {a b : Nat} {A : List Value} {r : Int32} (hi : Iv n lk ln c mr t kc f) (h1 : am_call a (.ref 1 :: A) f = some (r, f)) (h2 : am_call b (.ref 50 :: A) f = some (r, f)) : OP a b A f := OP.ask hi h1 h2 (AgC.refl f) (AgR.refl f)
end Inv
