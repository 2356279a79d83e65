section Index
variable {x ix : Nat → Nat} {n c S : Nat}
theorem smN_zero : ∀ n, smN (fun _ => 0) n = 0
  | 0 => rfl
  | n + 1 => by rw [smN, smN_zero n]
theorem smN_add (g h : Nat → Nat) : ∀ n, smN (fun i => g i + h i) n = smN g n + smN h n
  | 0 => rfl
  | n + 1 => by rw [smN, smN, smN, smN_add g h n]; omega
theorem smN_one {k v : Nat} : ∀ {n : Nat}, k < n → smN (fun i => if k = i then v else 0) n = v
  | 0, h => by omega
  | n + 1, h => by
    rw [smN]
    by_cases e : k = n
    · subst e
      have : smN (fun i => if k = i then v else 0) k = 0 := by
        refine (smN_congr fun i hi => ?_).trans (smN_zero k)
        rw [if_neg (by omega)]
      rw [this, if_pos rfl, Nat.zero_add]
    · rw [smN_one (by omega), if_neg e, Nat.add_zero]
/-- loads by codes are loads by sides -/
theorem ld_ex : ∀ {n : Nat}, (∀ t, t < n → ix t < c) → smN (fun i => if S.testBit i then smN (fun t => if ix t = i then x t else 0) n else 0) c = ldS x ix n S
  | 0, _ => by
    show _ = 0
    refine (smN_congr fun i _ => ?_).trans (smN_zero c)
    split <;> rfl
  | n + 1, h => by
    have ih := ld_ex (n := n) (fun t ht => h t (by omega))
    have hn := h n (by omega)
    have e : smN (fun i => if S.testBit i then smN (fun t => if ix t = i then x t else 0) (n + 1) else 0) c = smN (fun i => (if S.testBit i then smN (fun t => if ix t = i then x t else 0) n else 0) + (if ix n = i then (if S.testBit (ix n) then x n else 0) else 0)) c := by
      refine smN_congr fun i _ => ?_
      by_cases e : ix n = i
      · subst e
        cases S.testBit (ix n) <;> simp [smN]
      · cases S.testBit i <;> simp [smN, e]
    rw [e, smN_add, ih, smN_one hn]
    rfl
/-- the first side of a code -/
def fst1 (ww : Nat → Nat) (s : Nat) : Bool := neqB ww (ww s) s
/-- the lowest side with the word of s, among the first k -/
def led1 (ww : Nat → Nat) (y : Nat) : Nat → Nat
  | 0 => 0
  | k + 1 => if neqB ww y k then k else led1 ww y k
theorem led1_ok {ww : Nat → Nat} {y : Nat} : ∀ {k : Nat}, (∃ s, s < k ∧ ww s = y) → led1 ww y k < k ∧ ww (led1 ww y k) = y ∧ neqB ww y (led1 ww y k) = true
  | 0, h => by
    obtain ⟨s, h, -⟩ := h
    omega
  | k + 1, h => by
    rw [led1]
    cases hn : neqB ww y k with
    | true =>
      rw [if_pos rfl]
      obtain ⟨s, h1, h2⟩ := h
      have : s = k := by
        by_cases e : s = k
        · exact e
        · exact absurd h2 (neqB_iff.mp hn s (by omega))
      subst this
      exact ⟨by omega, h2, hn⟩
    | false =>
      rw [if_neg (by decide)]
      have : ∃ s, s < k ∧ ww s = y := by
        by_cases hex : ∃ s, s < k ∧ ww s = y
        · exact hex
        · exfalso
          have : neqB ww y k = true := neqB_iff.mpr fun j hj e => hex ⟨j, hj, e⟩
          rw [hn] at this
          cases this
      obtain ⟨a1, a2, a3⟩ := led1_ok this
      exact ⟨by omega, a2, a3⟩
/-- the number of the code of s, by lowest sides -/
def ixA (ww : Nat → Nat) (n s : Nat) : Nat := cx (fst1 ww) (led1 ww (ww s) n)
theorem led1_fst {ww : Nat → Nat} {n s : Nat} (hs : s < n) : fst1 ww (led1 ww (ww s) n) = true ∧ led1 ww (ww s) n < n ∧ ww (led1 ww (ww s) n) = ww s := by
  obtain ⟨a1, a2, a3⟩ := led1_ok (ww := ww) (y := ww s) (k := n) ⟨s, hs, rfl⟩
  refine ⟨?_, a1, a2⟩
  unfold fst1
  rw [a2]
  exact a3
theorem led1_self {ww : Nat → Nat} {n s : Nat} (hs : s < n) (hf : fst1 ww s = true) : led1 ww (ww s) n = s := by
  obtain ⟨a1, a2, a3⟩ := led1_ok (ww := ww) (y := ww s) (k := n) ⟨s, hs, rfl⟩
  rcases Nat.lt_trichotomy (led1 ww (ww s) n) s with h | h | h
  · exact absurd a2 (neqB_iff.mp hf _ h)
  · exact h
  · exact absurd rfl (neqB_iff.mp a3 s h)
theorem ixA_inj {ww : Nat → Nat} {n s t : Nat} (hs : s < n) (ht : t < n) : ixA ww n s = ixA ww n t ↔ ww s = ww t := by
  obtain ⟨a1, a2, a3⟩ := led1_fst (ww := ww) hs
  obtain ⟨b1, b2, b3⟩ := led1_fst (ww := ww) ht
  unfold ixA
  rw [cx_inj a1 b1]
  constructor
  · intro h; rw [← a3, h, b3]
  · intro h; rw [h]
theorem cx_lt {p : Nat → Bool} {d n : Nat} (hd : d < n) (hp : p d = true) : cx p d < cx p n := by
  have := cx_mono (stand := p) (show d + 1 ≤ n by omega)
  rw [cx, hp] at this
  simp only [if_true] at this
  omega
theorem cx_surj {p : Nat → Bool} {n i : Nat} (h : i < cx p n) : ∃ d, d < n ∧ p d = true ∧ cx p d = i := by
  induction n with
  | zero => exact absurd h (Nat.not_lt_zero _)
  | succ n ih =>
    by_cases hlt : i < cx p n
    · obtain ⟨d, a, b⟩ := ih hlt
      exact ⟨d, by omega, b⟩
    · rw [cx] at h
      cases hs : p n with
      | false => rw [hs] at h; simp at h; omega
      | true =>
        rw [hs] at h
        simp only [if_true] at h
        exact ⟨n, by omega, hs, by omega⟩
theorem ixA_lt {ww : Nat → Nat} {n s : Nat} (hs : s < n) : ixA ww n s < cx (fst1 ww) n := by
  obtain ⟨a1, a2, -⟩ := led1_fst (ww := ww) hs
  exact cx_lt a2 a1
theorem ixA_surj {ww : Nat → Nat} {n i : Nat} (h : i < cx (fst1 ww) n) : ∃ s, s < n ∧ ixA ww n s = i := by
  obtain ⟨d, a, b, e⟩ := cx_surj h
  refine ⟨d, a, ?_⟩
  unfold ixA
  rw [led1_self a b]
  exact e
/-- by words -/
def usd (ww : Nat → Nat) (n y : Nat) : Bool := !neqB ww y n
def ixB (ww : Nat → Nat) (n s : Nat) : Nat := cx (usd ww n) (ww s)
theorem usd_iff {ww : Nat → Nat} {n y : Nat} : usd ww n y = true ↔ ∃ s, s < n ∧ ww s = y := by
  unfold usd
  constructor
  · intro h
    by_cases hex : ∃ s, s < n ∧ ww s = y
    · exact hex
    · exfalso
      have : neqB ww y n = true := neqB_iff.mpr fun j hj e => hex ⟨j, hj, e⟩
      rw [this] at h
      cases h
  · rintro ⟨s, h1, h2⟩
    cases hn : neqB ww y n with
    | false => rfl
    | true => exact absurd h2 (neqB_iff.mp hn s h1)
theorem ixB_inj {ww : Nat → Nat} {n s t : Nat} (hs : s < n) (ht : t < n) : ixB ww n s = ixB ww n t ↔ ww s = ww t := cx_inj (usd_iff.mpr ⟨s, hs, rfl⟩) (usd_iff.mpr ⟨t, ht, rfl⟩)
theorem ixB_lt {ww : Nat → Nat} {n s : Nat} (hs : s < n) (h36 : ww s < 36) : ixB ww n s < cx (usd ww n) 36 := cx_lt h36 (usd_iff.mpr ⟨s, hs, rfl⟩)
theorem ixB_surj {ww : Nat → Nat} {n i : Nat} (h : i < cx (usd ww n) 36) : ∃ s, s < n ∧ ixB ww n s = i := by
  obtain ⟨d, -, b, e⟩ := cx_surj h
  obtain ⟨s, h1, h2⟩ := usd_iff.mp b
  exact ⟨s, h1, by unfold ixB; rw [h2]; exact e⟩
theorem ixA_ixB {ww : Nat → Nat} {n : Nat} : ∀ s t, s < n → t < n → (ixA ww n s = ixA ww n t ↔ ixB ww n s = ixB ww n t) := fun s t hs ht => by rw [ixA_inj hs ht, ixB_inj hs ht]
end Index
