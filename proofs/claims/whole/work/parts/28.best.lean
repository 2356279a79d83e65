/-- the lowest bit of a set -/
def lowb (S : Nat) : Nat := S ^^^ (S &&& (S - 1))
/-- p is within S and has its lowest side -/
def cnd (S p : Nat) : Bool := (p &&& S == p) && (p &&& lowb S != 0)
/-- the subsets of o, downwards, as the class goes through them -/
def chain : Nat → Nat → Nat → List Nat
  | 0, _, _ => []
  | F + 1, m, o => m :: (if m = 0 then [] else chain F ((m - 1) &&& o) o)
def pch (S : Nat) : List Nat := (chain 512 (S ^^^ lowb S) (S ^^^ lowb S)).map (· ||| lowb S)
set_option maxRecDepth 100000 in
theorem pch_okF : ∀ S : Fin 512, S.val = 0 ∨ pch S.val = ((List.range (S.val + 1)).filter (cnd S.val)).reverse := by decide +kernel
theorem pch_ok {S : Nat} (h1 : 1 ≤ S) (hS : S < 512) : pch S = ((List.range (S + 1)).filter (cnd S)).reverse := by
  rcases pch_okF ⟨S, hS⟩ with h | h
  · exact absurd h (by simp; omega)
  · exact h
theorem lowb_I : ∀ S : Fin 512, nI S.val &&& -nI S.val = nI (lowb S.val) := by decide +kernel
theorem lowI {S : Nat} (hS : S < 512) : nI S &&& -nI S = nI (lowb S) := lowb_I ⟨S, hS⟩
theorem cnd_le {S p : Nat} (h : cnd S p = true) : p ≤ S ∧ 1 ≤ p := by
  unfold cnd at h
  simp only [Bool.and_eq_true, beq_iff_eq, bne_iff_ne] at h
  have h1 : p &&& S ≤ S := Nat.and_le_right
  refine ⟨by omega, ?_⟩
  rcases Nat.eq_zero_or_pos p with h0 | h0
  · rw [h0] at h
    simp at h
  · exact h0
theorem cnd_sub {S p : Nat} (h : cnd S p = true) : ∀ i, p.testBit i = true → S.testBit i = true := by
  unfold cnd at h
  simp only [Bool.and_eq_true, beq_iff_eq] at h
  intro i hi
  have : (p &&& S).testBit i = true := by rw [h.1]; exact hi
  rw [Nat.testBit_and] at this
  simp at this
  exact this.2
/-- b is the best of those of A: the least value, of several the least number -/
def BestOn (A : Nat → Prop) (g : Nat → Option Nat) (b : Option (Nat × Nat)) : Prop := match b with
  | none => ∀ p, A p → g p = none
  | some z => A z.2 ∧ g z.2 = some z.1 ∧ ∀ p v, A p → g p = some v → z.1 < v ∨ (z.1 = v ∧ z.2 ≤ p)
theorem BestOn.uniq {A : Nat → Prop} {g : Nat → Option Nat} {b b' : Option (Nat × Nat)} (h : BestOn A g b) (h' : BestOn A g b') : b = b' := by
  cases b with
  | none =>
    cases b' with
    | none => rfl
    | some z =>
      have := h z.2 h'.1
      rw [h'.2.1] at this
      cases this
  | some y =>
    cases b' with
    | none =>
      have := h' y.2 h.1
      rw [h.2.1] at this
      cases this
    | some z =>
      have h1 := h.2.2 z.2 z.1 h'.1 h'.2.1
      have h2 := h'.2.2 y.2 y.1 h.1 h.2.1
      have e1 : y.1 = z.1 := by omega
      have e2 : y.2 = z.2 := by omega
      have : y = z := Prod.ext e1 e2
      rw [this]
theorem BestOn.congr {A B : Nat → Prop} {g : Nat → Option Nat} {b : Option (Nat × Nat)} (h : BestOn A g b) (h1 : ∀ p, A p → B p) (h2 : ∀ p, B p → ¬ A p → g p = none) : BestOn B g b := by
  cases b with
  | none =>
    intro p hp
    by_cases ha : A p
    · exact h p ha
    · exact h2 p hp ha
  | some z =>
    refine ⟨h1 _ h.1, h.2.1, fun p v hp hv => ?_⟩
    by_cases ha : A p
    · exact h.2.2 p v ha hv
    · rw [h2 p hp ha] at hv
      cases hv
def dnS (acc : Option (Nat × Nat)) (p v : Nat) : Option (Nat × Nat) := match acc with
  | none => some (v, p)
  | some z => if z.1 < v then some z else some (v, p)
def upS (acc : Option (Nat × Nat)) (p v : Nat) : Option (Nat × Nat) := match acc with
  | none => some (v, p)
  | some z => if v < z.1 then some (v, p) else some z
def dn (g : Nat → Option Nat) (acc : Option (Nat × Nat)) (p : Nat) : Option (Nat × Nat) := match g p with
  | none => acc
  | some v => dnS acc p v
def up (g : Nat → Option Nat) (acc : Option (Nat × Nat)) (p : Nat) : Option (Nat × Nat) := match g p with
  | none => acc
  | some v => upS acc p v
theorem dn_step {A : Nat → Prop} {g : Nat → Option Nat} {acc : Option (Nat × Nat)} {q : Nat} (h : BestOn A g acc) (hq : ∀ p, A p → q < p) : BestOn (fun p => A p ∨ p = q) g (dn g acc q) := by
  unfold dn
  cases hg : g q with
  | none =>
    refine h.congr (fun p hp => Or.inl hp) (fun p hp hn => ?_)
    rcases hp with hp | hp
    · exact absurd hp hn
    · rw [hp]; exact hg
  | some v =>
    cases acc with
    | none =>
      refine ⟨Or.inr rfl, hg, fun p w hp hw => ?_⟩
      rcases hp with hp | hp
      · rw [h p hp] at hw
        cases hw
      · subst hp
        rw [hg] at hw
        cases hw
        exact Or.inr ⟨rfl, Nat.le_refl _⟩
    | some z =>
      show BestOn _ g (if z.1 < v then some z else some (v, q))
      by_cases hv : z.1 < v
      · rw [if_pos hv]
        refine ⟨Or.inl h.1, h.2.1, fun p w hp hw => ?_⟩
        rcases hp with hp | hp
        · exact h.2.2 p w hp hw
        · subst hp
          rw [hg] at hw
          cases hw
          exact Or.inl hv
      · rw [if_neg hv]
        refine ⟨Or.inr rfl, hg, fun p w hp hw => ?_⟩
        show v < w ∨ (v = w ∧ q ≤ p)
        rcases hp with hp | hp
        · have h1 := h.2.2 p w hp hw
          have h2 := hq p hp
          omega
        · subst hp
          rw [hg] at hw
          cases hw
          exact Or.inr ⟨rfl, Nat.le_refl _⟩
theorem up_step {A : Nat → Prop} {g : Nat → Option Nat} {acc : Option (Nat × Nat)} {q : Nat} (h : BestOn A g acc) (hq : ∀ p, A p → p < q) : BestOn (fun p => A p ∨ p = q) g (up g acc q) := by
  unfold up
  cases hg : g q with
  | none =>
    refine h.congr (fun p hp => Or.inl hp) (fun p hp hn => ?_)
    rcases hp with hp | hp
    · exact absurd hp hn
    · rw [hp]; exact hg
  | some v =>
    cases acc with
    | none =>
      refine ⟨Or.inr rfl, hg, fun p w hp hw => ?_⟩
      rcases hp with hp | hp
      · rw [h p hp] at hw
        cases hw
      · subst hp
        rw [hg] at hw
        cases hw
        exact Or.inr ⟨rfl, Nat.le_refl _⟩
    | some z =>
      show BestOn _ g (if v < z.1 then some (v, q) else some z)
      by_cases hv : v < z.1
      · rw [if_pos hv]
        refine ⟨Or.inr rfl, hg, fun p w hp hw => ?_⟩
        show v < w ∨ (v = w ∧ q ≤ p)
        rcases hp with hp | hp
        · have h1 := h.2.2 p w hp hw
          omega
        · subst hp
          rw [hg] at hw
          cases hw
          exact Or.inr ⟨rfl, Nat.le_refl _⟩
      · rw [if_neg hv]
        refine ⟨Or.inl h.1, h.2.1, fun p w hp hw => ?_⟩
        rcases hp with hp | hp
        · exact h.2.2 p w hp hw
        · subst hp
          rw [hg] at hw
          cases hw
          have h2 := hq _ h.1
          omega
theorem dn_list {g : Nat → Option Nat} : ∀ (l : List Nat) (acc : Option (Nat × Nat)) (A : Nat → Prop), l.Pairwise (· > ·) → (∀ q, q ∈ l → ∀ p, A p → q < p) → BestOn A g acc → BestOn (fun p => A p ∨ p ∈ l) g (l.foldl (dn g) acc)
  | [], acc, A, _, _, h => h.congr (fun p hp => Or.inl hp) (fun p hp hn => by
    rcases hp with hp | hp
    · exact absurd hp hn
    · cases hp)
  | q :: l, acc, A, hl, hA, h => by
    rw [List.pairwise_cons] at hl
    have h1 := dn_step h (fun p hp => hA q List.mem_cons_self p hp)
    have h2 := dn_list l (dn g acc q) (fun p => A p ∨ p = q) hl.2 (fun r hr p hp => by
      rcases hp with hp | hp
      · exact hA r (List.mem_cons_of_mem _ hr) p hp
      · rw [hp]
        exact hl.1 r hr) h1
    rw [List.foldl_cons]
    refine h2.congr (fun p hp => ?_) (fun p hp hn => ?_)
    · rcases hp with (hp | hp) | hp
      · exact Or.inl hp
      · rw [hp]; exact Or.inr List.mem_cons_self
      · exact Or.inr (List.mem_cons_of_mem _ hp)
    · exfalso
      refine hn ?_
      rcases hp with hp | hp
      · exact Or.inl (Or.inl hp)
      · rcases List.mem_cons.mp hp with hp | hp
        · exact Or.inl (Or.inr hp)
        · exact Or.inr hp
theorem best_dn {S : Nat} {g : Nat → Option Nat} (h1 : 1 ≤ S) (hS : S < 512) (hg : ∀ p, g p ≠ none → cnd S p = true) : BestOn (fun _ => True) g ((pch S).foldl (dn g) none) := by
  have hp : (pch S).Pairwise (· > ·) := by
    rw [pch_ok h1 hS, List.pairwise_reverse]
    exact (List.pairwise_lt_range).filter _
  have h := dn_list (g := g) (pch S) none (fun _ => False) hp (fun _ _ _ hz => hz.elim) (fun _ hz => hz.elim)
  refine h.congr (fun _ _ => trivial) (fun p _ hn => ?_)
  cases hq : g p with
  | none => rfl
  | some v =>
    exfalso
    refine hn (Or.inr ?_)
    have hc := hg p (by rw [hq]; exact fun z => by cases z)
    rw [pch_ok h1 hS, List.mem_reverse, List.mem_filter, List.mem_range]
    have := cnd_le hc
    exact ⟨by omega, hc⟩
def upF (g : Nat → Option Nat) : Nat → Option (Nat × Nat)
  | 0 => none
  | k + 1 => up g (upF g k) k
theorem best_upF (g : Nat → Option Nat) : ∀ k, BestOn (fun p => p < k) g (upF g k)
  | 0 => fun p hp => by omega
  | k + 1 => by
    have := up_step (best_upF g k) (q := k) (fun p hp => hp)
    refine this.congr (fun p hp => ?_) (fun p hp hn => ?_)
    · rcases hp with hp | hp <;> omega
    · exfalso
      exact hn (by omega)
theorem best_up {S : Nat} {g : Nat → Option Nat} (hg : ∀ p, g p ≠ none → cnd S p = true) {k : Nat} (hk : S < k) : BestOn (fun _ => True) g (upF g k) := by
  refine (best_upF g k).congr (fun _ _ => trivial) (fun p _ hn => ?_)
  cases hq : g p with
  | none => rfl
  | some v =>
    exfalso
    have := cnd_le (hg p (by rw [hq]; exact fun z => by cases z))
    exact hn (by omega)
/-- both ways find the same -/
theorem best_eq {S : Nat} {g : Nat → Option Nat} (h1 : 1 ≤ S) (hS : S < 512) (hg : ∀ p, g p ≠ none → cnd S p = true) {k : Nat} (hk : S < k) : (pch S).foldl (dn g) none = upF g k := (best_dn h1 hS hg).uniq (best_up hg hk)
-- how the reference asks: p within S, and what is left
theorem andn (p S : Nat) : nI p &&& (nI S ^^^ (-1)) = nI (p ^^^ (p &&& S)) := by
  apply Int32.toBitVec_inj.1
  show BitVec.ofNat 32 p &&& (BitVec.ofNat 32 S ^^^ BitVec.allOnes 32) = BitVec.ofNat 32 (p ^^^ (p &&& S))
  apply BitVec.eq_of_getLsbD_eq
  intro i hi
  simp only [BitVec.getLsbD_and, BitVec.getLsbD_xor, BitVec.getLsbD_allOnes, BitVec.getLsbD_ofNat, Nat.testBit_xor, Nat.testBit_and, hi, decide_true, Bool.true_and]
  cases p.testBit i <;> cases S.testBit i <;> rfl
theorem xor_zero_iff (a b : Nat) : a ^^^ b = 0 ↔ a = b := by
  constructor
  · intro h
    apply Nat.eq_of_testBit_eq
    intro i
    have : (a ^^^ b).testBit i = false := by rw [h]; simp
    rw [Nat.testBit_xor] at this
    cases h1 : a.testBit i <;> cases h2 : b.testBit i <;> simp_all
  · intro h
    rw [h, Nat.xor_self]
theorem sub_and {p S : Nat} (h : p &&& S = p) : S &&& p = p := by rw [Nat.and_comm]; exact h
