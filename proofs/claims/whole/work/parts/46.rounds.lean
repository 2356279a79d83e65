def cmb (x z : Nat) : Nat := z - z % 1000000 + 1000000 + max x (z % 1000000)
def gR (b : Nat) (L : Nat → Nat) (K : Nat → Option Nat) (S p : Nat) : Option Nat := if cnd S p && decide (L p ≤ b) then (K (S ^^^ p)).map (cmb (L p)) else none
def rF (b : Nat) (L : Nat → Nat) : Nat → Nat → Option Nat
  | 0, _ => none
  | F + 1, S => if S = 0 then some 0 else minO (gR b L (rF b L F) S) (S + 1)
/-- rounds of whole codes: how many, and the heaviest -/
def RB (b : Nat) (L : Nat → Nat) (S : Nat) : Option Nat := rF b L (S + 1) S
/-- S is parted into a rounds, the heaviest of which is h -/
def PT (b : Nat) (L : Nat → Nat) : Nat → Nat → Nat → Prop
  | 0, S, h => S = 0 ∧ h = 0
  | a + 1, S, h => ∃ p h', p ≠ 0 ∧ p &&& S = p ∧ L p ≤ b ∧ PT b L a (S ^^^ p) h' ∧ h = max (L p) h'
section Rounds
variable {b : Nat} {L : Nat → Nat}
theorem gR_congr {K K' : Nat → Option Nat} {S : Nat} (h : ∀ T, T < S → K T = K' T) (p : Nat) : gR b L K S p = gR b L K' S p := by
  unfold gR
  cases hc : cnd S p
  · rfl
  · rw [h _ (cnd_lt hc)]
theorem rF_eq : ∀ (S F : Nat), S < F → rF b L F S = RB b L S := by
  intro S
  induction S using Nat.strongRecOn with
  | _ S ih =>
    intro F hF
    unfold RB
    cases F with
    | zero => omega
    | succ F =>
      rw [rF, rF]
      by_cases h0 : S = 0
      · rw [if_pos h0, if_pos h0]
      · rw [if_neg h0, if_neg h0]
        refine minO_congr fun p _ => gR_congr (fun T hT => ?_) p
        rw [ih T hT F (by omega), ih T hT S hT]
theorem RB_0 : RB b L 0 = some 0 := rfl
theorem RB_eq {S : Nat} (h : 1 ≤ S) : RB b L S = minO (gR b L (RB b L) S) (S + 1) := by
  unfold RB
  rw [rF, if_neg (by omega)]
  refine minO_congr fun p _ => gR_congr (fun T hT => rF_eq T S hT) p
theorem minO_some {g : Nat → Option Nat} : ∀ {n x : Nat}, minO g n = some x → ∃ p, p < n ∧ g p = some x
  | 0, x, h => by cases h
  | n + 1, x, h => by
    rw [minO_up] at h
    cases hu : upF g (n + 1) with
    | none => rw [hu] at h; cases h
    | some z =>
      rw [hu] at h
      have hz : z.1 = x := Option.some.inj h
      obtain ⟨h1, h2, -⟩ := upF_some hu
      exact ⟨z.2, h1, by rw [h2, hz]⟩
theorem minO_le {g : Nat → Option Nat} {n p v : Nat} (hp : p < n) (hv : g p = some v) : ∃ x, minO g n = some x ∧ x ≤ v := by
  rw [minO_up]
  cases hu : upF g n with
  | none =>
    have := best_upF g n
    rw [hu] at this
    have h2 : g p = none := this p hp
    rw [hv] at h2
    cases h2
  | some z =>
    obtain ⟨-, -, h3⟩ := upF_some hu
    refine ⟨z.1, rfl, ?_⟩
    have := h3 p v hp hv
    omega
theorem cmb_div {x z : Nat} (hx : x < 1000000) : cmb x z / 1000000 = z / 1000000 + 1 ∧ cmb x z % 1000000 = max x (z % 1000000) := by
  unfold cmb
  have : max x (z % 1000000) < 1000000 := by
    have := Nat.mod_lt z (show 0 < 1000000 by decide)
    omega
  omega
theorem RB_PT (hL : ∀ p, L p < 1000000) : ∀ S k, RB b L S = some k → PT b L (k / 1000000) S (k % 1000000) := by
  intro S
  induction S using Nat.strongRecOn with
  | _ S ih =>
    intro k hk
    rcases Nat.eq_zero_or_pos S with h0 | h0
    · subst h0
      have : 0 = k := Option.some.inj hk
      rw [← this]
      exact ⟨rfl, rfl⟩
    · rw [RB_eq h0] at hk
      obtain ⟨p, hp, hg⟩ := minO_some hk
      unfold gR at hg
      cases hc : cnd S p
      · rw [hc] at hg; cases hg
      · rw [hc] at hg
        by_cases hb : L p ≤ b
        · rw [decide_eq_true hb] at hg
          cases hK : RB b L (S ^^^ p) with
          | none => rw [hK] at hg; cases hg
          | some z =>
            rw [hK] at hg
            have e : cmb (L p) z = k := Option.some.inj hg
            obtain ⟨e1, e2⟩ := cmb_div (z := z) (hL p)
            rw [← e, e1, e2]
            exact ⟨p, _, by have := cnd_le hc; omega, cnd_and hc, hb, ih _ (cnd_lt hc) z hK, rfl⟩
        · rw [decide_eq_false hb] at hg; cases hg
theorem low_t : ∀ S : Fin 512, S.val ≠ 0 → ∃ t : Fin 9, lowb S.val = 2 ^ t.val ∧ S.val.testBit t.val = true ∧ ∀ i : Fin 9, i.val < t.val → S.val.testBit i.val = false := by decide +kernel
theorem and_pow {p t : Nat} : (p &&& 2 ^ t ≠ 0) ↔ p.testBit t = true := by
  constructor
  · intro h
    cases hb : p.testBit t with
    | true => rfl
    | false =>
      exfalso
      apply h
      apply Nat.eq_of_testBit_eq
      intro i
      rw [Nat.testBit_and, Nat.testBit_two_pow, Nat.zero_testBit]
      by_cases e : t = i
      · subst e; rw [hb]; rfl
      · simp [e]
  · intro h e
    have : (p &&& 2 ^ t).testBit t = true := by rw [Nat.testBit_and, h, Nat.testBit_two_pow]; simp
    rw [e, Nat.zero_testBit] at this
    cases this
theorem low_keep {S p : Nat} (hS : S < 512) (hp : p &&& S = p) (hl : p &&& lowb S = 0) (h1 : S ≠ 0) : lowb (S ^^^ p) = lowb S ∧ S ^^^ p ≠ 0 := by
  obtain ⟨t, t1, t2, t3⟩ := low_t ⟨S, hS⟩ h1
  have t1 : lowb S = 2 ^ t.val := t1
  have t2 : S.testBit t.val = true := t2
  have hpt : p.testBit t.val = false := by
    cases hb : p.testBit t.val with
    | false => rfl
    | true => exact absurd (t1 ▸ hl) (and_pow.mpr hb)
  have hr : (S ^^^ p).testBit t.val = true := by rw [Nat.testBit_xor, t2, hpt]; rfl
  have hne : S ^^^ p ≠ 0 := by
    intro e
    rw [e, Nat.zero_testBit] at hr
    cases hr
  have hlt : S ^^^ p < 512 := by have := sub_add S p hp; omega
  obtain ⟨u, u1, u2, u3⟩ := low_t ⟨S ^^^ p, hlt⟩ hne
  have u1 : lowb (S ^^^ p) = 2 ^ u.val := u1
  have u2 : (S ^^^ p).testBit u.val = true := u2
  have hsub : ∀ i, p.testBit i = true → S.testBit i = true := by
    intro i hi
    have : (p &&& S).testBit i = true := by rw [hp]; exact hi
    rw [Nat.testBit_and] at this
    simp at this
    exact this.2
  refine ⟨?_, hne⟩
  rw [u1, t1]
  have : u.val = t.val := by
    rcases Nat.lt_trichotomy u.val t.val with h | h | h
    · have h3 : S.testBit u.val = false := t3 u h
      have h4 : p.testBit u.val = false := by
        cases hb : p.testBit u.val with
        | false => rfl
        | true => rw [hsub _ hb] at h3; cases h3
      rw [Nat.testBit_xor, h3, h4] at u2
      cases u2
    · exact h
    · have h3 : (S ^^^ p).testBit t.val = false := u3 t h
      rw [hr] at h3
      cases h3
  rw [this]
theorem PT_pivot : ∀ (a S h : Nat), S < 512 → S ≠ 0 → PT b L (a + 1) S h → ∃ p h', cnd S p = true ∧ L p ≤ b ∧ PT b L a (S ^^^ p) h' ∧ h = max (L p) h' := by
  intro a
  induction a with
  | zero =>
    rintro S h hS hne ⟨p, h', p1, p2, p3, ⟨p4, p5⟩, p6⟩
    have e : S = p := (xor_zero_iff S p).mp p4
    subst e
    refine ⟨S, h', ?_, p3, ⟨p4, p5⟩, p6⟩
    unfold cnd
    have h1 : S &&& lowb S ≠ 0 := by rw [sub_and (low_sub hS)]; exact low_ne (by omega) hS
    simp [h1]
  | succ a ih =>
    rintro S h hS hne ⟨p, h', p1, p2, p3, p4, p6⟩
    by_cases hl : p &&& lowb S = 0
    · obtain ⟨k1, k2⟩ := low_keep hS p2 hl hne
      have hadd := sub_add S p p2
      obtain ⟨q, h'', q1, q2, q3, q4⟩ := ih (S ^^^ p) h' (by omega) k2 p4
      have q1' := q1
      unfold cnd at q1'
      simp only [Bool.and_eq_true, beq_iff_eq, bne_iff_ne] at q1'
      have hpS : ∀ i, p.testBit i = true → S.testBit i = true := by
        intro i hi
        have : (p &&& S).testBit i = true := by rw [p2]; exact hi
        rw [Nat.testBit_and] at this
        simp at this
        exact this.2
      have hq : ∀ i, q.testBit i = true → S.testBit i = true ∧ p.testBit i = false := by
        intro i hi
        have h1 := cnd_sub q1 i hi
        rw [Nat.testBit_xor] at h1
        cases hb : p.testBit i with
        | false => rw [hb] at h1; simp at h1; exact ⟨h1, rfl⟩
        | true => rw [hb, hpS i hb] at h1; cases h1
      refine ⟨q, max (L p) h'', ?_, q2, ⟨p, h'', p1, ?_, p3, ?_, rfl⟩, ?_⟩
      · unfold cnd
        have e1 : q &&& S = q := by
          apply Nat.eq_of_testBit_eq
          intro i
          rw [Nat.testBit_and]
          cases hb : q.testBit i with
          | false => rfl
          | true => rw [(hq i hb).1]; rfl
        have e2 : q &&& lowb S ≠ 0 := by rw [← k1]; exact q1'.2
        simp [e1, e2]
      · apply Nat.eq_of_testBit_eq
        intro i
        rw [Nat.testBit_and, Nat.testBit_xor]
        cases hb : p.testBit i with
        | false => rfl
        | true =>
          cases hc : q.testBit i with
          | false => rw [hpS i hb]; rfl
          | true => rw [(hq i hc).2] at hb; cases hb
      · have e : S ^^^ q ^^^ p = S ^^^ p ^^^ q := by rw [Nat.xor_assoc, Nat.xor_comm q p, Nat.xor_assoc]
        rw [e]
        exact q3
      · rw [p6, q4]
        omega
    · refine ⟨p, h', ?_, p3, p4, p6⟩
      unfold cnd
      simp [p2, hl]
theorem PT_h (hL : ∀ p, L p < 1000000) : ∀ (a S h : Nat), PT b L a S h → h < 1000000 := by
  intro a
  induction a with
  | zero =>
    rintro S h ⟨-, h2⟩
    omega
  | succ a ih =>
    rintro S h ⟨p, h', -, -, -, p4, p5⟩
    have h1 := ih _ _ p4
    have h2 := hL p
    omega
/-- every parting is at least as dear as what RB says -/
theorem PT_RB (hL : ∀ p, L p < 1000000) : ∀ (a S h : Nat), S < 512 → PT b L a S h → ∃ k, RB b L S = some k ∧ k ≤ a * 1000000 + h := by
  intro a
  induction a with
  | zero =>
    rintro S h - ⟨h1, h2⟩
    subst h1
    exact ⟨0, rfl, Nat.zero_le _⟩
  | succ a ih =>
    intro S h hS hpt
    by_cases hne : S = 0
    · subst hne
      exact ⟨0, rfl, Nat.zero_le _⟩
    · obtain ⟨p, h', p1, p2, p3, p4⟩ := PT_pivot a S h hS hne hpt
      have hlt := cnd_lt p1
      obtain ⟨z, z1, z2⟩ := ih (S ^^^ p) h' (by omega) p3
      have hg : gR b L (RB b L) S p = some (cmb (L p) z) := by
        unfold gR
        rw [p1, decide_eq_true p2, z1]
        rfl
      obtain ⟨x, x1, x2⟩ := minO_le (g := gR b L (RB b L) S) (n := S + 1) (p := p) (by have := cnd_le p1; omega) hg
      refine ⟨x, by rw [RB_eq (by omega)]; exact x1, ?_⟩
      have h1 := hL p
      have h2 := PT_h hL _ _ _ p3
      have hc : cmb (L p) z ≤ (a + 1) * 1000000 + h := by
        unfold cmb
        omega
      omega
end Rounds
