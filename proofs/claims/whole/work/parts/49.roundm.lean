def encF1 : Option Nat → Int32
  | none => 100
  | some z => nI (z / 1000000)
def encQ1 : Option Nat → Int32
  | none => 0
  | some z => nI (z % 1000000)
theorem encF1_some (z : Nat) : encF1 (some z) = nI (z / 1000000) := rfl
theorem encF1_none : encF1 none = 100 := rfl
theorem encQ1_some (z : Nat) : encQ1 (some z) = nI (z % 1000000) := rfl
section RoundM
variable {b c : Nat} {L : Nat → Nat}
/-- what the reference holds of rounds below k -/
def RK2 (b : Nat) (L : Nat → Nat) (k : Nat) (g : Hp) : Prop := (∀ T, T < k → g 75 T = encF1 (RB b L T)) ∧ ∀ T, T < k → g 76 T = encQ1 (RB b L T)
def LD2 (L : Nat → Nat) (c : Nat) (f : Hp) : Prop := ∀ g : Hp, g 50 = f 50 → g 74 = f 74 → ∀ p, p < 2 ^ c → am_call 177 [.ref 50, .int (nI p)] g = some (nI (L p), g)
def Fr2 (S : Nat) (f g : Hp) : Prop := (∀ q, q ≠ 75 → q ≠ 76 → g q = f q) ∧ ∀ q j, j ≠ S → g q j = f q j
theorem Fr2.refl (S : Nat) (f : Hp) : Fr2 S f f := ⟨fun _ _ _ => rfl, fun _ _ _ => rfl⟩
theorem Fr2.trans {S : Nat} {f g h : Hp} (a : Fr2 S f g) (b : Fr2 S g h) : Fr2 S f h := ⟨fun q x y => by rw [b.1 q x y, a.1 q x y], fun q j x => by rw [b.2 q j x, a.2 q j x]⟩
theorem Fr2.up (S : Nat) (f : Hp) (x y : Int32) : Fr2 S f (am_up (am_up f 75 S x) 76 S y) := by
  refine ⟨fun q a b => by rw [am_up_ne b, am_up_ne a], fun q j h => ?_⟩
  have : ∀ (g : Hp) (p : Nat) (v : Int32), am_up g p S v q j = g q j := by
    intro g p v
    by_cases hq : q = p
    · subst hq; exact am_up_j h
    · rw [am_up_ne hq]
  rw [this, this]
def PS2 (S : Nat) (acc : Option Nat) (f : Hp) : Prop := f 75 S = encF1 acc ∧ f 76 S = encQ1 acc
theorem m_roStep {f : Hp} {a3 : Int32} (hL : ∀ p, L p < 1000000) (hb : b ≤ 1000000) (hld : LD2 L c f) (hc9 : c ≤ 9) {S : Nat} (h1 : 1 ≤ S) (hS : S < 2 ^ c) (hk : RK2 b L S f) {p : Nat} (hp1 : 1 ≤ p) (hp : p ≤ S) {acc : Option Nat} (hps : PS2 S acc f) (hacc : ∀ y, acc = some y → y < 20000000) : ∃ g, am_run 178 102 [.ref 50, .null, .int (nI b), .int a3, .int (nI S), .int (nI (lowb S)), .int (nI p), .null, .null] [] f = am_run 178 102 [.ref 50, .null, .int (nI b), .int a3, .int (nI S), .int (nI (lowb S)), .int (nI (p + 1)), .null, .null] [] g ∧ PS2 S (omin acc (gR b L (RB b L) S p)) g ∧ Fr2 S f g := by
  have h5 := pow9 hc9
  have hx : p ^^^ (p &&& S) < 512 := Nat.xor_lt_two_pow (n := 9) (by omega) (by have : p &&& S ≤ p := Nat.and_le_left; omega)
  have hpl : p &&& lowb S < 512 := by have : p &&& lowb S ≤ p := Nat.and_le_left; omega
  rw [eX9_rounds_102_50, if_neg (nI_nlt (by omega) (by omega)), andn, nx_and, nI_1]
  by_cases hcn : cnd S p = true
  · have hand := cnd_and hcn
    have hlt := cnd_lt hcn
    have hLp := hL p
    have hlow : p &&& lowb S ≠ 0 := by
      unfold cnd at hcn
      simp only [Bool.and_eq_true, bne_iff_ne] at hcn
      exact hcn.2
    have hg : gR b L (RB b L) S p = if L p ≤ b then (RB b L (S ^^^ p)).map (cmb (L p)) else none := by
      unfold gR
      rw [hcn]
      simp
    rw [hand, Nat.xor_self, if_pos (by decide), if_neg (nI_nez hlow (by omega)), hld f rfl rfl p (by omega), am_cal_some, hg]
    by_cases hpb : L p ≤ b
    · rw [if_neg (nI_nlt hpb (by omega)), if_pos hpb, andn, sub_and hand, am_ald_in _ _ _ (show S ^^^ p < 512 by omega) (by decide), hk.1 _ hlt]
      cases hK : RB b L (S ^^^ p) with
      | none =>
        rw [encF1_none, if_neg (by decide), Option.map_none, omin_none]
        exact ⟨f, rfl, hps, Fr2.refl S f⟩
      | some z =>
        have hz := RB_lt hL (show S ^^^ p < 512 by omega) hK
        have hmod := Nat.mod_lt z (show 0 < 1000000 by decide)
        obtain ⟨cd, cm⟩ := cmb_div (z := z) hLp
        have hcb : cmb (L p) z < 20000000 := by
          unfold cmb
          omega
        have e1 : (1 : Int32) + nI (z / 1000000) = nI (cmb (L p) z / 1000000) := by
          rw [cd, Nat.add_comm]
          exact nI_add 1 _
        rw [encF1_some, if_pos (show nI (z / 1000000) < (100 : Int32) from nI_lt (b := 100) (by omega) (by decide)), am_ald_in _ _ _ (show S ^^^ p < 512 by omega) (by decide), hk.1 _ hlt, hK, encF1_some, e1, hld f rfl rfl p (by omega), am_cal_some, am_ald_in _ _ _ (show S ^^^ p < 512 by omega) (by decide), hk.2 _ hlt, hK, encQ1_some, hld f rfl rfl p (by omega), am_cal_some, am_ald_in _ _ _ (show S ^^^ p < 512 by omega) (by decide), hk.2 _ hlt, hK, encQ1_some, Option.map_some]
        have e212 : ∃ g, am_run 178 212 [.ref 50, .null, .int (nI b), .int a3, .int (nI S), .int (nI (lowb S)), .int (nI p), .int (nI (cmb (L p) z / 1000000)), .null] [.int (nI (cmb (L p) z % 1000000))] f = am_run 178 102 [.ref 50, .null, .int (nI b), .int a3, .int (nI S), .int (nI (lowb S)), .int (nI (p + 1)), .null, .null] [] g ∧ PS2 S (omin acc (some (cmb (L p) z))) g ∧ Fr2 S f g := by
          have hPS : PS2 S (some (cmb (L p) z)) (am_up (am_up f 75 S (nI (cmb (L p) z / 1000000))) 76 S (nI (cmb (L p) z % 1000000))) := ⟨by rw [am_up_ne (by decide), am_up_same]; rfl, by rw [am_up_same]; rfl⟩
          have hput : ∀ k : Hp → Option Rs, (am_ast f 75 512 (nI S) (nI (cmb (L p) z / 1000000)) fun g2 => am_ast g2 76 512 (nI S) (nI (cmb (L p) z % 1000000)) k) = k (am_up (am_up f 75 S (nI (cmb (L p) z / 1000000))) 76 S (nI (cmb (L p) z % 1000000))) := by
            intro k
            rw [am_ast_in _ _ _ _ (show S < 512 by omega) (by decide), am_ast_in _ _ _ _ (show S < 512 by omega) (by decide)]
          rw [eX9_rounds_212_50_s1, am_ald_in _ _ _ (show S < 512 by omega) (by decide), hps.1, nI_1]
          cases acc with
          | none =>
            rw [encF1_none, if_pos (show nI (cmb (L p) z / 1000000) < (100 : Int32) from nI_lt (b := 100) (by omega) (by decide)), hput]
            exact ⟨_, rfl, hPS, Fr2.up _ _ _ _⟩
          | some y =>
            have hy := hacc y rfl
            have em : omin (some y) (some (cmb (L p) z)) = some (min y (cmb (L p) z)) := rfl
            rw [encF1_some, em]
            by_cases a1 : cmb (L p) z / 1000000 < y / 1000000
            · rw [if_pos (nI_lt a1 (by omega)), hput, Nat.min_eq_right (by omega)]
              exact ⟨_, rfl, hPS, Fr2.up _ _ _ _⟩
            · rw [if_neg (nI_nlt (by omega) (by omega)), am_ald_in _ _ _ (show S < 512 by omega) (by decide), hps.1, encF1_some]
              by_cases a2 : cmb (L p) z / 1000000 = y / 1000000
              · rw [if_pos (by rw [a2]), am_ald_in _ _ _ (show S < 512 by omega) (by decide), hps.2, encQ1_some]
                by_cases a3 : cmb (L p) z % 1000000 < y % 1000000
                · rw [if_pos (nI_lt a3 (by omega)), hput, Nat.min_eq_right (by omega)]
                  exact ⟨_, rfl, hPS, Fr2.up _ _ _ _⟩
                · rw [if_neg (nI_nlt (by omega) (by omega)), Nat.min_eq_left (by omega)]
                  exact ⟨f, rfl, hps, Fr2.refl S f⟩
              · rw [if_neg (fun e => a2 ((nI_eq (by omega) (by omega)).mp e)), Nat.min_eq_left (by omega)]
                exact ⟨f, rfl, hps, Fr2.refl S f⟩
        rw [cm] at e212
        by_cases hm : z % 1000000 < L p
        · rw [if_pos (nI_lt hm (by omega))]
          rw [Nat.max_eq_left (by omega)] at e212
          exact e212
        · rw [if_neg (nI_nlt (by omega) (by omega))]
          rw [Nat.max_eq_right (by omega)] at e212
          exact e212
    · rw [if_pos (nI_lt (by omega) (by omega)), if_neg hpb, omin_none]
      exact ⟨f, rfl, hps, Fr2.refl S f⟩
  · have hg : gR b L (RB b L) S p = none := by
      unfold gR
      rw [Bool.not_eq_true _ |>.mp hcn]
      rfl
    rw [hg, omin_none]
    refine ⟨f, ?_, hps, Fr2.refl S f⟩
    by_cases a : p &&& S = p
    · have hb0 : p &&& lowb S = 0 := by
        unfold cnd at hcn
        simp only [Bool.and_eq_true, beq_iff_eq, bne_iff_ne, not_and, Classical.not_not] at hcn
        exact hcn a
      rw [a, Nat.xor_self, if_pos (by decide), hb0, if_pos (by decide)]
    · rw [if_neg (nI_nez (fun e => a ((xor_zero_iff _ _).mp e).symm) (by omega))]
end RoundM
