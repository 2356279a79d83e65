section RoundM2
variable {b c : Nat} {L : Nat → Nat}
theorem Fr2.LD {S : Nat} {f g : Hp} (x : Fr2 S f g) (h : LD2 L c f) : LD2 L c g := fun g' a d => h g' (by rw [a, x.1 50 (by decide) (by decide)]) (by rw [d, x.1 74 (by decide) (by decide)])
theorem Fr2.RK {S : Nat} {f g : Hp} (x : Fr2 S f g) (h : RK2 b L S f) : RK2 b L S g := ⟨fun T hT => by rw [x.2 75 T (by omega)]; exact h.1 T hT, fun T hT => by rw [x.2 76 T (by omega)]; exact h.2 T hT⟩
theorem gR_lt (hL : ∀ p, L p < 1000000) {S p v : Nat} (hS : S < 512) (h : gR b L (RB b L) S p = some v) : v < 20000000 := by
  unfold gR at h
  cases hc : cnd S p
  · rw [hc] at h; cases h
  · rw [hc] at h
    by_cases hb : L p ≤ b
    · rw [decide_eq_true hb] at h
      cases hK : RB b L (S ^^^ p) with
      | none => rw [hK] at h; cases h
      | some z =>
        rw [hK] at h
        have e : cmb (L p) z = v := Option.some.inj h
        have h1 := RB_lt hL (show S ^^^ p < 512 by have := cnd_lt hc; omega) hK
        have h2 := hL p
        have h3 := Nat.mod_lt z (show 0 < 1000000 by decide)
        unfold cmb at e
        omega
    · rw [decide_eq_false hb] at h; cases h
theorem m_roIn {a3 : Int32} (hL : ∀ p, L p < 1000000) (hb : b ≤ 1000000) (hc9 : c ≤ 9) {S : Nat} (h1 : 1 ≤ S) (hS : S < 2 ^ c) : ∀ d p f, p + d = S + 1 → 1 ≤ p → LD2 L c f → RK2 b L S f → PS2 S (minO (gR b L (RB b L) S) p) f → ∃ g, am_run 178 102 [.ref 50, .null, .int (nI b), .int a3, .int (nI S), .int (nI (lowb S)), .int (nI p), .null, .null] [] f = am_run 178 63 [.ref 50, .null, .int (nI b), .int a3, .int (nI (S + 1)), .null, .null, .null, .null] [] g ∧ PS2 S (RB b L S) g ∧ Fr2 S f g := by
  have h5 := pow9 hc9
  intro d
  induction d with
  | zero =>
    intro p f hp hp1 hld hk hps
    have : p = S + 1 := by omega
    subst this
    refine ⟨f, ?_, by rw [RB_eq h1]; exact hps, Fr2.refl S f⟩
    rw [eX9_rounds_102_50, if_pos (nI_lt (by omega) (by omega)), nI_1]
  | succ d ih =>
    intro p f hp hp1 hld hk hps
    obtain ⟨g, e1, e2, e3⟩ := m_roStep (a3 := a3) hL hb hld hc9 h1 hS hk hp1 (by omega) hps (fun y hy => by
      obtain ⟨q, _, hq⟩ := minO_some hy
      exact gR_lt hL (by omega) hq)
    obtain ⟨g', k1, k2, k3⟩ := ih (p + 1) g (by omega) (by omega) (e3.LD hld) (e3.RK hk) e2
    exact ⟨g', by rw [e1, k1], k2, e3.trans k3⟩
theorem m_roOut {a3 : Int32} (hL : ∀ p, L p < 1000000) (hb : b ≤ 1000000) (hc9 : c ≤ 9) : ∀ d S f, S + d = 2 ^ c → 1 ≤ S → f 50 31 = nI c → LD2 L c f → RK2 b L S f → ∃ g, am_run 178 63 [.ref 50, .null, .int (nI b), .int a3, .int (nI S), .null, .null, .null, .null] [] f = am_run 178 63 [.ref 50, .null, .int (nI b), .int a3, .int (nI (2 ^ c)), .null, .null, .null, .null] [] g ∧ RK2 b L (2 ^ c) g ∧ ∀ q, q ≠ 75 → q ≠ 76 → g q = f q := by
  have h5 := pow9 hc9
  intro d
  induction d with
  | zero =>
    intro S f hS h1 hc hld hk
    have : S = 2 ^ c := by omega
    subst this
    exact ⟨f, rfl, hk, fun _ _ _ => rfl⟩
  | succ d ih =>
    intro S f hS h1 hc hld hk
    rw [eX9_rounds_63_50, hc, shl_one (by omega), if_pos (nI_lt (by omega) (by omega)), am_ast_in _ _ _ _ (show S < 512 by omega) (by decide), am_ast_in _ _ _ _ (show S < 512 by omega) (by decide), lowI (by omega)]
    have hfr := Fr2.up S f 100 0
    have hps : PS2 S (minO (gR b L (RB b L) S) 1) (am_up (am_up f 75 S 100) 76 S 0) := by
      have e0 : minO (gR b L (RB b L) S) 1 = none := by
        have : gR b L (RB b L) S 0 = none := by
          unfold gR
          have : cnd S 0 = false := by
            unfold cnd
            simp
          rw [this]
          rfl
        show omin none (gR b L (RB b L) S 0) = none
        rw [this]
        rfl
      rw [e0]
      exact ⟨by rw [am_up_ne (by decide), am_up_same]; rfl, by rw [am_up_same]; rfl⟩
    obtain ⟨g, e1, e2, e3⟩ := m_roIn (a3 := a3) hL hb hc9 h1 (by omega) S 1 _ (by omega) (by omega) (hfr.LD hld) (hfr.RK hk) hps
    have e1' : am_run 178 102 [.ref 50, .null, .int (nI b), .int a3, .int (nI S), .int (nI (lowb S)), .int 1, .null, .null] [] (am_up (am_up f 75 S 100) 76 S 0) = _ := e1
    rw [e1']
    have hfg := hfr.trans e3
    have hk2 : RK2 b L (S + 1) g := by
      obtain ⟨b1, b2⟩ := hfg.RK hk
      refine ⟨fun T hT => ?_, fun T hT => ?_⟩
      · by_cases hTS : T = S
        · subst hTS; exact e2.1
        · exact b1 T (by omega)
      · by_cases hTS : T = S
        · subst hTS; exact e2.2
        · exact b2 T (by omega)
    obtain ⟨g', k1, k2, k3⟩ := ih (S + 1) g (by omega) (by omega) (by rw [hfg.1 50 (by decide) (by decide)]; exact hc) (hfg.LD hld) hk2
    exact ⟨g', k1, k2, fun q x y => by rw [k3 q x y, hfg.1 q x y]⟩
/-- the answer of rounds -/
def roV (what : Int32) : Option Nat → Int32
  | none => -4
  | some z => if what = 0 then nI (z / 1000000) else nI (z % 1000000)
theorem m_roEnd {f : Hp} {what : Int32} (hL : ∀ p, L p < 1000000) (hb : b ≤ 1000000) (hc9 : c ≤ 9) (hc : f 50 31 = nI c) (hld : LD2 L c f) (h75 : f 75 0 = 0) (h76 : f 76 0 = 0) : ∃ g, am_run 178 63 [.ref 50, .null, .int (nI b), .int what, .int 1, .null, .null, .null, .null] [] f = some (roV what (RB b L (2 ^ c - 1)), g) ∧ ∀ q, q ≠ 75 → q ≠ 76 → g q = f q := by
  have h5 := pow9 hc9
  have hp := Nat.two_pow_pos c
  obtain ⟨g, e1, e2, e3⟩ := m_roOut (a3 := what) hL hb hc9 (2 ^ c - 1) 1 f (by omega) (by omega) hc hld ⟨fun T hT => by
    have : T = 0 := by omega
    subst this
    rw [h75]; rfl, fun T hT => by
    have : T = 0 := by omega
    subst this
    rw [h76]; rfl⟩
  have e1' : am_run 178 63 [.ref 50, .null, .int (nI b), .int what, .int 1, .null, .null, .null, .null] [] f = _ := e1
  refine ⟨g, ?_, e3⟩
  have hcg : g 50 31 = nI c := by rw [e3 50 (by decide) (by decide)]; exact hc
  rw [e1', eX9_rounds_63_50, hcg, all_eq hc9, shl_one (by omega), if_neg (nI_nlt (Nat.le_refl _) (by omega)), am_ald_in _ _ _ (show 2 ^ c - 1 < 512 by omega) (by decide), am_ald_in _ _ _ (show 2 ^ c - 1 < 512 by omega) (by decide), am_ald_in _ _ _ (show 2 ^ c - 1 < 512 by omega) (by decide), e2.1 _ (by omega), e2.2 _ (by omega)]
  cases hR : RB b L (2 ^ c - 1) with
  | none => rw [encF1_none, if_pos rfl]; rfl
  | some z =>
    have hz := RB_lt hL (show 2 ^ c - 1 < 512 by omega) hR
    rw [encF1_some, if_neg (show ¬ nI (z / 1000000) = 100 from fun e => by have := (nI_eq (a := z / 1000000) (b := 100) (by omega) (by omega)).mp e; omega), encQ1_some]
    unfold roV
    by_cases hw : what = 0
    · simp only [hw, if_true]
    · simp only [hw, if_false]
end RoundM2
