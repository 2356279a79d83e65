def encF : Option (Nat × Nat) → Int32
  | none => 100
  | some z => nI (z.1 / 1000000)
def encQ : Option (Nat × Nat) → Int32
  | none => 0
  | some z => nI (z.1 % 1000000)
theorem encF_some (z : Nat × Nat) : encF (some z) = nI (z.1 / 1000000) := rfl
theorem encF_none : encF none = 100 := rfl
theorem encQ_some (z : Nat × Nat) : encQ (some z) = nI (z.1 % 1000000) := rfl
theorem nI_nez {a : Nat} (h1 : a ≠ 0) (h : a < 2 ^ 31) : ¬ nI a = 0 := fun e => h1 ((nI_eq (a := a) (b := 0) h (by decide)).mp e)
/-- the reference's best of S so far -/
def PS (S : Nat) (acc : Option (Nat × Nat)) (f : Hp) : Prop := f 67 S = encF acc ∧ f 68 S = encQ acc ∧ ∀ y, acc = some y → f 69 S = nI y.2
def Fr3 (S : Nat) (f g : Hp) : Prop := (∀ q, q ≠ 67 → q ≠ 68 → q ≠ 69 → g q = f q) ∧ ∀ q j, j ≠ S → g q j = f q j
theorem Fr3.refl (S : Nat) (f : Hp) : Fr3 S f f := ⟨fun _ _ _ _ => rfl, fun _ _ _ => rfl⟩
theorem Fr3.trans {S : Nat} {f g h : Hp} (a : Fr3 S f g) (b : Fr3 S g h) : Fr3 S f h := ⟨fun q x y z => by rw [b.1 q x y z, a.1 q x y z], fun q j x => by rw [b.2 q j x, a.2 q j x]⟩
theorem Fr3.up (S : Nat) (f : Hp) (x y z : Int32) : Fr3 S f (am_up (am_up (am_up f 67 S x) 68 S y) 69 S z) := by
  refine ⟨fun q a b d => by rw [am_up_ne d, am_up_ne b, am_up_ne a], fun q j h => ?_⟩
  have : ∀ (g : Hp) (p : Nat) (v : Int32), am_up g p S v q j = g q j := by
    intro g p v
    by_cases hq : q = p
    · subst hq; exact am_up_j h
    · rw [am_up_ne hq]
  rw [this, this, this]
section ShapeM
variable {f : Hp} {n c : Nat} {lk ln : Nat → Nat} {R : Nat → Bool} {Wt : Nat → Nat}
/-- what the reference has laid below k -/
def MK (R : Nat → Bool) (Wt : Nat → Nat) (n k : Nat) (g : Hp) : Prop := (∀ p, 1 ≤ p → p < 2 ^ n → g 66 p = bi (R p)) ∧ (∀ T, T < k → g 67 T = encF (KB R Wt T)) ∧ (∀ T, T < k → g 68 T = encQ (KB R Wt T)) ∧ ∀ T y, 1 ≤ T → T < k → KB R Wt T = some y → g 69 T = nI y.2
theorem gF_lt (h9 : n ≤ 9) (hWb : ∀ S, S < 2 ^ n → R S = true → Wt S ≤ 1000 * cnt S n) {S p v : Nat} (hS : S < 2 ^ n) (h : gF R Wt (KB R Wt) S p = some v) : v < 20000000 := by
  unfold gF at h
  cases hc : cnd S p
  · rw [hc] at h; cases h
  · cases hR : R p
    · rw [hc, hR] at h; cases h
    · rw [hc, hR] at h
      have hl := cnd_lt hc
      have hl2 := cnd_le hc
      cases hK : KB R Wt (S ^^^ p) with
      | none => rw [hK] at h; cases h
      | some z =>
        rw [hK] at h
        have e : z.1 + 1000000 + Wt p = v := Option.some.inj h
        have h1 := KB_lt h9 hWb (S := S ^^^ p) (k := z.1) (p := z.2) (by omega) hK
        have h2 := hWb p (by omega) hR
        have h3 := cnt_le p n
        omega
theorem m_shStep (h : MS n lk ln c f) (hT : TOK lk n (f 65) (2 ^ n)) {S : Nat} (h1 : 1 ≤ S) (hS : S < 2 ^ n) (hmk : MK R Wt n S f) (hRW : ∀ p, 1 ≤ p → p < 2 ^ n → R p = true → WS lk ln n p = some (Wt p)) (hWb : ∀ S, S < 2 ^ n → R S = true → Wt S ≤ 1000 * cnt S n) {p : Nat} (hp1 : 1 ≤ p) (hp : p ≤ S) {acc : Option (Nat × Nat)} (hps : PS S acc f) (hacc : ∀ y, acc = some y → y.1 < 20000000) : ∃ g, am_run 149 79 [.ref 50, .null, .int (nI S), .int (nI (lowb S)), .int (nI p), .null, .null, .null] [] f = am_run 149 79 [.ref 50, .null, .int (nI S), .int (nI (lowb S)), .int (nI (p + 1)), .null, .null, .null] [] g ∧ PS S (up (gF R Wt (KB R Wt) S) acc p) g ∧ Fr3 S f g := by
  obtain ⟨hn, h9, hlk, hlb, hln, hnb, hc, h40⟩ := h
  have h5 := pow9 h9
  have hx : p ^^^ (p &&& S) < 512 := Nat.xor_lt_two_pow (n := 9) (by omega) (by have : p &&& S ≤ p := Nat.and_le_left; omega)
  have hpl : p &&& lowb S < 512 := by have : p &&& lowb S ≤ p := Nat.and_le_left; omega
  rw [eX9_layShapes_79_50, if_neg (nI_nlt (by omega) (by omega)), andn, nx_and, nI_1]
  by_cases hcn : cnd S p = true
  · have hand := cnd_and hcn
    have hlt := cnd_lt hcn
    have hlow : p &&& lowb S ≠ 0 := by
      unfold cnd at hcn
      simp only [Bool.and_eq_true, bne_iff_ne] at hcn
      exact hcn.2
    have hg : gF R Wt (KB R Wt) S p = if R p then (KB R Wt (S ^^^ p)).map (fun z => z.1 + 1000000 + Wt p) else none := by
      unfold gF
      rw [hcn]
      rfl
    rw [hand, Nat.xor_self, if_pos (by decide), if_neg (nI_nez hlow (by omega)), am_ald_in _ _ _ (show p < 512 by omega) (by decide), hmk.1 p hp1 (by omega)]
    simp only [bi_eq0]
    unfold up
    rw [hg]
    cases hR : R p
    · rw [if_pos rfl]
      exact ⟨f, rfl, hps, Fr3.refl S f⟩
    · rw [if_neg (by decide), andn, sub_and hand, am_ald_in _ _ _ (show S ^^^ p < 512 by omega) (by decide), m_walkOf hn h9 hlb hln hnb hT hp1 (by omega), am_cal_some, am_ald_in _ _ _ (show S ^^^ p < 512 by omega) (by decide), hmk.2.1 _ hlt, hmk.2.2.1 _ hlt, hRW p hp1 (by omega) hR, enc_some]
      simp only [if_true]
      cases hK : KB R Wt (S ^^^ p) with
      | none =>
        rw [encF_none, if_neg (by decide)]
        exact ⟨f, rfl, hps, Fr3.refl S f⟩
      | some z =>
        have hz := KB_lt h9 hWb (S := S ^^^ p) (k := z.1) (p := z.2) (by omega) hK
        have hWp := hWb p (by omega) hR
        have hcn := cnt_le p n
        have ed : (z.1 + 1000000 + Wt p) / 1000000 = 1 + z.1 / 1000000 := by omega
        have em : (z.1 + 1000000 + Wt p) % 1000000 = Wt p + z.1 % 1000000 := by omega
        have e1 : (1 : Int32) + nI (z.1 / 1000000) = nI (1 + z.1 / 1000000) := nI_add 1 _
        rw [encF_some, encQ_some, e1, nI_add, if_pos (show nI (1 + z.1 / 1000000) < (100 : Int32) from nI_lt (b := 100) (by omega) (by decide)), am_ald_in _ _ _ (show S < 512 by omega) (by decide), hps.1]
        simp only [Option.map_some]
        have hput : ∀ k : Hp → Option Rs, (am_ast f 67 512 (nI S) (nI (1 + z.1 / 1000000)) fun g6 => am_ast g6 68 512 (nI S) (nI (Wt p + z.1 % 1000000)) fun g7 => am_ast g7 69 512 (nI S) (nI p) k) = k (am_up (am_up (am_up f 67 S (nI (1 + z.1 / 1000000))) 68 S (nI (Wt p + z.1 % 1000000))) 69 S (nI p)) := by
          intro k
          rw [am_ast_in _ _ _ _ (show S < 512 by omega) (by decide), am_ast_in _ _ _ _ (show S < 512 by omega) (by decide), am_ast_in _ _ _ _ (show S < 512 by omega) (by decide)]
        have hPS : PS S (some (z.1 + 1000000 + Wt p, p)) (am_up (am_up (am_up f 67 S (nI (1 + z.1 / 1000000))) 68 S (nI (Wt p + z.1 % 1000000))) 69 S (nI p)) := by
          refine ⟨?_, ?_, fun y hy => ?_⟩
          · rw [am_up_ne (by decide), am_up_ne (by decide), am_up_same, encF_some, ed]
          · rw [am_up_ne (by decide), am_up_same, encQ_some, em]
          · cases hy
            exact am_up_same _ _ _ _
        cases acc with
        | none =>
          rw [encF_none, if_pos (show nI (1 + z.1 / 1000000) < (100 : Int32) from nI_lt (b := 100) (by omega) (by decide)), hput]
          exact ⟨_, rfl, hPS, Fr3.up _ _ _ _ _⟩
        | some y =>
          have hy := hacc y rfl
          rw [encF_some]
          unfold upS
          by_cases a1 : 1 + z.1 / 1000000 < y.1 / 1000000
          · rw [if_pos (nI_lt a1 (by omega)), hput]
            simp only [show z.1 + 1000000 + Wt p < y.1 by omega, if_true]
            exact ⟨_, rfl, hPS, Fr3.up _ _ _ _ _⟩
          · rw [if_neg (nI_nlt (by omega) (by omega)), am_ald_in _ _ _ (show S < 512 by omega) (by decide), hps.1, encF_some]
            by_cases a2 : 1 + z.1 / 1000000 = y.1 / 1000000
            · rw [if_pos (by rw [a2]), am_ald_in _ _ _ (show S < 512 by omega) (by decide), hps.2.1, encQ_some]
              by_cases a3 : Wt p + z.1 % 1000000 < y.1 % 1000000
              · rw [if_pos (nI_lt a3 (by omega)), hput]
                simp only [show z.1 + 1000000 + Wt p < y.1 by omega, if_true]
                exact ⟨_, rfl, hPS, Fr3.up _ _ _ _ _⟩
              · rw [if_neg (nI_nlt (by omega) (by omega))]
                simp only [show ¬ z.1 + 1000000 + Wt p < y.1 by omega, if_false]
                exact ⟨f, rfl, hps, Fr3.refl S f⟩
            · rw [if_neg (fun e => a2 ((nI_eq (by omega) (by omega)).mp e))]
              simp only [show ¬ z.1 + 1000000 + Wt p < y.1 by omega, if_false]
              exact ⟨f, rfl, hps, Fr3.refl S f⟩
  · have hg : gF R Wt (KB R Wt) S p = none := by
      unfold gF
      rw [Bool.not_eq_true _ |>.mp hcn]
      rfl
    unfold up
    rw [hg]
    refine ⟨f, ?_, hps, Fr3.refl S f⟩
    by_cases a : p &&& S = p
    · have b : p &&& lowb S = 0 := by
        unfold cnd at hcn
        simp only [Bool.and_eq_true, beq_iff_eq, bne_iff_ne, not_and, Classical.not_not] at hcn
        exact hcn a
      rw [a, Nat.xor_self, if_pos (by decide), b, if_pos (by decide)]
    · rw [if_neg (nI_nez (fun e => a ((xor_zero_iff _ _).mp e).symm) (by omega))]
theorem MS.keep {g : Hp} (h : MS n lk ln c f) (h50 : g 50 0 = f 50 0) (h55 : g 55 = f 55) (h53 : g 53 = f 53) (h57 : g 57 1 = f 57 1) : MS n lk ln c g := by
  obtain ⟨hn, h9, hlk, hlb, hln, hnb, hc, h40⟩ := h
  exact ⟨by rw [h50]; exact hn, h9, by rw [h55]; exact hlk, hlb, by rw [h53]; exact hln, hnb, by rw [h57]; exact hc, h40⟩
theorem Fr3.MS {S : Nat} {f g : Hp} (a : Fr3 S f g) (h : MS n lk ln c f) : MS n lk ln c g := MS.keep h (by rw [a.1 50 (by decide) (by decide) (by decide)]) (a.1 55 (by decide) (by decide) (by decide)) (a.1 53 (by decide) (by decide) (by decide)) (by rw [a.1 57 (by decide) (by decide) (by decide)])
theorem Fr3.MK {S : Nat} {f g : Hp} (a : Fr3 S f g) (h : MK R Wt n S f) : MK R Wt n S g := by
  obtain ⟨h1, h2, h3, h4⟩ := h
  exact ⟨fun p x y => by rw [a.1 66 (by decide) (by decide) (by decide)]; exact h1 p x y, fun T x => by rw [a.2 67 T (by omega)]; exact h2 T x, fun T x => by rw [a.2 68 T (by omega)]; exact h3 T x, fun T y x z w => by rw [a.2 69 T (by omega)]; exact h4 T y x z w⟩
theorem m_shIn (hRW : ∀ p, 1 ≤ p → p < 2 ^ n → R p = true → WS lk ln n p = some (Wt p)) (hWb : ∀ S, S < 2 ^ n → R S = true → Wt S ≤ 1000 * cnt S n) {S : Nat} (h1 : 1 ≤ S) (hS : S < 2 ^ n) : ∀ d p f, p + d = S + 1 → 1 ≤ p → MS n lk ln c f → TOK lk n (f 65) (2 ^ n) → MK R Wt n S f → PS S (upF (gF R Wt (KB R Wt) S) p) f → ∃ g, am_run 149 79 [.ref 50, .null, .int (nI S), .int (nI (lowb S)), .int (nI p), .null, .null, .null] [] f = am_run 149 48 [.ref 50, .null, .int (nI (S + 1)), .null, .null, .null, .null, .null] [] g ∧ PS S (KB R Wt S) g ∧ Fr3 S f g := by
  intro d
  induction d with
  | zero =>
    intro p f hp hp1 hms hT hmk hps
    have h5 := pow9 hms.2.1
    have : p = S + 1 := by omega
    subst this
    refine ⟨f, ?_, ?_, Fr3.refl S f⟩
    · rw [eX9_layShapes_79_50, if_pos (nI_lt (by omega) (by omega)), nI_1]
    · rw [KB_eq h1]; exact hps
  | succ d ih =>
    intro p f hp hp1 hms hT hmk hps
    obtain ⟨g, e1, e2, e3⟩ := m_shStep hms hT h1 hS hmk hRW hWb hp1 (by omega) hps (fun y hy => by
      have hb := best_upF (gF R Wt (KB R Wt) S) p
      rw [hy] at hb
      exact gF_lt hms.2.1 hWb hS hb.2.1)
    obtain ⟨g', k1, k2, k3⟩ := ih (p + 1) g (by omega) (by omega) (e3.MS hms) (by rw [e3.1 65 (by decide) (by decide) (by decide)]; exact hT) (e3.MK hmk) e2
    exact ⟨g', by rw [e1, k1], k2, e3.trans k3⟩
theorem m_shOut (hRW : ∀ p, 1 ≤ p → p < 2 ^ n → R p = true → WS lk ln n p = some (Wt p)) (hWb : ∀ S, S < 2 ^ n → R S = true → Wt S ≤ 1000 * cnt S n) : ∀ d S f, S + d = 2 ^ n → 1 ≤ S → MS n lk ln c f → TOK lk n (f 65) (2 ^ n) → MK R Wt n S f → ∃ g, am_run 149 48 [.ref 50, .null, .int (nI S), .null, .null, .null, .null, .null] [] f = am_run 149 48 [.ref 50, .null, .int (nI (2 ^ n)), .null, .null, .null, .null, .null] [] g ∧ MK R Wt n (2 ^ n) g ∧ ∀ q, q ≠ 67 → q ≠ 68 → q ≠ 69 → g q = f q := by
  intro d
  induction d with
  | zero =>
    intro S f hS h1 hms hT hmk
    have : S = 2 ^ n := by omega
    subst this
    exact ⟨f, rfl, hmk, fun _ _ _ _ => rfl⟩
  | succ d ih =>
    intro S f hS h1 hms hT hmk
    have h5 := pow9 hms.2.1
    rw [eX9_layShapes_48_50, eX9_all_50, hms.1, all_eq hms.2.1, am_cal_some, if_neg (nI_nlt (by omega) (by omega)), am_ast_in _ _ _ _ (show S < 512 by omega) (by decide), am_ast_in _ _ _ _ (show S < 512 by omega) (by decide), lowI (by omega)]
    have hfr : Fr3 S f (am_up (am_up f 67 S 100) 68 S 0) := by
      refine ⟨fun q a b _ => by rw [am_up_ne b, am_up_ne a], fun q j h => ?_⟩
      have : ∀ (g : Hp) (p : Nat) (v : Int32), am_up g p S v q j = g q j := by
        intro g p v
        by_cases hq : q = p
        · subst hq; exact am_up_j h
        · rw [am_up_ne hq]
      rw [this, this]
    have hps : PS S (upF (gF R Wt (KB R Wt) S) 1) (am_up (am_up f 67 S 100) 68 S 0) := by
      have e0 : upF (gF R Wt (KB R Wt) S) 1 = none := by
        have : gF R Wt (KB R Wt) S 0 = none := by
          unfold gF
          have : cnd S 0 = false := by
            unfold cnd
            simp
          rw [this]
          rfl
        show up _ none 0 = none
        unfold up
        rw [this]
      rw [e0]
      refine ⟨?_, ?_, fun y hy => by cases hy⟩
      · rw [am_up_ne (by decide), am_up_same]; rfl
      · rw [am_up_same]; rfl
    obtain ⟨g, e1, e2, e3⟩ := m_shIn hRW hWb h1 (by omega) S 1 _ (by omega) (by omega) (hfr.MS hms) (by rw [hfr.1 65 (by decide) (by decide) (by decide)]; exact hT) (hfr.MK hmk) hps
    have e1' : am_run 149 79 [.ref 50, .null, .int (nI S), .int (nI (lowb S)), .int 1, .null, .null, .null] [] (am_up (am_up f 67 S 100) 68 S 0) = _ := e1
    rw [e1']
    have hfg := hfr.trans e3
    have hmk2 : MK R Wt n (S + 1) g := by
      obtain ⟨b1, b2, b3, b4⟩ := hfg.MK hmk
      refine ⟨b1, fun T hT => ?_, fun T hT => ?_, fun T y hT1 hT hy => ?_⟩
      · by_cases hTS : T = S
        · subst hTS; exact e2.1
        · exact b2 T (by omega)
      · by_cases hTS : T = S
        · subst hTS; exact e2.2.1
        · exact b3 T (by omega)
      · by_cases hTS : T = S
        · subst hTS; exact e2.2.2 y hy
        · exact b4 T y hT1 (by omega) hy
    obtain ⟨g', k1, k2, k3⟩ := ih (S + 1) g (by omega) (by omega) (hfg.MS hms) (by rw [hfg.1 65 (by decide) (by decide) (by decide)]; exact hT) hmk2
    exact ⟨g', k1, k2, fun q a b d => by rw [k3 q a b d, hfg.1 q a b d]⟩
theorem m_shEx : ∀ F S i g, i + F = 9 → S < 2 ^ n → n ≤ 9 → (∀ T y, 1 ≤ T → T < 2 ^ n → KB R Wt T = some y → g 69 T = nI y.2) → (∃ z, KB R Wt S = some z ∧ z.1 / 1000000 ≤ F) → g 50 25 = nI i → ∃ g', am_run 149 255 [.ref 50, .null, .int (nI S), .null, .null, .null, .null, .null] [] g = some (1, g') ∧ (∀ q, q ≠ 50 → q ≠ 70 → g' q = g q) ∧ (∀ j, j ≠ 25 → g' 50 j = g 50 j) ∧ g' 50 25 = nI (i + (shL R Wt F S).length) ∧ (∀ j, j < i → g' 70 j = g 70 j) ∧ ∀ j, j < (shL R Wt F S).length → g' 70 (i + j) = nI ((shL R Wt F S).getD j 0) := by
  intro F
  induction F with
  | zero =>
    intro S i g hi hS h9 h69 hK h25
    obtain ⟨z, hz, hF⟩ := hK
    rcases Nat.eq_zero_or_pos S with h0 | h0
    · subst h0
      refine ⟨g, ?_, fun _ _ _ => rfl, fun _ _ => rfl, h25, fun _ _ => rfl, fun j hj => absurd hj (Nat.not_lt_zero _)⟩
      rw [eX9_layShapes_255_50, if_pos (by decide)]
      exact am_z1 _
    · obtain ⟨-, -, z2, -, hk⟩ := KB_some (R := R) (Wt := Wt) (k := z.1) (p := z.2) h0 hz
      omega
  | succ F ih =>
    intro S i g hi hS h9 h69 hK h25
    have h5 := pow9 h9
    obtain ⟨z, hz, hF⟩ := hK
    rcases Nat.eq_zero_or_pos S with h0 | h0
    · subst h0
      have e : shL R Wt (F + 1) 0 = [] := rfl
      rw [e]
      refine ⟨g, ?_, fun _ _ _ => rfl, fun _ _ => rfl, h25, fun _ _ => rfl, fun j hj => absurd hj (Nat.not_lt_zero _)⟩
      rw [eX9_layShapes_255_50, if_pos (by decide)]
      exact am_z1 _
    · obtain ⟨hc, hRz, z2, hz2, hk⟩ := KB_some (R := R) (Wt := Wt) (k := z.1) (p := z.2) h0 hz
      have hlt := cnd_lt hc
      rw [eX9_layShapes_255_50, if_neg (nI_nez (by omega) (by omega)), am_ald_in _ _ _ (show S < 512 by omega) (by decide), h25, am_ast_in _ _ _ _ (show i < 9 by omega) (by decide), am_ald_in _ _ _ (show S < 512 by omega) (by decide), am_up_ne (by decide), h69 S z h0 hS hz, andn, sub_and (cnd_and hc)]
      obtain ⟨g', e1, e2, e3, e4, e5, e6⟩ := ih (S ^^^ z.2) (i + 1) (am_up (am_up g 70 i (nI z.2)) 50 25 ((am_up g 70 i (nI z.2)) 50 25 + 1)) (by omega) (by omega) h9 (fun T y a b d => by rw [am_up_ne (by decide), am_up_ne (by decide)]; exact h69 T y a b d) ⟨z2, hz2, by omega⟩ (by rw [am_up_same, am_up_ne (by decide), h25, nI_1])
      rw [shL_ne (by omega) hz]
      refine ⟨g', e1, fun q a b => ?_, fun j hj => ?_, ?_, fun j hj => ?_, fun j hj => ?_⟩
      · rw [e2 q a b, am_up_ne a, am_up_ne b]
      · rw [e3 j hj, am_up_j hj, am_up_ne (by decide)]
      · rw [e4, List.length_cons]
        congr 1
        omega
      · rw [e5 j (by omega), am_up_ne (by decide), am_up_j (by omega)]
      · cases j with
        | zero =>
          show g' 70 i = nI z.2
          rw [e5 i (by omega), am_up_ne (by decide), am_up_same]
        | succ j =>
          have := e6 j (by simpa using hj)
          rw [show i + (j + 1) = i + 1 + j by omega, this]
          rfl
end ShapeM
