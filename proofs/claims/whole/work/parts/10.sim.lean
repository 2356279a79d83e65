def am_em (ad : Nat → Nat) : Value → Value
  | .ref q => .ref (ad q)
  | v => v
abbrev am_Cs : Type := ClassId × ClassId × ClassId × ClassId
def am_tys (cs : am_Cs) : List (ClassId × FieldType) := [(cs.1, .int), (cs.2.1, .byte), (cs.2.2.1, .boolean), (cs.2.2.2, .object "DoorCodes$Town")]
def am_flds (ad : Nat → Nat) (g : Nat → Int32) : Nat → List Nat → List Value
  | _, [] => []
  | j, 0 :: r => .int (g j) :: am_flds ad g (j + 1) r
  | j, (z + 1) :: r => .ref (ad (z + 1)) :: am_flds ad g (j + 1) r
noncomputable def am_E (cs : am_Cs) (ad : Nat → Nat) (f : Hp) (q : Nat) : va_E := match am_shp q with
  | none => .inr (0, [])
  | some (t, n, rs) => match t with
    | 10 => .inl (cs.2.1, n, .inl (f q))
    | 11 => .inl (cs.1, n, .inl (f q))
    | 12 => .inl (cs.2.2.1, n, .inl (f q))
    | 13 => .inl (cs.2.2.2, n, .inr (.inr (.inr (.inr (fun j => (am_nth rs j).map ad)))))
    | t => .inr (t, am_flds ad (f q) 0 rs)
noncomputable def am_ws (cs : am_Cs) (ad : Nat → Nat) (f : Hp) : va_W := (List.range 76).map (fun j => (ad (j + 1), am_E cs ad f (j + 1)))
theorem am_nth_eq {α : Type} : ∀ (l : List α) (n : Nat), am_nth l n = l[n]?
  | [], n => by simp [am_nth]
  | x :: t, 0 => by simp [am_nth]
  | x :: t, n + 1 => by simp [am_nth, am_nth_eq t n]
theorem am_shp_lt {q : Nat} {z : Nat × Nat × List Nat} (h : am_shp q = some z) : q < 77 := by
  refine Nat.lt_of_not_le fun hq => ?_
  unfold am_shp at h
  by_cases h80 : 80 ≤ q
  · have h1 : am_nth am_shapes (q / 8) = none := by
      rw [am_nth_eq]
      exact List.getElem?_eq_none (by show 10 ≤ q / 8; omega)
    rw [h1] at h
    cases h
  · have h1 : q / 8 = 9 := by omega
    rw [h1] at h
    obtain ⟨c, hc, hl⟩ : ∃ c, am_nth am_shapes 9 = some c ∧ c.length = 5 := ⟨_, rfl, rfl⟩
    rw [hc] at h
    have h2 : am_nth c (q % 8) = none := by
      rw [am_nth_eq]
      exact List.getElem?_eq_none (by omega)
    have h3 : am_nth c (q % 8) = some z := h
    rw [h2] at h3
    cases h3
theorem am_pos {q t n : Nat} {rs : List Nat} (h : am_shp q = some (t, n, rs)) (ht : t ≠ 14) : 1 ≤ q ∧ q ≤ 76 := by
  refine ⟨?_, Nat.le_of_lt_succ (am_shp_lt h)⟩
  rcases Nat.eq_zero_or_pos q with h0 | h0
  · subst h0
    have : am_shp 0 = some (14, 0, []) := rfl
    rw [this] at h
    cases h
    exact absurd rfl ht
  · exact h0
theorem am_ws_get (cs : am_Cs) (ad : Nat → Nat) (f : Hp) {q : Nat} (h1 : 1 ≤ q) (h2 : q ≤ 76) : (am_ws cs ad f)[q - 1]? = some (ad q, am_E cs ad f q) := by
  unfold am_ws
  rw [List.getElem?_map, List.getElem?_range (by omega)]
  have : q - 1 + 1 = q := by omega
  simp [this]
theorem am_ws_inv {cs : am_Cs} {ad : Nat → Nat} {f : Hp} {k : Nat} {x : Nat × va_E} (h : (am_ws cs ad f)[k]? = some x) : k < 76 ∧ x = (ad (k + 1), am_E cs ad f (k + 1)) := by
  unfold am_ws at h
  rw [List.getElem?_map] at h
  by_cases hk : k < 76
  · rw [List.getElem?_range hk] at h
    exact ⟨hk, (Option.some.inj h).symm⟩
  · rw [List.getElem?_eq_none (by simpa using hk)] at h
    cases h
theorem am_E_congr {cs : am_Cs} {ad : Nat → Nat} {f g : Hp} {q : Nat} (h : f q = g q) : am_E cs ad f q = am_E cs ad g q := by
  unfold am_E
  rw [h]
theorem am_ws_set {cs : am_Cs} {ad : Nat → Nat} {f g : Hp} {q : Nat} {e : va_E} (h1 : 1 ≤ q) (h2 : q ≤ 76) (hg : ∀ q', q' ≠ q → g q' = f q') (he : e = am_E cs ad g q) : (am_ws cs ad f).set (q - 1) (ad q, e) = am_ws cs ad g := by
  refine List.ext_getElem? fun k => ?_
  by_cases hk : k = q - 1
  · subst hk
    rw [am_ws_get cs ad g h1 h2, he, List.getElem?_set_self (by simp [am_ws]; omega)]
  · rw [List.getElem?_set_ne (fun z => hk z.symm)]
    unfold am_ws
    rw [List.getElem?_map, List.getElem?_map]
    by_cases hk2 : k < 76
    · rw [List.getElem?_range hk2]
      simp only [Option.map_some]
      rw [am_E_congr (hg (k + 1) (by omega))]
    · rw [List.getElem?_eq_none (by simpa using hk2)]
      rfl
theorem am_E_int {cs : am_Cs} {ad : Nat → Nat} {f : Hp} {q n : Nat} {rs : List Nat} (h : am_shp q = some (11, n, rs)) : am_E cs ad f q = .inl (cs.1, n, .inl (f q)) := by
  unfold am_E
  rw [h]
  rfl
theorem am_E_byte {cs : am_Cs} {ad : Nat → Nat} {f : Hp} {q n : Nat} {rs : List Nat} (h : am_shp q = some (10, n, rs)) : am_E cs ad f q = .inl (cs.2.1, n, .inl (f q)) := by
  unfold am_E
  rw [h]
  rfl
theorem am_E_bool {cs : am_Cs} {ad : Nat → Nat} {f : Hp} {q n : Nat} {rs : List Nat} (h : am_shp q = some (12, n, rs)) : am_E cs ad f q = .inl (cs.2.2.1, n, .inl (f q)) := by
  unfold am_E
  rw [h]
  rfl
theorem am_E_ref {cs : am_Cs} {ad : Nat → Nat} {f : Hp} {q n : Nat} {rs : List Nat} (h : am_shp q = some (13, n, rs)) : am_E cs ad f q = .inl (cs.2.2.2, n, .inr (.inr (.inr (.inr (fun j => (am_nth rs j).map ad))))) := by
  unfold am_E
  rw [h]
  rfl
theorem am_E_obj {cs : am_Cs} {ad : Nat → Nat} {f : Hp} {q t n : Nat} {rs : List Nat} (h : am_shp q = some (t, n, rs)) (ht : t < 10) : am_E cs ad f q = .inr (t, am_flds ad (f q) 0 rs) := by
  unfold am_E
  rw [h]
  match t, ht with
  | 0, _ => rfl
  | 1, _ => rfl
  | 2, _ => rfl
  | 3, _ => rfl
  | 4, _ => rfl
  | 5, _ => rfl
  | 6, _ => rfl
  | 7, _ => rfl
  | 8, _ => rfl
  | 9, _ => rfl
theorem am_flds_int {ad : Nat → Nat} {g : Nat → Int32} : ∀ {rs : List Nat} {j b : Nat}, am_nth rs b = some 0 → (am_flds ad g j rs)[b]? = some (.int (g (j + b)))
  | [], _, _, h => by simp [am_nth] at h
  | z :: r, j, 0, h => by
    simp only [am_nth, Option.some.injEq] at h
    subst h
    simp [am_flds]
  | z :: r, j, b + 1, h => by
    have h' : am_nth r b = some 0 := h
    have ih := am_flds_int (ad := ad) (g := g) (j := j + 1) h'
    rw [show j + 1 + b = j + (b + 1) by omega] at ih
    cases z <;> simpa [am_flds] using ih
theorem am_flds_ref {ad : Nat → Nat} {g : Nat → Int32} {z : Nat} : ∀ {rs : List Nat} {j b : Nat}, am_nth rs b = some (z + 1) → (am_flds ad g j rs)[b]? = some (.ref (ad (z + 1)))
  | [], _, _, h => by simp [am_nth] at h
  | y :: r, j, 0, h => by
    simp only [am_nth, Option.some.injEq] at h
    subst h
    simp [am_flds]
  | y :: r, j, b + 1, h => by
    have h' : am_nth r b = some (z + 1) := h
    have ih := am_flds_ref (ad := ad) (g := g) (j := j + 1) h'
    cases y <;> simpa [am_flds] using ih
theorem am_flds_congr {ad : Nat → Nat} {g g' : Nat → Int32} : ∀ {rs : List Nat} {j : Nat}, (∀ k, j ≤ k → g k = g' k) → am_flds ad g j rs = am_flds ad g' j rs
  | [], _, _ => rfl
  | z :: r, j, h => by
    have ih := am_flds_congr (ad := ad) (rs := r) (j := j + 1) (fun k hk => h k (by omega))
    cases z with
    | zero => simp only [am_flds]; rw [ih, h j (Nat.le_refl j)]
    | succ z => simp only [am_flds]; rw [ih]
theorem am_flds_set {ad : Nat → Nat} {g : Nat → Int32} {x : Int32} : ∀ {rs : List Nat} {j b : Nat}, am_nth rs b = some 0 → (am_flds ad g j rs).set b (.int x) = am_flds ad (fun k => bif Nat.beq k (j + b) then x else g k) j rs
  | [], _, _, h => by simp [am_nth] at h
  | z :: r, j, 0, h => by
    simp only [am_nth, Option.some.injEq] at h
    subst h
    simp only [am_flds, List.set_cons_zero, Nat.add_zero, Nat.beq_refl, cond_true]
    congr 1
    refine am_flds_congr fun k hk => ?_
    have : Nat.beq k j = false := by
      rw [Bool.eq_false_iff]
      intro hz
      have := Nat.eq_of_beq_eq_true hz
      omega
    rw [this]
    rfl
  | z :: r, j, b + 1, h => by
    have h' : am_nth r b = some 0 := h
    have ih := am_flds_set (ad := ad) (g := g) (x := x) (j := j + 1) h'
    have e1 : j + 1 + b = j + (b + 1) := by omega
    rw [e1] at ih
    have hz : Nat.beq j (j + (b + 1)) = false := by
      rw [Bool.eq_false_iff]
      intro hz
      have := Nat.eq_of_beq_eq_true hz
      omega
    cases z with
    | zero =>
      simp only [am_flds, List.set_cons_succ]
      rw [ih, hz]
      rfl
    | succ z =>
      simp only [am_flds, List.set_cons_succ]
      rw [ih]
theorem am_flds_len {ad : Nat → Nat} {g : Nat → Int32} : ∀ {rs : List Nat} {j : Nat}, (am_flds ad g j rs).length = rs.length
  | [], _ => rfl
  | z :: r, j => by cases z <;> simp [am_flds, am_flds_len (rs := r)]
theorem am_up_ne {f : Hp} {q j q' : Nat} {x : Int32} (h : q' ≠ q) : am_up f q j x q' = f q' := by
  funext b
  unfold am_up
  have : Nat.beq q' q = false := by
    rw [Bool.eq_false_iff]
    intro hz
    exact h (Nat.eq_of_beq_eq_true hz)
  rw [this]
  rfl
theorem am_up_eq {f : Hp} {q j : Nat} {x : Int32} : am_up f q j x q = upd (f q) j x := by
  funext b
  unfold am_up upd
  rw [Nat.beq_refl]
  by_cases h : b = j
  · subst h
    simp
  · have : Nat.beq b j = false := by
      rw [Bool.eq_false_iff]
      intro hz
      exact h (Nat.eq_of_beq_eq_true hz)
    simp [h, this]
theorem am_up_eq2 {f : Hp} {q j : Nat} {x : Int32} : am_up f q j x q = fun k => bif Nat.beq k (0 + j) then x else f q k := by
  funext b
  unfold am_up
  rw [Nat.beq_refl, Nat.zero_add]
  rfl
theorem am_cpf_ne {f : Hp} {q d sp dp n q' : Nat} (h : q' ≠ d) : am_cpf f q d sp dp n q' = f q' := by
  unfold am_cpf
  have : Nat.beq q' d = false := by
    rw [Bool.eq_false_iff]
    intro hz
    exact h (Nat.eq_of_beq_eq_true hz)
  rw [this]
  rfl
theorem am_cpf_eq {f : Hp} {q d sp dp n : Nat} : am_cpf f q d sp dp n d = va_cpy (f q) (f d) sp dp n := by
  unfold am_cpf
  rw [Nat.beq_refl]
  rfl
/-- the machine's locals hold what the row says -/
def am_LR (ad : Nat → Nat) (L : List Value) (ls : Array Slot) : Prop := L.length = ls.size ∧ lv_wf ls ∧ ∀ i v, am_nth L i = some v → v ≠ .null → ls[i]? = some (.val (am_em ad v))
theorem am_kill1_len : ∀ (L : List Value) (k : Nat), (am_kill1 L k).length = L.length
  | [], _ => rfl
  | _ :: _, 0 => rfl
  | _ :: t, k + 1 => by simp [am_kill1, am_kill1_len t k]
theorem am_kill1_get : ∀ {L : List Value} {k i : Nat} {v : Value}, am_nth (am_kill1 L k) i = some v → v ≠ .null → am_nth L i = some v
  | [], _, _, _, h, _ => h
  | x :: t, 0, 0, v, h, hv => by
    simp only [am_kill1, am_nth, Option.some.injEq] at h
    exact absurd h.symm hv
  | x :: t, 0, i + 1, v, h, _ => h
  | x :: t, k + 1, 0, v, h, _ => h
  | x :: t, k + 1, i + 1, v, h, hv => am_kill1_get (L := t) (k := k) (i := i) h hv
theorem am_LR.kill {ad : Nat → Nat} {ls : Array Slot} : ∀ {ks : List Nat} {L : List Value}, am_LR ad L ls → am_LR ad (am_kill ks L) ls
  | [], _, h => h
  | k :: ks, L, h => am_LR.kill (ks := ks) (L := am_kill1 L k) ⟨(am_kill1_len L k).trans h.1, h.2.1, fun i v hi hv => h.2.2 i v (am_kill1_get hi hv) hv⟩
theorem am_LR.kl {ad : Nat → Nat} {ls : Array Slot} {o : Option (List Nat)} {L : List Value} (h : am_LR ad L ls) : am_LR ad (am_kl o L) ls := by
  cases o with
  | none => exact h
  | some ks => exact h.kill
def am_lv (ad : Nat → Nat) : Nat → List Value → List (Nat × Value)
  | _, [] => []
  | i, v :: t => if v = .null then am_lv ad (i + 1) t else (i, am_em ad v) :: am_lv ad (i + 1) t
theorem am_lv_mem {ad : Nat → Nat} : ∀ {L : List Value} {i k : Nat} {v : Value}, am_nth L k = some v → v ≠ .null → (i + k, am_em ad v) ∈ am_lv ad i L
  | [], _, _, _, h, _ => by simp [am_nth] at h
  | x :: t, i, 0, v, h, hv => by
    simp only [am_nth, Option.some.injEq] at h
    subst h
    simp [am_lv, hv]
  | x :: t, i, k + 1, v, h, hv => by
    have h' : am_nth t k = some v := h
    have ih := am_lv_mem (ad := ad) (i := i + 1) h' hv
    rw [show i + 1 + k = i + (k + 1) by omega] at ih
    by_cases hx : x = .null
    · simp only [am_lv, if_pos hx]
      exact ih
    · simp only [am_lv, if_neg hx]
      exact List.mem_cons_of_mem _ ih
theorem am_lv_inv {ad : Nat → Nat} : ∀ {L : List Value} {i : Nat} {q : Nat × Value}, q ∈ am_lv ad i L → ∃ k v, am_nth L k = some v ∧ v ≠ .null ∧ q = (i + k, am_em ad v)
  | [], _, _, h => by simp [am_lv] at h
  | x :: t, i, q, h => by
    by_cases hx : x = .null
    · simp only [am_lv, if_pos hx] at h
      obtain ⟨k, v, h1, h2, h3⟩ := am_lv_inv h
      exact ⟨k + 1, v, h1, h2, by rw [h3]; congr 1; omega⟩
    · simp only [am_lv, if_neg hx] at h
      rcases List.mem_cons.mp h with h | h
      · exact ⟨0, x, rfl, hx, by rw [h]; rfl⟩
      · obtain ⟨k, v, h1, h2, h3⟩ := am_lv_inv h
        exact ⟨k + 1, v, h1, h2, by rw [h3]; congr 1; omega⟩
theorem am_LR.has {ad : Nat → Nat} {L : List Value} {ls : Array Slot} (h : am_LR ad L ls) : lv_has ls ls.size (am_lv ad 0 L) := by
  refine ⟨rfl, h.2.1, fun q hq => ?_⟩
  obtain ⟨k, v, h1, h2, h3⟩ := am_lv_inv hq
  rw [h3, Nat.zero_add]
  exact h.2.2 k v h1 h2
theorem am_stl_ok : ∀ {L L' : List Value} {i : Nat} {v : Value}, am_stl L i v = some L' → i < L.length ∧ L'.length = L.length ∧ am_nth L' i = some v ∧ (∀ j, j ≠ i → am_nth L' j = am_nth L j) ∧ ∀ j w, am_nth L j = some w → j + 1 = i → ¬ w.category = 2
  | [], _, _, _, h => by cases h
  | x :: t, L', 0, v, h => by
    simp only [am_stl, Option.some.injEq] at h
    subst h
    refine ⟨by simp, by simp, rfl, fun j hj => ?_, fun j w _ hj => absurd hj (by omega)⟩
    cases j with
    | zero => exact absurd rfl hj
    | succ j => rfl
  | x :: t, L', n + 1, v, h => by
    have key : ¬ (n = 0 ∧ x.category = 2) ∧ ∃ t', am_stl t n v = some t' ∧ L' = x :: t' := by
      unfold am_stl at h
      split at h
      · cases h
      · cases h
      · rename_i h1 h2
        refine ⟨fun hz => ?_, ?_⟩
        · obtain ⟨h0, hx⟩ := hz
          subst h0
          cases x <;> first | exact (h1 _ rfl rfl).elim | exact (h2 _ rfl rfl).elim | (simp [Value.category] at hx)
        · split at h
          · cases h
          · rename_i t' ht
            exact ⟨t', ht, (Option.some.inj h).symm⟩
    obtain ⟨hc, t', ht, hL⟩ := key
    subst hL
    obtain ⟨h1, h2, h3, h4, h5⟩ := am_stl_ok ht
    refine ⟨by simp; omega, by simp [h2], h3, fun j hj => ?_, fun j w hj hji => ?_⟩
    · cases j with
      | zero => rfl
      | succ j => exact h4 j (by omega)
    · cases j with
      | zero =>
        have hx : x = w := Option.some.inj hj
        subst hx
        exact fun hz => hc ⟨by omega, hz⟩
      | succ j => exact h5 j w hj (by omega)
theorem am_em_cat (ad : Nat → Nat) (v : Value) : (am_em ad v).category = v.category := by cases v <;> rfl
theorem am_LR.store {ad : Nat → Nat} {L L' : List Value} {ls ls' : Array Slot} {i : Nat} {v : Value} (hL : am_LR ad L ls) (hs : am_stl L i v = some L') (h : lv_has ls' ls.size ((i, am_em ad v) :: (am_lv ad 0 L).filter (fun q => !(q.1 == i) && !(q.1 + 1 == i && q.2.category == 2)))) : am_LR ad L' ls' := by
  obtain ⟨h1, h2, h3, h4, h5⟩ := am_stl_ok hs
  refine ⟨by rw [h2, hL.1, h.1], h.2.1, fun j w hj hw => ?_⟩
  by_cases hji : j = i
  · subst hji
    rw [h3] at hj
    cases hj
    exact h.2.2 (j, am_em ad v) List.mem_cons_self
  · rw [h4 j hji] at hj
    refine h.2.2 (j, am_em ad w) (List.mem_cons_of_mem _ (List.mem_filter.mpr ⟨?_, ?_⟩))
    · have := am_lv_mem (ad := ad) (i := 0) hj hw
      rwa [Nat.zero_add] at this
    · have h6 := h5 j w hj
      simp only [am_em_cat]
      by_cases hj1 : j + 1 = i
      · simp [hji, h6 hj1]
      · simp [hji, hj1]

def am_nest : Cond → Bool
  | .fieldLinkNest _ _ _ _ _ _ => true
  | .methodLinkNest _ _ _ _ => true
  | _ => false
def am_XS (Lx : Nat) (xs : Nat → Int32) (f : Hp) : Prop := f 77 0 = Int32.ofNat Lx ∧ ∀ j, j < Lx → f 0 j = xs j
def am_Ad (ad : Nat → Nat) (A : Nat → Prop) (b : Nat) : Prop := (∀ i j, 1 ≤ i → i ≤ 76 → 1 ≤ j → j ≤ 76 → ad i = ad j → i = j) ∧ (∀ i, 1 ≤ i → i ≤ 76 → A (ad i)) ∧ ad 0 = b ∧ ¬ A b
def am_rm (d : Nat) : Room := { frames := d, cells := 0, slots := 0, locals := 64 * d }
def am_wsm (q : Inf) : List Cond := .code q.1 q.2.1 q.2.2.1 q.2.2.2.1 :: am_GW
def am_Pre (D : va_G) (cs : am_Cs) (ad : Nat → Nat) (b Lx : Nat) (xs : Nat → Int32) (f : Hp) (U : State) : Prop := va_P D vwCl (am_ws cs ad f) U.heap ∧ va_K D vwCl (am_tys cs) U ∧ (∀ w ∈ lw_tbl, am_nest w = true → va_Nw w U) ∧ va_X b Lx xs U U.heap
def am_Q (D : va_G) (cs : am_Cs) (ad : Nat → Nat) (A : Nat → Prop) (rt : Option FieldType) (r : Rs) : Array Value → State → Outcome → State → Prop := match rt with
  | none => va_Qv (fun _ : Unit => True) (fun _ t => va_P D vwCl (am_ws cs ad r.2) t.heap) A
  | some _ => va_Qi (fun (x : Int32) (_ : Unit) => x = r.1) (fun _ t => va_P D vwCl (am_ws cs ad r.2) t.heap) A
def am_Ct (l : Launch) (D : va_G) (cs : am_Cs) (ad : Nat → Nat) (A : Nat → Prop) (b Lx : Nat) (xs : Nat → Int32) (q : Inf) (as : List Value) (f : Hp) (r : Rs) : Prop :=
  Met l q.1 (am_wsm q) (am_rm q.2.2.2.2.1) (va_Pc (as.map (am_em ad)) (am_Pre D cs ad b Lx xs f)) (am_Q D cs ad A q.2.2.2.1 r) 0 0 A
def am_Cx (p : Program) (R : Room) (s : State) (mid : MethodId) (args : Array Value) (c : Code) (D : va_G) (cs : am_Cs) (ad : Nat → Nat) (A : Nat → Prop) (b Lx : Nat) (xs : Nat → Int32) (q : Inf) (cells slots : Nat) : Prop :=
  p.tables.exec = Jvm.exec ∧ c.code = q.2.1 ∧ s.vm.findClass q.1.cls = some mid.cls ∧ (∀ w ∈ am_GW, w.before args s = true) ∧ (∀ w ∈ lw_tbl, am_nest w = true → va_Nw w s) ∧ va_K D vwCl (am_tys cs) s ∧ am_Ad ad A b ∧ va_X b Lx xs s s.heap ∧ Lx ≤ 2560 ∧ q.2.2.2.2.1 ≤ R.frames ∧ 64 * q.2.2.2.2.1 ≤ R.locals ∧ cells ≤ R.cells ∧ slots ≤ R.slots
theorem am_D {cs : am_Cs} {ad : Nat → Nat} {A : Nat → Prop} {b : Nat} (h : am_Ad ad A b) (f : Hp) : va_D A (am_ws cs ad f) := by
  refine ⟨fun i j x y hx hy hxy => ?_, fun k x hx => ?_⟩
  · obtain ⟨h1, rfl⟩ := am_ws_inv hx
    obtain ⟨h2, rfl⟩ := am_ws_inv hy
    have := h.1 (i + 1) (j + 1) (by omega) (by omega) (by omega) (by omega) hxy
    omega
  · obtain ⟨h1, rfl⟩ := am_ws_inv hx
    exact h.2.1 (k + 1) (by omega) (by omega)
theorem am_XS.up {Lx : Nat} {xs : Nat → Int32} {f : Hp} {q j : Nat} {x : Int32} (h : am_XS Lx xs f) (h0 : 1 ≤ q) (h1 : q ≤ 76) : am_XS Lx xs (am_up f q j x) := by
  refine ⟨?_, fun i hi => ?_⟩
  · rw [am_up_ne (by omega)]
    exact h.1
  · rw [am_up_ne (by omega)]
    exact h.2 i hi
theorem am_XS.cp {Lx : Nat} {xs : Nat → Int32} {f : Hp} {q d sp dp n : Nat} (h : am_XS Lx xs f) (h0 : 1 ≤ d) (h1 : d ≤ 76) : am_XS Lx xs (am_cpf f q d sp dp n) := by
  refine ⟨?_, fun i hi => ?_⟩
  · rw [am_cpf_ne (by omega)]
    exact h.1
  · rw [am_cpf_ne (by omega)]
    exact h.2 i hi
theorem am_inB {i : Int32} {n : Nat} (h : 0 ≤ i.toInt ∧ i.toInt < (n : Int)) : vp_in i n := vp_in_iff.mpr h
theorem am_dd_ok {cc : ByteArray} {pc : Nat} {i : Instr} {len n : Nat} (h : am_dd cc pc i len n = true) : decode cc pc = .ok (i, len) ∧ n = pc + len := by
  simpa only [am_dd, Bool.and_eq_true, decide_eq_true_eq] using h
theorem am_pop_ok : ∀ {n : Nat} {acc st as r : List Value}, am_pop n acc st = some (as, r) → ∃ xs, as = xs ++ acc ∧ st = xs.reverse ++ r ∧ xs.length = n
  | 0, acc, st, as, r, h => by
    simp only [am_pop, Option.some.injEq, Prod.mk.injEq] at h
    exact ⟨[], by simp [h.1], by simp [h.2], rfl⟩
  | n + 1, acc, [], as, r, h => by cases h
  | n + 1, acc, v :: st, as, r, h => by
    obtain ⟨xs, h1, h2, h3⟩ := am_pop_ok (n := n) (acc := v :: acc) (st := st) h
    exact ⟨xs ++ [v], by simp [h1], by simp [h2], by simp [h3]⟩
theorem am_cat_sum (ad : Nat → Nat) : ∀ (l : List Value), ((l.map (am_em ad)).map fun v => v.category).sum = am_cat l
  | [] => rfl
  | v :: t => by
    have ih := am_cat_sum ad t
    simp only [List.map_cons, List.sum_cons, am_em_cat]
    rw [ih]
    cases v <;> rfl
theorem am_shr_id {q : Nat} {z : Nat × Nat × List Nat} (h : am_shp q = some z) : am_shp q = some (z.1, z.2.1, z.2.2) := h
theorem am_fok_ok {own : String} {j a b : Nat} (h : am_fok own j a b = true) : a < 10 ∧ b < (am_C a).2.2 ∧ (am_fw own j a b ∈ am_GW ∨ am_fwN own j a b ∈ lw_tbl) := by
  simp only [am_fok, Bool.and_eq_true, Bool.or_eq_true, decide_eq_true_eq] at h
  obtain ⟨⟨h1, h2⟩, h3⟩ := h
  refine ⟨h1, h2, ?_⟩
  rcases h3 with h3 | h3
  · obtain ⟨q, hq, h4⟩ := List.any_eq_true.mp h3
    simp only [Bool.and_eq_true, decide_eq_true_eq] at h4
    obtain ⟨⟨⟨e1, e2⟩, e3⟩, e4⟩ := h4
    have := am_in_ok (List.all_eq_true.mp am_fls_all q hq)
    rw [Nat.eq_of_beq_eq_true e1, Nat.eq_of_beq_eq_true e2, Nat.eq_of_beq_eq_true e3, e4] at this
    exact Or.inl this
  · obtain ⟨q, hq, h4⟩ := List.any_eq_true.mp h3
    simp only [Bool.and_eq_true, decide_eq_true_eq] at h4
    obtain ⟨⟨⟨e1, e2⟩, e3⟩, e4⟩ := h4
    have := List.all_eq_true.mp am_flsN_all q hq
    simp only [decide_eq_true_eq] at this
    rw [Nat.eq_of_beq_eq_true e1, Nat.eq_of_beq_eq_true e2, Nat.eq_of_beq_eq_true e3, e4] at this
    exact Or.inr (List.mem_of_getElem? this)
theorem am_cst_ok {own : String} {z : Nat} {v : Int32} (h : am_csts.any (fun y => Nat.beq y.2.1 z && decide (y.2.2.1 = v) && decide (y.1 = own)) = true) : Cond.constant own z v ∈ am_GW := by
  obtain ⟨q, hq, h4⟩ := List.any_eq_true.mp h
  simp only [Bool.and_eq_true, decide_eq_true_eq] at h4
  obtain ⟨⟨e1, e2⟩, e3⟩ := h4
  have := am_in_ok (List.all_eq_true.mp am_csts_all q hq)
  rw [Nat.eq_of_beq_eq_true e1, e2, e3] at this
  exact this
theorem am_cstL_ok {own : String} {z : Nat} {v : Int64} (h : am_cstLs.any (fun y => Nat.beq y.2.1 z && decide (y.2.2.1 = v) && decide (y.1 = own)) = true) : Cond.constantLong own z v ∈ am_GW := by
  obtain ⟨q, hq, h4⟩ := List.any_eq_true.mp h
  simp only [Bool.and_eq_true, decide_eq_true_eq] at h4
  obtain ⟨⟨e1, e2⟩, e3⟩ := h4
  have := am_in_ok (List.all_eq_true.mp am_cstLs_all q hq)
  rw [Nat.eq_of_beq_eq_true e1, e2, e3] at this
  exact this
theorem am_cps_ok {own : String} {j : Nat} (h : am_cps.any (fun z => Nat.beq z.2.1 j && decide (z.1 = own)) = true) : Cond.methodLink own j arraycopyName ∈ am_GW := by
  obtain ⟨q, hq, h4⟩ := List.any_eq_true.mp h
  simp only [Bool.and_eq_true, decide_eq_true_eq] at h4
  obtain ⟨e1, e3⟩ := h4
  have := am_in_ok (List.all_eq_true.mp am_cps_all q hq)
  rw [Nat.eq_of_beq_eq_true e1, e3] at this
  exact this
theorem am_mths_ok {own : String} {j c : Nat} (h : am_mths.any (fun z => Nat.beq z.2.1 j && Nat.beq z.2.2.1 c && decide (z.1 = own)) = true) : Cond.methodLink own j (am_mname c) ∈ am_GW := by
  obtain ⟨q, hq, h4⟩ := List.any_eq_true.mp h
  simp only [Bool.and_eq_true, decide_eq_true_eq] at h4
  obtain ⟨⟨e1, e2⟩, e3⟩ := h4
  have := am_in_ok (List.all_eq_true.mp am_mths_all q hq)
  rw [Nat.eq_of_beq_eq_true e1, Nat.eq_of_beq_eq_true e2, e3] at this
  exact this
theorem am_ml_ok {own : String} {j : Nat} {y : MethodName} (h : (am_mls.any (fun z => Nat.beq z.2.1 j && decide (z.1 = own) && decide (z.2.2.1 = y)) || am_mlsN.any (fun z => Nat.beq z.2.1 j && decide (z.1 = own) && decide (z.2.2.1 = y))) = true) : Cond.methodLink own j y ∈ am_GW ∨ Cond.methodLinkNest own j y RX8 ∈ lw_tbl := by
  rcases Bool.or_eq_true _ _ |>.mp h with h3 | h3
  · obtain ⟨q, hq, h4⟩ := List.any_eq_true.mp h3
    simp only [Bool.and_eq_true, decide_eq_true_eq] at h4
    obtain ⟨⟨e1, e2⟩, e3⟩ := h4
    have := am_in_ok (List.all_eq_true.mp am_mls_all q hq)
    rw [Nat.eq_of_beq_eq_true e1, e2, e3] at this
    exact Or.inl this
  · obtain ⟨q, hq, h4⟩ := List.any_eq_true.mp h3
    simp only [Bool.and_eq_true, decide_eq_true_eq] at h4
    obtain ⟨⟨e1, e2⟩, e3⟩ := h4
    have := List.all_eq_true.mp am_mlsN_all q hq
    simp only [decide_eq_true_eq] at this
    rw [Nat.eq_of_beq_eq_true e1, e2, e3] at this
    exact Or.inr (List.mem_of_getElem? this)
theorem am_cls {ci : Nat} (h : ci < 10) : ∃ ty0 : Nat → FieldType, (∀ k, k < (am_C ci).2.2 → parseFieldDescriptor ((am_C ci).2.1 k).2.2.1 = some (ty0 k)) ∧ ∀ a, a < (am_C ci).2.2 → ∀ b, b < (am_C ci).2.2 → a ≠ b → ((am_C ci).2.1 a).2.1 ≠ ((am_C ci).2.1 b).2.1 := by
  match ci, h with
  | 0, _ => exact ⟨tyX0, tyX0_ok, nmX0⟩
  | 1, _ => exact ⟨tyX1, tyX1_ok, nmX1⟩
  | 2, _ => exact ⟨tyX2, tyX2_ok, nmX2⟩
  | 3, _ => exact ⟨tyX3, tyX3_ok, nmX3⟩
  | 4, _ => exact ⟨tyX4, tyX4_ok, nmX4⟩
  | 5, _ => exact ⟨tyX5, tyX5_ok, nmX5⟩
  | 6, _ => exact ⟨tyX6, tyX6_ok, nmX6⟩
  | 7, _ => exact ⟨tyX7, tyX7_ok, nmX7⟩
  | 8, _ => exact ⟨tyX8, tyX8_ok, nmX8⟩
  | 9, _ => exact ⟨tyX9, tyX9_ok, nmX9⟩
theorem am_sw_cases {x : Int32} {K : Nat → Option Rs} {d : Nat} {r : Rs} : ∀ {l : List (Int32 × Nat)}, am_sw x K d l = some r → (∃ (j : Nat) (t : Nat), l[j]? = some (x, t) ∧ K t = some r) ∨ ((∀ q ∈ l, x ≠ q.1) ∧ K d = some r)
  | [], h => Or.inr ⟨fun _ hq => absurd hq List.not_mem_nil, h⟩
  | (v, t) :: l, h => by
    by_cases hx : x = v
    · simp only [am_sw, if_pos hx] at h
      exact Or.inl ⟨0, t, by simp [hx], h⟩
    · simp only [am_sw, if_neg hx] at h
      rcases am_sw_cases h with ⟨j, t', h1, h2⟩ | ⟨h1, h2⟩
      · exact Or.inl ⟨j + 1, t', by simpa using h1, h2⟩
      · refine Or.inr ⟨fun q hq => ?_, h2⟩
        rcases List.mem_cons.mp hq with hq | hq
        · subst hq
          exact hx
        · exact h1 q hq
theorem am_rl_cases {i : Int32} {K : Nat → Option Rs} {r : Rs} : ∀ {j : Nat} {l : List Nat}, am_rl i K (Int32.ofNat j) l = some r → ∃ (k t : Nat), l[k]? = some t ∧ i = Int32.ofNat (j + k) ∧ K t = some r
  | _, [], h => by cases h
  | j, q :: l, h => by
    by_cases hx : i = Int32.ofNat j
    · simp only [am_rl, if_pos hx] at h
      exact ⟨0, q, by simp, by simpa using hx, h⟩
    · simp only [am_rl, if_neg hx] at h
      have e : Int32.ofNat j + 1 = Int32.ofNat (j + 1) := nI_1 j
      rw [e] at h
      obtain ⟨k, t, h1, h2, h3⟩ := am_rl_cases h
      exact ⟨k + 1, t, by simpa using h1, by rw [h2]; congr 1; omega, h3⟩

theorem am_nn {x : Int32} (h : 0 ≤ x.toInt) : ¬ x < 0 := fun hz => by
  have h1 := Int32.lt_iff_toInt_lt.mp hz
  have h2 : (0 : Int32).toInt = 0 := rfl
  omega
theorem am_nz {x : Int32} (h : x = 0 ∨ x = 1) : narrow .boolean (.int x) = .int x := by
  rcases h with h | h <;> subst h <;> rfl
theorem am_nfw : nativeFrameWords "java/lang/System" "arraycopy" 5 + 11 ≤ 50 := by decide
theorem am_nest_on {w : Cond} (h : am_nest w = true) : w.onTables = true := by
  cases w <;> first | rfl | (simp [am_nest] at h)
theorem am_blind {av : List Value} {D : va_G} {cs : am_Cs} {ad : Nat → Nat} {b Lx : Nat} {xs : Nat → Int32} {f : Hp} : FrameBlind (va_Pc av (am_Pre D cs ad b Lx xs f)) := by
  intro a U g mk h
  obtain ⟨h0, h1, h2, h3, h4⟩ := h
  exact ⟨h0, h1, va_K.moved (u := U) (U := U.calling g mk a) (Vm.Alike.refl U.vm) h2, fun w hw hn => va_Nw.same (u := U) (U := U.calling g mk a) (am_nest_on hn) rfl (h3 w hw hn), va_X.moved (u := U) (U := U.calling g mk a) (Vm.Alike.refl U.vm) h4⟩
theorem am_pre_warm {D : va_G} {cs : am_Cs} {ad : Nat → Nat} {A : Nat → Prop} {b Lx : Nat} {xs : Nat → Int32} {f : Hp} {s U : State} {H : Heap} {locs : List Loc} (hP : va_P D vwCl (am_ws cs ad f) H) (hK : va_K D vwCl (am_tys cs) s) (hN : ∀ w ∈ lw_tbl, am_nest w = true → va_Nw w s) (hX : va_X b Lx xs s s.heap) (hS : va_S A s.heap H locs) (hbA : ¬ A b) (hU : U.heap = H) (hW : s.WarmedH U.vm) : am_Pre D cs ad b Lx xs f U := by
  have hbl : b < s.heap.size := by
    obtain ⟨scr, h1, -⟩ := hX
    exact (Array.getElem?_eq_some_iff.mp h1).1
  refine ⟨by rw [hU]; exact hP, va_K.moved hW.alike hK, fun w hw hn => ?_, by rw [hU]; exact va_X.moved hW.alike (hX.kept (hS.2.1 b hbl hbA))⟩
  have := hN w hw hn
  cases w <;> first | exact va_Nw.warmF hW this | exact va_Nw.warmM hW this | (simp [am_nest] at hn)

theorem am_no14 {q n : Nat} {rs : List Nat} (h : am_shp q = some (14, n, rs)) (h0 : 0 < q) : False := by
  have hq := am_shp_lt h
  have key : ∀ q, q < 77 → 0 < q → (match am_shp q with
    | some z => z.1 == 14
    | none => false) = false := by decide +kernel
  have := key q hq h0
  rw [h] at this
  cases this
theorem am_ref_len {q n k t : Nat} {rs : List Nat} (h : am_shp q = some (13, n, rs)) (hk : rs[k]? = some t) : k < 2 ∧ k < n ∧ n = 2 := by
  have hq := am_shp_lt h
  have key : ∀ q, q < 77 → (match am_shp q with
    | some z => z.1 != 13 || (z.2.1 == 2 && z.2.2.length == 2)
    | none => true) = true := by decide +kernel
  have h2 := key q hq
  rw [h] at h2
  simp at h2
  have := (List.getElem?_eq_some_iff.mp hk).1
  omega

section AmSim
variable {p : Program} {l : Launch} {e : Env} {R : Room} {s : State} {mid : MethodId} {args : Array Value} {below : List Frame} {meth : Method} {c : Code} {cells slots : Nat} {Q : State → Prop}
variable {D : va_G} {cs : am_Cs} {ad : Nat → Nat} {A : Nat → Prop} {b Lx : Nat} {xs : Nat → Int32}
set_option maxHeartbeats 8000000 in
set_option maxRecDepth 100000 in
theorem am_sim {q : Inf} {pc : Nat} {en : En} (hC : am_Cx p R s mid args c D cs ad A b Lx xs q cells slots) (hok : am_okb q pc en = true) {cal : Nat → List Value → Hp → Option Rs} {k : Nat → List Value → List Value → Hp → Option Rs} {r : Rs}
    (hcal : ∀ m' as f x g q', am_inf m' = some q' → 0 < m' → q'.2.2.2.2.2.1 < 2 → am_XS Lx xs f → cal m' as f = some (x, g) → am_cat as ≤ am_mxl m' → am_Ct l D cs ad A b Lx xs q' as f (x, g) ∧ am_XS Lx xs g)
    (hcal0 : ∀ as f, cal 0 as f = none)
    (hk : ∀ pc' L' st' f' H' locs' ls', k pc' L' st' f' = some r → am_XS Lx xs f' → va_P D vwCl (am_ws cs ad f') H' → va_S A s.heap H' locs' → am_LR ad L' ls' → c.maxLocals = ls'.size → W p l e R s mid args below meth c H' locs' cells slots Q (F0 mid pc' ls' (st'.map (am_em ad))))
    (hri : ∀ pc' ty H' locs' ls', decode q.2.1 pc' = .ok (.ireturn, 1) → q.2.2.2.1 = some ty → narrow ty (.int r.1) = .int r.1 → va_P D vwCl (am_ws cs ad r.2) H' → va_S A s.heap H' locs' → W p l e R s mid args below meth c H' locs' cells slots Q (F0 mid pc' ls' [.int r.1]))
    (hrv : ∀ pc' H' locs' ls', decode q.2.1 pc' = .ok (.return_, 1) → q.2.2.2.1 = none → va_P D vwCl (am_ws cs ad r.2) H' → va_S A s.heap H' locs' → W p l e R s mid args below meth c H' locs' cells slots Q (F0 mid pc' ls' []))
    (hbig : ∀ m' q', am_inf m' = some q' → 0 < m' → am_iwok q' = true ∧ am_mxl m' = q'.2.2.1 ∧ (q'.2.2.2.2.2.1 = 0 → am_own m' < 10 ∧ (am_C (am_own m')).1 = q'.1.cls))
    {L st : List Value} {f : Hp} {H : Heap} {locs : List Loc} {ls : Array Slot} (h : am_st cal k L st f en = some r) (hXS : am_XS Lx xs f) (hP : va_P D vwCl (am_ws cs ad f) H) (hS : va_S A s.heap H locs) (hL : am_LR ad L ls) (hml : c.maxLocals = ls.size) :
    W p l e R s mid args below meth c H locs cells slots Q (F0 mid pc ls (st.map (am_em ad))) := by
  obtain ⟨hx, hb, hown, hts, hN, hK, hAd, hX, hLx, hfr, hlo, hce, hsl⟩ := hC
  have hD := am_D (cs := cs) hAd f
  obtain ⟨i, n, a, bb, cc, v, ww⟩ := en
  cases i with
  | iconst z =>
    simp only [am_okb, Bool.and_eq_true, decide_eq_true_eq] at hok
    obtain ⟨hd, hv⟩ := hok
    obtain ⟨hd', hn'⟩ := am_dd_ok hd
    clear hd
    subst hn'
    have hd := hd'
    simp only [am_st] at h
    exact lv_iconst hx hb hd hv (hk _ _ _ _ _ _ _ h hXS hP hS hL hml)
  | bipush z =>
    simp only [am_okb, Bool.and_eq_true, decide_eq_true_eq] at hok
    obtain ⟨hd, hv⟩ := hok
    obtain ⟨hd', hn'⟩ := am_dd_ok hd
    clear hd
    subst hn'
    have hd := hd'
    simp only [am_st] at h
    exact lv_bipush hx hb hd hv (hk _ _ _ _ _ _ _ h hXS hP hS hL hml)
  | sipush z =>
    simp only [am_okb, Bool.and_eq_true, decide_eq_true_eq] at hok
    obtain ⟨hd, hv⟩ := hok
    obtain ⟨hd', hn'⟩ := am_dd_ok hd
    clear hd
    subst hn'
    have hd := hd'
    simp only [am_st] at h
    exact lv_sipush hx hb hd hv (hk _ _ _ _ _ _ _ h hXS hP hS hL hml)
  | ldc z =>
    simp only [am_okb, Bool.and_eq_true] at hok
    obtain ⟨hd, hv⟩ := hok
    obtain ⟨hd', hn'⟩ := am_dd_ok hd
    clear hd
    subst hn'
    have hd := hd'
    simp only [am_st] at h
    exact lv_ldc hx hb hown (hts _ (am_cst_ok hv)) hd (hk _ _ _ _ _ _ _ h hXS hP hS hL hml)
  | ldc_w z =>
    simp only [am_okb, Bool.and_eq_true] at hok
    obtain ⟨hd, hv⟩ := hok
    obtain ⟨hd', hn'⟩ := am_dd_ok hd
    clear hd
    subst hn'
    have hd := hd'
    simp only [am_st] at h
    exact lv_ldcw hx hb hown (hts _ (am_cst_ok hv)) hd (hk _ _ _ _ _ _ _ h hXS hP hS hL hml)
  | lconst z =>
    simp only [am_okb, Bool.and_eq_true, decide_eq_true_eq] at hok
    obtain ⟨hd, hv⟩ := hok
    obtain ⟨hd', hn'⟩ := am_dd_ok hd
    clear hd
    subst hn'
    have hd := hd'
    simp only [am_st] at h
    exact lv_lconst hx hb hd hv (hk _ _ _ _ _ _ _ h hXS hP hS hL hml)
  | ldc2_w z =>
    simp only [am_okb, Bool.and_eq_true] at hok
    obtain ⟨hd, hv⟩ := hok
    obtain ⟨hd', hn'⟩ := am_dd_ok hd
    clear hd
    subst hn'
    have hd := hd'
    simp only [am_st] at h
    exact lv_ldc2 hx hb hown (hts _ (am_cstL_ok hv)) hd (hk _ _ _ _ _ _ _ h hXS hP hS hL hml)
  | iload z =>
    simp only [am_okb, Bool.and_eq_true, decide_eq_true_eq] at hok
    obtain ⟨hd, hv⟩ := hok
    obtain ⟨hd', hn'⟩ := am_dd_ok hd
    clear hd
    subst hn'
    have hd := hd'
    subst hv
    simp only [am_st] at h
    split at h
    · rename_i x hx1
      exact lv_iload hx hb hd (hL.2.2 _ _ hx1 (fun z => by cases z)) (hk _ _ _ _ _ _ _ h hXS hP hS hL hml)
    · cases h
  | iload_n z =>
    simp only [am_okb, Bool.and_eq_true, decide_eq_true_eq] at hok
    obtain ⟨hd, hv⟩ := hok
    obtain ⟨hd', hn'⟩ := am_dd_ok hd
    clear hd
    subst hn'
    have hd := hd'
    subst hv
    simp only [am_st] at h
    split at h
    · rename_i x hx1
      exact lv_iload_n hx hb hd rfl (hL.2.2 _ _ hx1 (fun z => by cases z)) (hk _ _ _ _ _ _ _ h hXS hP hS hL hml)
    · cases h
  | lload z =>
    simp only [am_okb, Bool.and_eq_true, decide_eq_true_eq] at hok
    obtain ⟨hd, hv⟩ := hok
    obtain ⟨hd', hn'⟩ := am_dd_ok hd
    clear hd
    subst hn'
    have hd := hd'
    subst hv
    simp only [am_st] at h
    split at h
    · rename_i x hx1
      exact lv_lload hx hb hd (hL.2.2 _ _ hx1 (fun z => by cases z)) (hk _ _ _ _ _ _ _ h hXS hP hS hL hml)
    · cases h
  | lload_n z =>
    simp only [am_okb, Bool.and_eq_true, decide_eq_true_eq] at hok
    obtain ⟨hd, hv⟩ := hok
    obtain ⟨hd', hn'⟩ := am_dd_ok hd
    clear hd
    subst hn'
    have hd := hd'
    subst hv
    simp only [am_st] at h
    split at h
    · rename_i x hx1
      exact lv_lload_n hx hb hd rfl (hL.2.2 _ _ hx1 (fun z => by cases z)) (hk _ _ _ _ _ _ _ h hXS hP hS hL hml)
    · cases h
  | aload z =>
    simp only [am_okb, Bool.and_eq_true, decide_eq_true_eq] at hok
    obtain ⟨hd, hv⟩ := hok
    obtain ⟨hd', hn'⟩ := am_dd_ok hd
    clear hd
    subst hn'
    have hd := hd'
    subst hv
    simp only [am_st] at h
    split at h
    · rename_i x hx1
      exact lv_aload hx hb hd (hL.2.2 _ _ hx1 (fun z => by cases z)) (hk _ _ _ _ _ _ _ h hXS hP hS hL hml)
    · cases h
  | aload_n z =>
    simp only [am_okb, Bool.and_eq_true, decide_eq_true_eq] at hok
    obtain ⟨hd, hv⟩ := hok
    obtain ⟨hd', hn'⟩ := am_dd_ok hd
    clear hd
    subst hn'
    have hd := hd'
    subst hv
    simp only [am_st] at h
    split at h
    · rename_i x hx1
      exact lv_aload_n hx hb hd rfl (hL.2.2 _ _ hx1 (fun z => by cases z)) (hk _ _ _ _ _ _ _ h hXS hP hS hL hml)
    · cases h
  | istore z =>
    simp only [am_okb, Bool.and_eq_true, decide_eq_true_eq] at hok
    obtain ⟨hd, hv⟩ := hok
    obtain ⟨hd', hn'⟩ := am_dd_ok hd
    clear hd
    subst hn'
    have hd := hd'
    subst hv
    simp only [am_st] at h
    split at h
    · rename_i x rr
      split at h
      · rename_i L' hs
        refine lv_istore hx hb hd hL.has (by rw [← hL.1]; exact (am_stl_ok hs).1) rfl (fun ls' hl' => ?_)
        exact hk _ _ _ _ _ _ _ h hXS hP hS (hL.store hs hl') (hml.trans hl'.1.symm)
      · cases h
    · cases h
  | istore_n z =>
    simp only [am_okb, Bool.and_eq_true, decide_eq_true_eq] at hok
    obtain ⟨hd, hv⟩ := hok
    obtain ⟨hd', hn'⟩ := am_dd_ok hd
    clear hd
    subst hn'
    have hd := hd'
    subst hv
    simp only [am_st] at h
    split at h
    · rename_i x rr
      split at h
      · rename_i L' hs
        refine lv_istore_n hx hb hd rfl hL.has (by rw [← hL.1]; exact (am_stl_ok hs).1) rfl (fun ls' hl' => ?_)
        exact hk _ _ _ _ _ _ _ h hXS hP hS (hL.store hs hl') (hml.trans hl'.1.symm)
      · cases h
    · cases h
  | iinc z d =>
    simp only [am_okb, Bool.and_eq_true, decide_eq_true_eq] at hok
    obtain ⟨⟨hd, hv⟩, hv2⟩ := hok
    obtain ⟨hd', hn'⟩ := am_dd_ok hd
    clear hd
    subst hn'
    have hd := hd'
    subst hv
    subst hv2
    simp only [am_st] at h
    split at h
    · rename_i x hx1
      split at h
      · rename_i L' hs
        have hm := am_lv_mem (ad := ad) (i := 0) hx1 (fun z => by cases z)
        rw [Nat.zero_add] at hm
        obtain ⟨kk, hkk⟩ := List.getElem?_of_mem hm
        refine lv_iinc hx hb hd hL.has hkk rfl (by rw [← hL.1]; exact (am_stl_ok hs).1) rfl (fun ls' hl' => ?_)
        exact hk _ _ _ _ _ _ _ h hXS hP hS (hL.store hs hl') (hml.trans hl'.1.symm)
      · cases h
    · cases h
  | iadd =>
    obtain ⟨hd, rfl⟩ := am_dd_ok (show am_dd q.2.1 pc .iadd 1 n = true from hok)
    simp only [am_st] at h
    split at h
    · exact lv_iadd hx hb hd (hk _ _ _ _ _ _ _ h hXS hP hS hL hml)
    · cases h
  | isub =>
    obtain ⟨hd, rfl⟩ := am_dd_ok (show am_dd q.2.1 pc .isub 1 n = true from hok)
    simp only [am_st] at h
    split at h
    · exact lv_isub hx hb hd (hk _ _ _ _ _ _ _ h hXS hP hS hL hml)
    · cases h
  | imul =>
    obtain ⟨hd, rfl⟩ := am_dd_ok (show am_dd q.2.1 pc .imul 1 n = true from hok)
    simp only [am_st] at h
    split at h
    · exact lv_imul hx hb hd (hk _ _ _ _ _ _ _ h hXS hP hS hL hml)
    · cases h
  | iand =>
    obtain ⟨hd, rfl⟩ := am_dd_ok (show am_dd q.2.1 pc .iand 1 n = true from hok)
    simp only [am_st] at h
    split at h
    · exact lv_iand hx hb hd (hk _ _ _ _ _ _ _ h hXS hP hS hL hml)
    · cases h
  | ior =>
    obtain ⟨hd, rfl⟩ := am_dd_ok (show am_dd q.2.1 pc .ior 1 n = true from hok)
    simp only [am_st] at h
    split at h
    · exact lv_ior hx hb hd (hk _ _ _ _ _ _ _ h hXS hP hS hL hml)
    · cases h
  | ixor =>
    obtain ⟨hd, rfl⟩ := am_dd_ok (show am_dd q.2.1 pc .ixor 1 n = true from hok)
    simp only [am_st] at h
    split at h
    · exact lv_ixor hx hb hd (hk _ _ _ _ _ _ _ h hXS hP hS hL hml)
    · cases h
  | ishl =>
    obtain ⟨hd, rfl⟩ := am_dd_ok (show am_dd q.2.1 pc .ishl 1 n = true from hok)
    simp only [am_st] at h
    split at h
    · exact lv_ishl hx hb hd (hk _ _ _ _ _ _ _ h hXS hP hS hL hml)
    · cases h
  | ishr =>
    obtain ⟨hd, rfl⟩ := am_dd_ok (show am_dd q.2.1 pc .ishr 1 n = true from hok)
    simp only [am_st] at h
    split at h
    · exact lv_ishr hx hb hd (hk _ _ _ _ _ _ _ h hXS hP hS hL hml)
    · cases h
  | ineg =>
    obtain ⟨hd, rfl⟩ := am_dd_ok (show am_dd q.2.1 pc .ineg 1 n = true from hok)
    simp only [am_st] at h
    split at h
    · exact lv_ineg hx hb hd (hk _ _ _ _ _ _ _ h hXS hP hS hL hml)
    · cases h
  | land =>
    obtain ⟨hd, rfl⟩ := am_dd_ok (show am_dd q.2.1 pc .land 1 n = true from hok)
    simp only [am_st] at h
    split at h
    · exact lv_land hx hb hd (hk _ _ _ _ _ _ _ h hXS hP hS hL hml)
    · cases h
  | lor =>
    obtain ⟨hd, rfl⟩ := am_dd_ok (show am_dd q.2.1 pc .lor 1 n = true from hok)
    simp only [am_st] at h
    split at h
    · exact lv_lor hx hb hd (hk _ _ _ _ _ _ _ h hXS hP hS hL hml)
    · cases h
  | i2l =>
    obtain ⟨hd, rfl⟩ := am_dd_ok (show am_dd q.2.1 pc .i2l 1 n = true from hok)
    simp only [am_st] at h
    split at h
    · exact lv_i2l hx hb hd rfl (hk _ _ _ _ _ _ _ h hXS hP hS hL hml)
    · cases h
  | l2i =>
    obtain ⟨hd, rfl⟩ := am_dd_ok (show am_dd q.2.1 pc .l2i 1 n = true from hok)
    simp only [am_st] at h
    split at h
    · exact lv_l2i hx hb hd rfl (hk _ _ _ _ _ _ _ h hXS hP hS hL hml)
    · cases h
  | i2b =>
    obtain ⟨hd, rfl⟩ := am_dd_ok (show am_dd q.2.1 pc .i2b 1 n = true from hok)
    simp only [am_st] at h
    split at h
    · exact lv_i2b hx hb hd rfl (hk _ _ _ _ _ _ _ h hXS hP hS hL hml)
    · cases h
  | lshl =>
    obtain ⟨hd, rfl⟩ := am_dd_ok (show am_dd q.2.1 pc .lshl 1 n = true from hok)
    simp only [am_st] at h
    split at h
    · exact lv_lshl hx hb hd rfl (hk _ _ _ _ _ _ _ h hXS hP hS hL hml)
    · cases h
  | lshr =>
    obtain ⟨hd, rfl⟩ := am_dd_ok (show am_dd q.2.1 pc .lshr 1 n = true from hok)
    simp only [am_st] at h
    split at h
    · exact lv_lshr hx hb hd rfl (hk _ _ _ _ _ _ _ h hXS hP hS hL hml)
    · cases h
  | lcmp =>
    obtain ⟨hd, rfl⟩ := am_dd_ok (show am_dd q.2.1 pc .lcmp 1 n = true from hok)
    simp only [am_st] at h
    split at h
    · exact W.lcmp hx hb hd (hk _ _ _ _ _ _ _ h hXS hP hS hL hml)
    · cases h
  | idiv =>
    obtain ⟨hd, rfl⟩ := am_dd_ok (show am_dd q.2.1 pc .idiv 1 n = true from hok)
    simp only [am_st] at h
    split at h
    · simp only [am_dv] at h
      split at h
      · cases h
      · rename_i hne
        exact lv_idiv hx hb hd hne (hk _ _ _ _ _ _ _ h hXS hP hS hL hml)
    · cases h
  | irem =>
    obtain ⟨hd, rfl⟩ := am_dd_ok (show am_dd q.2.1 pc .irem 1 n = true from hok)
    simp only [am_st] at h
    split at h
    · simp only [am_dv] at h
      split at h
      · cases h
      · rename_i hne
        exact lv_irem hx hb hd hne (hk _ _ _ _ _ _ _ h hXS hP hS hL hml)
    · cases h
  | dup =>
    obtain ⟨hd, rfl⟩ := am_dd_ok (show am_dd q.2.1 pc .dup 1 n = true from hok)
    simp only [am_st] at h
    split at h
    · exact lv_dup hx hb hd rfl (hk _ _ _ _ _ _ _ h hXS hP hS hL hml)
    · exact lv_dup hx hb hd rfl (hk _ _ _ _ _ _ _ h hXS hP hS hL hml)
    · cases h
  | dup2 =>
    obtain ⟨hd, rfl⟩ := am_dd_ok (show am_dd q.2.1 pc .dup2 1 n = true from hok)
    simp only [am_st] at h
    split at h
    · exact lv_dup2_11 hx hb hd rfl rfl (hk _ _ _ _ _ _ _ h hXS hP hS hL hml)
    · cases h
  | goto off =>
    simp only [am_okb, Bool.and_eq_true, decide_eq_true_eq] at hok
    simp only [am_st] at h
    exact lv_goto hx hb hok.1 hok.2 (hk _ _ _ _ _ _ _ h hXS hP hS hL hml)
  | ifCond cd off =>
    simp only [am_okb, Bool.and_eq_true, decide_eq_true_eq] at hok
    obtain ⟨hd, ho⟩ := hok
    obtain ⟨hd', hn'⟩ := am_dd_ok hd
    clear hd
    subst hn'
    have hd := hd'
    simp only [am_st] at h
    split at h
    · rename_i x rr
      cases cd with
      | eq =>
        dsimp only at h
        exact lv_if_eq hx hb hd ho (fun hc => by rw [if_pos hc] at h; exact (hk _ _ _ _ _ _ _ h hXS hP hS hL hml)) (fun hc => by rw [if_neg hc] at h; exact (hk _ _ _ _ _ _ _ h hXS hP hS hL hml))
      | ne =>
        dsimp only at h
        exact lv_if_ne hx hb hd ho (fun hc => by rw [if_neg hc] at h; exact (hk _ _ _ _ _ _ _ h hXS hP hS hL hml)) (fun hc => by rw [if_pos hc] at h; exact (hk _ _ _ _ _ _ _ h hXS hP hS hL hml))
      | lt =>
        dsimp only at h
        exact lv_if_lt hx hb hd ho (fun hc => by rw [if_pos hc] at h; exact (hk _ _ _ _ _ _ _ h hXS hP hS hL hml)) (fun hc => by rw [if_neg hc] at h; exact (hk _ _ _ _ _ _ _ h hXS hP hS hL hml))
      | ge =>
        dsimp only at h
        exact lv_if_ge hx hb hd ho (fun hc => by rw [if_neg (Int32.not_lt.mpr hc)] at h; exact (hk _ _ _ _ _ _ _ h hXS hP hS hL hml)) (fun hc => by rw [if_pos (Int32.not_le.mp hc)] at h; exact (hk _ _ _ _ _ _ _ h hXS hP hS hL hml))
      | gt =>
        dsimp only at h
        exact lv_if_gt hx hb hd ho (fun hc => by rw [if_pos hc] at h; exact (hk _ _ _ _ _ _ _ h hXS hP hS hL hml)) (fun hc => by rw [if_neg hc] at h; exact (hk _ _ _ _ _ _ _ h hXS hP hS hL hml))
      | le =>
        dsimp only at h
        exact lv_if_le hx hb hd ho (fun hc => by rw [if_neg (Int32.not_lt.mpr hc)] at h; exact (hk _ _ _ _ _ _ _ h hXS hP hS hL hml)) (fun hc => by rw [if_pos (Int32.not_le.mp hc)] at h; exact (hk _ _ _ _ _ _ _ h hXS hP hS hL hml))
    · cases h
  | if_icmp cd off =>
    simp only [am_okb, Bool.and_eq_true, decide_eq_true_eq] at hok
    obtain ⟨hd, ho⟩ := hok
    obtain ⟨hd', hn'⟩ := am_dd_ok hd
    clear hd
    subst hn'
    have hd := hd'
    simp only [am_st] at h
    split at h
    · rename_i y x rr
      cases cd with
      | eq =>
        dsimp only at h
        exact lv_icmp_eq hx hb hd ho (fun hc => by rw [if_pos hc] at h; exact (hk _ _ _ _ _ _ _ h hXS hP hS hL hml)) (fun hc => by rw [if_neg hc] at h; exact (hk _ _ _ _ _ _ _ h hXS hP hS hL hml))
      | ne =>
        dsimp only at h
        exact lv_icmp_ne hx hb hd ho (fun hc => by rw [if_neg hc] at h; exact (hk _ _ _ _ _ _ _ h hXS hP hS hL hml)) (fun hc => by rw [if_pos hc] at h; exact (hk _ _ _ _ _ _ _ h hXS hP hS hL hml))
      | lt =>
        dsimp only at h
        exact lv_icmp_lt hx hb hd ho (fun hc => by rw [if_pos hc] at h; exact (hk _ _ _ _ _ _ _ h hXS hP hS hL hml)) (fun hc => by rw [if_neg hc] at h; exact (hk _ _ _ _ _ _ _ h hXS hP hS hL hml))
      | ge =>
        dsimp only at h
        exact lv_icmp_ge hx hb hd ho (fun hc => by rw [if_neg (Int32.not_lt.mpr hc)] at h; exact (hk _ _ _ _ _ _ _ h hXS hP hS hL hml)) (fun hc => by rw [if_pos (Int32.not_le.mp hc)] at h; exact (hk _ _ _ _ _ _ _ h hXS hP hS hL hml))
      | gt =>
        dsimp only at h
        exact lv_icmp_gt hx hb hd ho (fun hc => by rw [if_pos hc] at h; exact (hk _ _ _ _ _ _ _ h hXS hP hS hL hml)) (fun hc => by rw [if_neg hc] at h; exact (hk _ _ _ _ _ _ _ h hXS hP hS hL hml))
      | le =>
        dsimp only at h
        exact lv_icmp_le hx hb hd ho (fun hc => by rw [if_neg (Int32.not_lt.mpr hc)] at h; exact (hk _ _ _ _ _ _ _ h hXS hP hS hL hml)) (fun hc => by rw [if_pos (Int32.not_le.mp hc)] at h; exact (hk _ _ _ _ _ _ _ h hXS hP hS hL hml))
    · cases h
  | tableswitch d lo hi offs =>
    simp only [am_okb, Bool.and_eq_true, decide_eq_true_eq] at hok
    obtain ⟨⟨hd, ho⟩, hsw⟩ := hok
    simp only [am_st] at h
    split at h
    · rename_i x rr
      split at h
      · rename_i sl hsl2
        rw [hsl2] at hsw
        simp only [am_swok, Bool.and_eq_true, decide_eq_true_eq] at hsw
        obtain ⟨hlen, hall⟩ := hsw
        rcases am_sw_cases h with ⟨j, t, h1, h2⟩ | ⟨h1, h2⟩
        · have hj : j < sl.length := (List.getElem?_eq_some_iff.mp h1).1
          have h3 := List.all_eq_true.mp hall j (List.mem_range.mpr hj)
          rw [h1] at h3
          simp only [Bool.and_eq_true, decide_eq_true_eq] at h3
          obtain ⟨h4, h5⟩ := h3
          split at h5
          · cases h5
          · rename_i oo hoo
            simp only [decide_eq_true_eq] at h5
            refine lv_tableIn hx hb hd (by omega) (by omega) (off := oo) ?_ h5 (hk _ _ _ _ _ _ _ h2 hXS hP hS hL hml)
            rw [show (x.toInt - lo).toNat = j by omega]
            exact hoo
        · refine lv_tableOut hx hb hd ?_ ho (hk _ _ _ _ _ _ _ h2 hXS hP hS hL hml)
          rcases Int.lt_or_le x.toInt lo with hlt | hge
          · exact Or.inl hlt
          · rcases Int.lt_or_le hi x.toInt with hlt2 | hge2
            · exact Or.inr hlt2
            · exfalso
              have hj : (x.toInt - lo).toNat < sl.length := by omega
              have h3 := List.all_eq_true.mp hall _ (List.mem_range.mpr hj)
              rw [List.getElem?_eq_getElem hj] at h3
              simp only [Bool.and_eq_true, decide_eq_true_eq] at h3
              exact h1 _ (List.getElem_mem hj) (Int32.toInt_inj.mp (by rw [h3.1]; omega))
      · cases h
    · cases h
  | getfield j =>
    simp only [am_okb, Bool.and_eq_true] at hok
    obtain ⟨hd, hf⟩ := hok
    obtain ⟨hd', hn'⟩ := am_dd_ok hd
    clear hd
    subst hn'
    have hd := hd'
    obtain ⟨ha, hbN, hlk⟩ := am_fok_ok hf
    simp only [am_st] at h
    split at h
    · rename_i q1 rr
      split at h
      · rename_i t nz rs hshp
        cases hta : Nat.beq t a with
        | false => rw [hta] at h; cases h
        | true =>
          rw [hta] at h
          simp only [cond_true] at h
          replace hta := Nat.eq_of_beq_eq_true hta
          subst hta
          obtain ⟨g1, g2⟩ := am_pos hshp (by omega)
          have he := am_ws_get cs ad f g1 g2
          rw [am_E_obj hshp ha] at he
          split at h
          · rename_i hz
            have hv := am_flds_int (ad := ad) (g := f q1) (j := 0) hz
            rw [Nat.zero_add] at hv
            rcases hlk with hlk | hlk
            · exact va_get hx hb hts (am_uws ha) hown hK hP (q1 - 1) he (am_C_get ha) bb hbN (hts _ hlk) (fun _ h9 => h9) hv hd (hk _ _ _ _ _ _ _ h hXS hP hS hL hml)
            · exact va_getN (host := RX8) hx hb hts (am_uws ha) hown hK hP (q1 - 1) he (am_C_get ha) bb hbN (va_Nw.use rfl (hN _ hlk rfl)) (fun _ h9 => h9) hv hd (hk _ _ _ _ _ _ _ h hXS hP hS hL hml)
          · rename_i zz hz
            have hv := am_flds_ref (ad := ad) (g := f q1) (j := 0) hz
            rcases hlk with hlk | hlk
            · exact va_get hx hb hts (am_uws ha) hown hK hP (q1 - 1) he (am_C_get ha) bb hbN (hts _ hlk) (fun _ h9 => h9) hv hd (hk _ _ _ _ _ _ _ h hXS hP hS hL hml)
            · exact va_getN (host := RX8) hx hb hts (am_uws ha) hown hK hP (q1 - 1) he (am_C_get ha) bb hbN (va_Nw.use rfl (hN _ hlk rfl)) (fun _ h9 => h9) hv hd (hk _ _ _ _ _ _ _ h hXS hP hS hL hml)
          · cases h
      · cases h
    · cases h
  | putfield j =>
    simp only [am_okb, Bool.and_eq_true] at hok
    obtain ⟨⟨hd, hf⟩, hpk⟩ := hok
    obtain ⟨hd', hn'⟩ := am_dd_ok hd
    clear hd
    subst hn'
    have hd := hd'
    obtain ⟨ha, hbN, hlk⟩ := am_fok_ok hf
    simp only [am_pok, Bool.and_eq_true, decide_eq_true_eq] at hpk
    obtain ⟨hfin, hty⟩ := hpk
    obtain ⟨ty0, hty0, hnm0⟩ := am_cls ha
    simp only [am_st] at h
    split at h
    · rename_i x q1 rr
      split at h
      · rename_i t nz rs hshp
        cases hta : Nat.beq t a with
        | false => rw [hta] at h; cases h
        | true =>
          rw [hta] at h
          simp only [cond_true] at h
          replace hta := Nat.eq_of_beq_eq_true hta
          subst hta
          obtain ⟨g1, g2⟩ := am_pos hshp (by omega)
          have he := am_ws_get cs ad f g1 g2
          rw [am_E_obj hshp ha] at he
          split at h
          · rename_i hz
            have hlen : bb < (am_flds ad (f q1) 0 rs).length := by
              rw [am_flds_len]
              rw [am_nth_eq] at hz
              exact (List.getElem?_eq_some_iff.mp hz).1
            have hset : (am_ws cs ad f).set (q1 - 1) (ad q1, .inr (t, (am_flds ad (f q1) 0 rs).set bb (.int x))) = am_ws cs ad (am_up f q1 bb x) := by
              refine am_ws_set g1 g2 (fun q' hq' => am_up_ne hq') ?_
              rw [am_E_obj hshp ha, am_flds_set hz, am_up_eq2]
            have go : ∀ ty, parseFieldDescriptor ((am_C t).2.1 bb).2.2.1 = some ty → narrow ty (.int x) = .int x → fits ty (.int x) = true → k (pc + 3) L rr (am_up f q1 bb x) = some r → W p l e R s mid args below meth c H locs cells slots Q (F0 mid pc ls (.int x :: .ref (ad q1) :: rr.map (am_em ad))) := by
              intro ty hty hnar hfit h
              rcases hlk with hlk | hlk
              · refine va_put hx hb hts (am_uws ha) ty0 hty0 hnm0 hown hK hP hD hS (q1 - 1) he (am_C_get ha) bb hbN (hts _ hlk) (fun _ h9 => h9) hfin hty hnar hfit hlen hd (fun H1 locs1 hP1 _ hS1 => ?_)
                rw [hset] at hP1
                exact hk _ _ _ _ _ _ _ h (hXS.up g1 g2) hP1 hS1 hL hml
              · refine va_putN (host := RX8) hx hb hts (am_uws ha) ty0 hty0 hnm0 hown hK hP hD hS (q1 - 1) he (am_C_get ha) bb hbN (va_Nw.use rfl (hN _ hlk rfl)) (fun _ h9 => h9) hfin hty hnar hfit hlen hd (fun H1 locs1 hP1 _ hS1 => ?_)
                rw [hset] at hP1
                exact hk _ _ _ _ _ _ _ h (hXS.up g1 g2) hP1 hS1 hL hml
            cases cc with
            | zero => exact go .int hty rfl rfl h
            | succ c9 =>
              simp only [am_z] at h
              split at h
              · rename_i h01
                refine go .boolean hty ?_ ?_ h
                · rcases h01 with h01 | h01 <;> subst h01 <;> rfl
                · rcases h01 with h01 | h01 <;> subst h01 <;> rfl
              · cases h
          · cases h
      · cases h
    · cases h
  | arraylength =>
    obtain ⟨hd, rfl⟩ := am_dd_ok (show am_dd q.2.1 pc .arraylength 1 n = true from hok)
    simp only [am_st] at h
    split at h
    · rename_i q1 rr
      split at h
      · rename_i t nz rs hshp
        split at h
        · have h0 : q1 = 0 := by
            rcases Nat.eq_zero_or_pos q1 with h0 | h0
            · exact h0
            · exfalso
              exact am_no14 hshp h0
          subst h0
          have hbl : b < s.heap.size := by
            obtain ⟨scr, h1, -⟩ := hX
            exact (Array.getElem?_eq_some_iff.mp h1).1
          have := va_slen (rest := rr.map (am_em ad)) (ls := ls) (l := l) (e := e) (R := R) (below := below) (meth := meth) (cells := cells) (slots := slots) (Q := Q) hx hb hX hbl hAd.2.2.2 hS hd (by rw [← hXS.1]; exact (hk _ _ _ _ _ _ _ h hXS hP hS hL hml))
          rw [← hAd.2.2.1] at this
          exact this
        · obtain ⟨g1, g2⟩ := am_pos hshp (by decide)
          have he := am_ws_get cs ad f g1 g2
          rw [am_E_byte hshp] at he
          exact va_alen hx hb hK hP (q1 - 1) 1 he rfl rfl hd (hk _ _ _ _ _ _ _ h hXS hP hS hL hml)
        · obtain ⟨g1, g2⟩ := am_pos hshp (by decide)
          have he := am_ws_get cs ad f g1 g2
          rw [am_E_int hshp] at he
          exact va_alen hx hb hK hP (q1 - 1) 0 he rfl rfl hd (hk _ _ _ _ _ _ _ h hXS hP hS hL hml)
        · obtain ⟨g1, g2⟩ := am_pos hshp (by decide)
          have he := am_ws_get cs ad f g1 g2
          rw [am_E_bool hshp] at he
          exact va_alen hx hb hK hP (q1 - 1) 2 he rfl rfl hd (hk _ _ _ _ _ _ _ h hXS hP hS hL hml)
        · obtain ⟨g1, g2⟩ := am_pos hshp (by decide)
          have he := am_ws_get cs ad f g1 g2
          rw [am_E_ref hshp] at he
          exact va_alen hx hb hK hP (q1 - 1) 3 he rfl rfl hd (hk _ _ _ _ _ _ _ h hXS hP hS hL hml)
        · cases h
      · cases h
    · cases h
  | iaload =>
    obtain ⟨hd, rfl⟩ := am_dd_ok (show am_dd q.2.1 pc .iaload 1 n = true from hok)
    simp only [am_st] at h
    split at h
    · rename_i i1 q1 rr
      split at h
      · rename_i t nz rs hshp
        split at h
        · simp only [am_ald] at h
          split at h
          · rename_i hin
            obtain ⟨g1, g2⟩ := am_pos hshp (by decide)
            have he := am_ws_get cs ad f g1 g2
            rw [am_E_int hshp] at he
            exact va_iald hx hb hK hP (q1 - 1) 0 he rfl (am_inB hin) hd (hk _ _ _ _ _ _ _ h hXS hP hS hL hml)
          · cases h
        · simp only [am_ald] at h
          split at h
          · rename_i hin
            have h0 : q1 = 0 := by
              rcases Nat.eq_zero_or_pos q1 with h0 | h0
              · exact h0
              · exfalso
                exact am_no14 hshp h0
            subst h0
            have hcl : (f 77 0).toNatClampNeg = Lx := by rw [hXS.1]; exact nI_clamp (by omega)
            rw [hcl] at hin
            have hbl : b < s.heap.size := by
              obtain ⟨scr, h1, -⟩ := hX
              exact (Array.getElem?_eq_some_iff.mp h1).1
            have hlt : i1.toNatClampNeg < Lx := by
              have : i1.toNatClampNeg = i1.toInt.toNat := rfl
              omega
            have := va_sld (rest := rr.map (am_em ad)) (ls := ls) (l := l) (e := e) (R := R) (below := below) (meth := meth) (cells := cells) (slots := slots) (Q := Q) hx hb hX hbl hAd.2.2.2 hS (am_inB hin) hd (by rw [← hXS.2 _ hlt]; exact (hk _ _ _ _ _ _ _ h hXS hP hS hL hml))
            rw [← hAd.2.2.1] at this
            exact this
          · cases h
        · cases h
      · cases h
    · cases h
  | baload =>
    obtain ⟨hd, rfl⟩ := am_dd_ok (show am_dd q.2.1 pc .baload 1 n = true from hok)
    simp only [am_st] at h
    split at h
    · rename_i i1 q1 rr
      split at h
      · rename_i t nz rs hshp
        split at h
        · simp only [am_ald] at h
          split at h
          · rename_i hin
            obtain ⟨g1, g2⟩ := am_pos hshp (by decide)
            have he := am_ws_get cs ad f g1 g2
            rw [am_E_byte hshp] at he
            exact va_bald hx hb hK hP (q1 - 1) 1 he rfl (am_inB hin) hd (hk _ _ _ _ _ _ _ h hXS hP hS hL hml)
          · cases h
        · simp only [am_ald] at h
          split at h
          · rename_i hin
            obtain ⟨g1, g2⟩ := am_pos hshp (by decide)
            have he := am_ws_get cs ad f g1 g2
            rw [am_E_bool hshp] at he
            exact va_zald hx hb hK hP (q1 - 1) 2 he rfl (am_inB hin) hd (hk _ _ _ _ _ _ _ h hXS hP hS hL hml)
          · cases h
        · cases h
      · cases h
    · cases h
  | iastore =>
    obtain ⟨hd, rfl⟩ := am_dd_ok (show am_dd q.2.1 pc .iastore 1 n = true from hok)
    simp only [am_st] at h
    split at h
    · rename_i x i1 q1 rr
      split at h
      · rename_i t nz rs hshp
        split at h
        · simp only [am_ast] at h
          split at h
          · rename_i hin
            obtain ⟨g1, g2⟩ := am_pos hshp (by decide)
            have he := am_ws_get cs ad f g1 g2
            rw [am_E_int hshp] at he
            refine va_iast hx hb hK hP hD hS (q1 - 1) 0 he rfl (am_inB hin) hd (fun H1 locs1 hP1 _ hS1 => ?_)
            rw [am_ws_set g1 g2 (g := am_up f q1 i1.toNatClampNeg x) (fun q' hq' => am_up_ne hq') (by rw [am_E_int hshp, am_up_eq])] at hP1
            exact hk _ _ _ _ _ _ _ h (hXS.up g1 g2) hP1 hS1 hL hml
          · cases h
        · cases h
      · cases h
    · cases h
  | bastore =>
    obtain ⟨hd, rfl⟩ := am_dd_ok (show am_dd q.2.1 pc .bastore 1 n = true from hok)
    simp only [am_st] at h
    split at h
    · rename_i x i1 q1 rr
      split at h
      · rename_i t nz rs hshp
        split at h
        · simp only [am_ast] at h
          split at h
          · rename_i hin
            obtain ⟨g1, g2⟩ := am_pos hshp (by decide)
            have he := am_ws_get cs ad f g1 g2
            rw [am_E_byte hshp] at he
            refine va_bast hx hb hK hP hD hS (q1 - 1) 1 he rfl (am_inB hin) hd (fun H1 locs1 hP1 _ hS1 => ?_)
            rw [am_ws_set g1 g2 (g := am_up f q1 i1.toNatClampNeg x.toInt8.toInt32) (fun q' hq' => am_up_ne hq') (by rw [am_E_byte hshp, am_up_eq]; rfl)] at hP1
            exact hk _ _ _ _ _ _ _ h (hXS.up g1 g2) hP1 hS1 hL hml
          · cases h
        · simp only [am_ast] at h
          split at h
          · rename_i hin
            obtain ⟨g1, g2⟩ := am_pos hshp (by decide)
            have he := am_ws_get cs ad f g1 g2
            rw [am_E_bool hshp] at he
            refine va_zast hx hb hK hP hD hS (q1 - 1) 2 he rfl (am_inB hin) hd (fun H1 locs1 hP1 _ hS1 => ?_)
            rw [am_ws_set g1 g2 (g := am_up f q1 i1.toNatClampNeg (x &&& 1)) (fun q' hq' => am_up_ne hq') (by rw [am_E_bool hshp, am_up_eq]; rfl)] at hP1
            exact hk _ _ _ _ _ _ _ h (hXS.up g1 g2) hP1 hS1 hL hml
          · cases h
        · cases h
      · cases h
    · cases h
  | aaload =>
    obtain ⟨hd, rfl⟩ := am_dd_ok (show am_dd q.2.1 pc .aaload 1 n = true from hok)
    simp only [am_st] at h
    split at h
    · rename_i i1 q1 rr
      split at h
      · rename_i t nz rs hshp
        split at h
        · obtain ⟨g1, g2⟩ := am_pos hshp (by decide)
          have he := am_ws_get cs ad f g1 g2
          rw [am_E_ref hshp] at he
          obtain ⟨k1, t1, h1, h2, h3⟩ := am_rl_cases (j := 0) h
          rw [Nat.zero_add] at h2
          obtain ⟨hk1, hnz, hn2⟩ := am_ref_len hshp h1
          have hi : i1.toNatClampNeg = k1 := by rw [h2]; exact nI_clamp (by omega)
          have := va_aldq (rest := rr.map (am_em ad)) (ls := ls) (l := l) (e := e) (R := R) (below := below) (meth := meth) (cells := cells) (slots := slots) (Q := Q) (locs := locs) hx hb hK hP (q1 - 1) 3 he rfl (i := i1) (by rw [h2]; exact vp_in_nI hnz (by omega)) hd (by
            rw [hi, am_nth_eq, h1]
            exact hk _ _ _ _ _ _ _ h3 hXS hP hS hL hml)
          exact this
        · cases h
      · cases h
    · cases h
  | ireturn =>
    simp only [am_okb, Bool.and_eq_true, Bool.or_eq_true, decide_eq_true_eq] at hok
    obtain ⟨hd, hr⟩ := hok
    obtain ⟨hd', hn'⟩ := am_dd_ok hd
    clear hd
    subst hn'
    have hd := hd'
    simp only [am_st] at h
    split at h
    · rename_i x
      rcases hr with ⟨hc0, hty⟩ | ⟨hc0, hty⟩
      · subst hc0
        cases h
        exact hri _ _ _ _ _ hd hty rfl hP hS
      · subst hc0
        simp only [am_z] at h
        split at h
        · rename_i h01
          cases h
          exact hri _ _ _ _ _ hd hty (am_nz h01) hP hS
        · cases h
    · cases h
  | return_ =>
    simp only [am_okb, Bool.and_eq_true, decide_eq_true_eq] at hok
    obtain ⟨hd, hr⟩ := hok
    obtain ⟨hd', hn'⟩ := am_dd_ok hd
    clear hd
    subst hn'
    have hd := hd'
    simp only [am_st] at h
    split at h
    · cases h
      exact hrv _ _ _ _ hd hr hP hS
    · cases h
  | invokevirtual j =>
    simp only [am_okb, Bool.and_eq_true] at hok
    obtain ⟨hd, hio⟩ := hok
    obtain ⟨hd', hn'⟩ := am_dd_ok hd
    clear hd
    subst hn'
    have hd := hd'
    simp only [am_st] at h
    split at h
    · rename_i as rr hpop
      cases hv : am_vok a as rr with
      | false => rw [hv] at h; cases h
      | true =>
        rw [hv] at h
        simp only [cond_true] at h
        simp only [am_vok, am_sok, Bool.and_eq_true] at hv
        obtain ⟨⟨hv1, hv2⟩, hv3⟩ := hv
        replace hv1 := Nat.le_of_ble_eq_true hv1
        replace hv2 := Nat.le_of_ble_eq_true hv2
        split at hv3
        · rename_i q1 as'
          simp only [am_isC] at hv3
          split at hv3
          · cases hv3
          · rename_i z hshp
            simp only [Bool.and_eq_true] at hv3
            obtain ⟨z1, z2⟩ := hv3
            replace z1 := Nat.eq_of_beq_eq_true z1
            replace z2 := Nat.le_of_ble_eq_true z2
            have ha0 : 0 < a := by
              rcases Nat.eq_zero_or_pos a with h0 | h0
              · subst h0
                have : am_mxl 0 = 0 := rfl
                rw [this] at hv2
                simp [am_cat] at hv2
              · exact h0
            rw [am_iok, if_neg (by omega)] at hio
            split at hio
            · cases hio
            · rename_i q' hq'
              simp only [Bool.and_eq_true, decide_eq_true_eq] at hio
              obtain ⟨⟨⟨⟨i1, i2⟩, i3⟩, i4⟩, i5⟩ := hio
              replace i1 := Nat.eq_of_beq_eq_true i1
              have i2 : q'.2.2.2.2.1 < q.2.2.2.2.1 := by simpa [Nat.blt_eq] using i2
              replace i3 := Nat.eq_of_beq_eq_true i3
              obtain ⟨hw, hmx, how⟩ := hbig a q' hq' ha0
              obtain ⟨ho1, ho2⟩ := how i1
              simp only [am_iwok, Bool.and_eq_true] at hw
              obtain ⟨hw1, hw⟩ := hw
              rw [i1] at hw
              simp only [Bool.and_eq_true, decide_eq_true_eq] at hw
              obtain ⟨⟨⟨⟨⟨⟨⟨w1, w2⟩, w3⟩, w4⟩, w5⟩, w6⟩, w7⟩, w8⟩ := hw
              replace hw1 := Nat.le_of_ble_eq_true hw1
              obtain ⟨xs', p1, p2, p3⟩ := am_pop_ok hpop
              rw [List.append_nil] at p1
              subst p1
              have hstk : st.map (am_em ad) = (as'.map (am_em ad)).reverse ++ .ref (ad q1) :: rr.map (am_em ad) := by
                rw [p2]
                simp [am_em]
              have hlen : (as'.map (am_em ad)).length = q'.2.2.2.2.2.2.1 := by
                simp at p3 ⊢
                omega
              obtain ⟨g1, g2⟩ := am_pos (am_shr_id hshp) (by omega)
              have he := am_ws_get cs ad f g1 g2
              rw [am_E_obj (am_shr_id hshp) (by omega)] at he
              rw [z1] at he
              have hrec := va_recv hK hP (am_C_get ho1) he
              rw [ho2] at hrec
              have hG : GoodIn am_GW (am_wsm q') := am_good (fun w hw => by
                rcases List.mem_cons.mp hw with hw | hw
                · rw [hw]; exact am_in_ok w5
                · exact hw)
              have hrun : ∀ x g, cal a (.ref q1 :: as') f = some (x, g) → va_Run p l e R s mid args below meth c H locs cells slots 0 0 (F0 mid pc ls (st.map (am_em ad))) (rr.map (am_em ad)) (am_Q D cs ad A q'.2.2.2.1 (x, g) (((.ref q1 :: as').map (am_em ad)).toArray)) A := by
                intro x g hxg
                have hM := (hcal a _ f x g q' hq' ha0 (by omega) hXS hxg hv2).1
                rcases am_ml_ok i5 with hlk | hlk
                · exact va_runV (As := as'.map (am_em ad)) (rest := rr.map (am_em ad)) ⟨hx, hb, hml, hown, hts⟩ hM ⟨callB_of _ hts hG rfl rfl rfl (hts _ (am_in_ok w6)) (hts _ hlk) ⟨w2, w3, w4⟩ ⟨by show q'.2.2.2.2.1 + 1 ≤ _; omega, by show 8 + (q'.2.2.1 + 11) + 64 * q'.2.2.2.2.1 ≤ _; omega⟩, hts _ (am_in_ok w7), hts _ (am_in_ok w8)⟩ ⟨am_blind, hrec, fun U hU hW => ⟨rfl, am_pre_warm hP hK hN hX hS hAd.2.2.2 hU hW⟩⟩ rfl hlen rfl hstk (lv_room (by rw [am_cat_sum]; exact hv1)) hd ⟨hce, hsl⟩
                · exact va_runVN (host := RX8) (As := as'.map (am_em ad)) (rest := rr.map (am_em ad)) ⟨hx, hb, hml, hown, hts⟩ hM ⟨va_cnB _ hts hG rfl rfl rfl (hN _ hlk rfl) (hts _ (am_in_ok w6)) ⟨w2, w3, w4⟩ ⟨by show q'.2.2.2.2.1 + 1 ≤ _; omega, by show 8 + (q'.2.2.1 + 11) + 64 * q'.2.2.2.2.1 ≤ _; omega⟩, hts _ (am_in_ok w7), hts _ (am_in_ok w8)⟩ ⟨am_blind, hrec, fun U hU hW => ⟨rfl, am_pre_warm hP hK hN hX hS hAd.2.2.2 hU hW⟩⟩ rfl hlen rfl hstk (lv_room (by rw [am_cat_sum]; exact hv1)) hd ⟨hce, hsl⟩
              split at h
              · obtain ⟨x, g, h1, h2⟩ := am_cal_supp h
                have hret : q'.2.2.2.1 = none := by
                  cases hz : q'.2.2.2.1 with
                  | none => rfl
                  | some ty => rw [hz] at i4; simp at i4
                have hr1 := hrun x g h1
                rw [hret] at hr1
                refine va_callv (a := ((.ref q1 :: as').map (am_em ad)).toArray) hr1 hS (fun q _ h => h) (fun q h => h) (fun u t H1 locs1 ht hvm hw hB hz1 hk1 hS1 => ?_)
                rw [ht] at hB
                exact hk _ _ _ _ _ _ _ h2 (hcal a _ f x g q' hq' ha0 (by omega) hXS h1 hv2).2 hB hS1 hL hml
              · obtain ⟨x, g, h1, h2⟩ := am_cal_supp h
                have hr1 := hrun x g h1
                cases hz : q'.2.2.2.1 with
                | none => rw [hz] at i4; simp at i4
                | some ty =>
                  rw [hz] at hr1
                  refine va_calli (a := ((.ref q1 :: as').map (am_em ad)).toArray) hr1 hS (fun q _ h => h) (fun q h => h) (fun x' u t H1 locs1 ht hvm hw hB hz1 hk1 hS1 => ?_)
                  rw [ht] at hB
                  have hw : x' = x := hw
                  subst hw
                  exact hk _ _ _ _ _ _ _ h2 (hcal a _ f _ g q' hq' ha0 (by omega) hXS h1 hv2).2 hB hS1 hL hml
        · cases hv3
    · cases h
  | invokestatic j =>
    simp only [am_okb, Bool.and_eq_true] at hok
    obtain ⟨hd, hio⟩ := hok
    obtain ⟨hd', hn'⟩ := am_dd_ok hd
    clear hd
    subst hn'
    have hd := hd'
    have hstat : cc ≠ 2 → cc ≠ 3 → cc ≠ 4 → cc ≠ 5 → ∀ as rr, am_pop bb [] st = some (as, rr) → am_sok a as rr = true → ∀ x g, cal a as f = some (x, g) → (k (pc + 3) L (if cc = 0 then rr else .int x :: rr) g = some r) → W p l e R s mid args below meth c H locs cells slots Q (F0 mid pc ls (st.map (am_em ad))) := by
      intro c2 c3 c4 c5 as rr hpop hv x g h1 h2
      rw [if_neg c2, if_neg (by omega)] at hio
      simp only [am_sok, Bool.and_eq_true] at hv
      have hv1 := Nat.le_of_ble_eq_true hv.1
      have hv2 := Nat.le_of_ble_eq_true hv.2
      by_cases ha : a = 0
      · subst ha
        rw [hcal0] at h1
        cases h1
      have ha0 : 0 < a := by omega
      rw [am_iok, if_neg ha] at hio
      split at hio
      · cases hio
      · rename_i q' hq'
        simp only [Bool.and_eq_true, decide_eq_true_eq] at hio
        obtain ⟨⟨⟨⟨i1, i2⟩, i3⟩, i4⟩, i5⟩ := hio
        replace i1 := Nat.eq_of_beq_eq_true i1
        have i2 : q'.2.2.2.2.1 < q.2.2.2.2.1 := by simpa [Nat.blt_eq] using i2
        replace i3 := Nat.eq_of_beq_eq_true i3
        obtain ⟨hw, hmx, -⟩ := hbig a q' hq' ha0
        simp only [am_iwok, Bool.and_eq_true] at hw
        obtain ⟨hw1, hw⟩ := hw
        rw [i1] at hw
        simp only [Bool.and_eq_true, decide_eq_true_eq] at hw
        obtain ⟨⟨⟨⟨⟨⟨w1, w2⟩, w3⟩, w4⟩, w5⟩, w6⟩, w7⟩ := hw
        replace hw1 := Nat.le_of_ble_eq_true hw1
        obtain ⟨xs', p1, p2, p3⟩ := am_pop_ok hpop
        rw [List.append_nil] at p1
        subst p1
        have hstk : st.map (am_em ad) = (as.map (am_em ad)).reverse ++ rr.map (am_em ad) := by
          rw [p2]
          simp
        have hlen : (as.map (am_em ad)).length = q'.2.2.2.2.2.2.1 := by
          simp at p3 ⊢
          omega
        have hG : GoodIn am_GW (am_wsm q') := am_good (fun w hw => by
          rcases List.mem_cons.mp hw with hw | hw
          · rw [hw]; exact am_in_ok w5
          · exact hw)
        have hM := (hcal a _ f x g q' hq' ha0 (by omega) hXS h1 hv2).1
        have hr1 : va_Run p l e R s mid args below meth c H locs cells slots 0 0 (F0 mid pc ls (st.map (am_em ad))) (rr.map (am_em ad)) (am_Q D cs ad A q'.2.2.2.1 (x, g) ((as.map (am_em ad)).toArray)) A := by
          rcases am_ml_ok i5 with hlk | hlk
          · exact va_runS (As := as.map (am_em ad)) (rest := rr.map (am_em ad)) ⟨hx, hb, hml, hown, hts⟩ hM ⟨callB_of _ hts hG rfl rfl rfl (hts _ (am_in_ok w6)) (hts _ hlk) ⟨w2, w3, w4⟩ ⟨by show q'.2.2.2.2.1 + 1 ≤ _; omega, by show 8 + (q'.2.2.1 + 11) + 64 * q'.2.2.2.2.1 ≤ _; omega⟩, hts _ (am_in_ok w7)⟩ ⟨am_blind, fun U hU hW => ⟨rfl, am_pre_warm hP hK hN hX hS hAd.2.2.2 hU hW⟩⟩ rfl hlen rfl hstk (lv_room (by rw [am_cat_sum]; exact hv1)) hd ⟨hce, hsl⟩
          · exact va_runSN (host := RX8) (As := as.map (am_em ad)) (rest := rr.map (am_em ad)) ⟨hx, hb, hml, hown, hts⟩ hM ⟨va_cnB _ hts hG rfl rfl rfl (hN _ hlk rfl) (hts _ (am_in_ok w6)) ⟨w2, w3, w4⟩ ⟨by show q'.2.2.2.2.1 + 1 ≤ _; omega, by show 8 + (q'.2.2.1 + 11) + 64 * q'.2.2.2.2.1 ≤ _; omega⟩, hts _ (am_in_ok w7), trivial⟩ ⟨am_blind, fun U hU hW => ⟨rfl, am_pre_warm hP hK hN hX hS hAd.2.2.2 hU hW⟩⟩ rfl hlen rfl hstk (lv_room (by rw [am_cat_sum]; exact hv1)) hd ⟨hce, hsl⟩
        cases hz : q'.2.2.2.1 with
        | none =>
          rw [hz] at i4 hr1
          simp at i4
          rw [if_pos i4] at h2
          refine va_callv (a := (as.map (am_em ad)).toArray) hr1 hS (fun q _ h => h) (fun q h => h) (fun u t H1 locs1 ht hvm hw hB hz1 hk1 hS1 => ?_)
          rw [ht] at hB
          exact hk _ _ _ _ _ _ _ h2 (hcal a _ f x g q' hq' ha0 (by omega) hXS h1 hv2).2 hB hS1 hL hml
        | some ty =>
          rw [hz] at i4 hr1
          simp at i4
          rw [if_neg (by omega)] at h2
          refine va_calli (a := (as.map (am_em ad)).toArray) hr1 hS (fun q _ h => h) (fun q h => h) (fun x' u t H1 locs1 ht hvm hw hB hz1 hk1 hS1 => ?_)
          rw [ht] at hB
          have hw : x' = x := hw
          subst hw
          exact hk _ _ _ _ _ _ _ h2 (hcal a _ f _ g q' hq' ha0 (by omega) hXS h1 hv2).2 hB hS1 hL hml
    simp only [am_st] at h
    split at h
    · simp only [if_true, Bool.and_eq_true] at hio
      obtain ⟨hlk, hdp⟩ := hio
      have hdp : 0 < q.2.2.2.2.1 := by simpa [Nat.blt_eq] using hdp
      split at h
      · rename_i z dp d sp q1 rr
        split at h
        · rename_i t nq rs1 hsh1
          split at h
          · rename_i t2 nd rs2 hsh2
            cases hbf : (Nat.beq t 11 && Nat.beq t2 11 && Nat.ble (am_cat rr) 8) with
            | false => rw [hbf] at h; cases h
            | true =>
              rw [hbf] at h
              simp only [cond_true] at h
              simp only [Bool.and_eq_true] at hbf
              obtain ⟨⟨b1, b2⟩, b3⟩ := hbf
              replace b1 := Nat.eq_of_beq_eq_true b1
              replace b2 := Nat.eq_of_beq_eq_true b2
              replace b3 := Nat.le_of_ble_eq_true b3
              subst b1
              subst b2
              simp only [am_cp] at h
              split at h
              · rename_i hin
                obtain ⟨n1, n2, n3, n4, n5⟩ := hin
                obtain ⟨g1, g2⟩ := am_pos hsh1 (by decide)
                obtain ⟨g3, g4⟩ := am_pos hsh2 (by decide)
                have he1 := am_ws_get cs ad f g1 g2
                have he2 := am_ws_get cs ad f g3 g4
                rw [am_E_int hsh1] at he1
                rw [am_E_int hsh2] at he2
                have c1 : sp.toNatClampNeg = sp.toInt.toNat := rfl
                have c2 : dp.toNatClampNeg = dp.toInt.toNat := rfl
                have c3 : z.toNatClampNeg = z.toInt.toNat := rfl
                refine va_copyi hx hb hml hown (hts _ (am_cps_ok hlk)) (hts _ am_w_native) (hts _ am_w_static) (hts _ am_w_sys) hK hP hD hS (q1 - 1) (d - 1) 0 0 he1 he2 rfl rfl rfl (am_nn n1) (am_nn n2) (am_nn n3) (by omega) (by omega) (fun _ _ => rfl) (by omega) (by rw [am_cat_sum]; have := am_nfw; omega) hd (fun H1 locs1 hP1 _ hS1 => ?_)
                rw [am_ws_set g3 g4 (g := am_cpf f q1 d sp.toNatClampNeg dp.toNatClampNeg z.toNatClampNeg) (fun q' hq' => am_cpf_ne hq') (by rw [am_E_int hsh2, am_cpf_eq])] at hP1
                exact hk _ _ _ _ _ _ _ h (hXS.cp g3 g4) hP1 hS1 hL hml
              · cases h
          · cases h
        · cases h
      · cases h
    · rw [if_neg (by decide), if_pos (by decide)] at hio
      simp only [Bool.and_eq_true] at hio
      obtain ⟨hlk, hdp⟩ := hio
      have hdp : 0 < q.2.2.2.2.1 := by simpa [Nat.blt_eq] using hdp
      split at h
      · rename_i y x rr
        cases hbf : Nat.ble (am_cat rr) 8 with
        | false => rw [hbf] at h; cases h
        | true =>
          rw [hbf] at h
          simp only [cond_true] at h
          replace hbf := Nat.le_of_ble_eq_true hbf
          exact va_mmax hx hb hml hown (hts _ (am_mths_ok hlk)) (hts _ am_w_m3.1) (hts _ am_w_math) (hts _ am_w_m3.2) (by omega) (by rw [am_cat_sum]; omega) hce hsl hd (hk _ _ _ _ _ _ _ h hXS hP hS hL hml)
      · cases h
    · rw [if_neg (by decide), if_pos (by decide)] at hio
      simp only [Bool.and_eq_true] at hio
      obtain ⟨hlk, hdp⟩ := hio
      have hdp : 0 < q.2.2.2.2.1 := by simpa [Nat.blt_eq] using hdp
      split at h
      · rename_i y x rr
        cases hbf : Nat.ble (am_cat rr) 8 with
        | false => rw [hbf] at h; cases h
        | true =>
          rw [hbf] at h
          simp only [cond_true] at h
          replace hbf := Nat.le_of_ble_eq_true hbf
          exact va_mmin hx hb hml hown (hts _ (am_mths_ok hlk)) (hts _ am_w_m4.1) (hts _ am_w_math) (hts _ am_w_m4.2) (by omega) (by rw [am_cat_sum]; omega) hce hsl hd (hk _ _ _ _ _ _ _ h hXS hP hS hL hml)
      · cases h
    · rw [if_neg (by decide), if_pos (by decide)] at hio
      simp only [Bool.and_eq_true] at hio
      obtain ⟨hlk, hdp⟩ := hio
      have hdp : 0 < q.2.2.2.2.1 := by simpa [Nat.blt_eq] using hdp
      split at h
      · rename_i x rr
        cases hbf : Nat.ble (am_cat rr) 8 with
        | false => rw [hbf] at h; cases h
        | true =>
          rw [hbf] at h
          simp only [cond_true] at h
          replace hbf := Nat.le_of_ble_eq_true hbf
          exact va_mabs hx hb hml hown (hts _ (am_mths_ok hlk)) (hts _ am_w_m5.1) (hts _ am_w_math) (hts _ am_w_m5.2) (by omega) (by rw [am_cat_sum]; omega) hce hsl hd (hk _ _ _ _ _ _ _ h hXS hP hS hL hml)
      · cases h
    · split at h
      · rename_i as rr hpop
        cases hbf : am_sok a as rr with
        | false => rw [hbf] at h; cases h
        | true =>
          rw [hbf] at h
          simp only [cond_true] at h
          obtain ⟨x, g, h1, h2⟩ := am_cal_supp h
          exact hstat (by omega) (by omega) (by omega) (by omega) as rr hpop hbf x g h1 (by rw [if_pos rfl]; exact h2)
      · cases h
    · split at h
      · rename_i as rr hpop
        cases hbf : am_sok a as rr with
        | false => rw [hbf] at h; cases h
        | true =>
          rw [hbf] at h
          simp only [cond_true] at h
          obtain ⟨x, g, h1, h2⟩ := am_cal_supp h
          exact hstat (by omega) (by omega) (by omega) (by omega) as rr hpop hbf x g h1 (by rw [if_neg (by omega)]; exact h2)
      · cases h
  | _ => exact absurd h (by simp [am_st])
end AmSim
