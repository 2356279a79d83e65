theorem am_inf_lt {m : Nat} {z : Inf} (h : am_inf m = some z) : m < 190 := by
  refine Nat.lt_of_not_le fun hq => ?_
  unfold am_inf at h
  by_cases h80 : 196 ≤ m
  · have h1 : am_nth am_infs (m / 14) = none := by
      rw [am_nth_eq]
      exact List.getElem?_eq_none (by show 14 ≤ m / 14; omega)
    rw [h1] at h
    cases h
  · have h1 : m / 14 = 13 := by omega
    rw [h1] at h
    obtain ⟨c, hc, hl⟩ : ∃ c, am_nth am_infs 13 = some c ∧ c.length = 8 := ⟨_, rfl, rfl⟩
    rw [hc] at h
    have h2 : am_nth c (m % 14) = none := by
      rw [am_nth_eq]
      exact List.getElem?_eq_none (by omega)
    have h3 : am_nth c (m % 14) = some z := h
    rw [h2] at h3
    cases h3
theorem am_find_mem {α : Type} : ∀ {l : List (Nat × α)} {pc : Nat} {e : α}, am_find l pc = some e → (pc, e) ∈ l
  | [], _, _, h => by cases h
  | (p, x) :: t, pc, e, h => by
    simp only [am_find] at h
    cases hb : Nat.beq p pc with
    | true =>
      rw [hb] at h
      have h1 : x = e := Option.some.inj h
      rw [← h1, ← Nat.eq_of_beq_eq_true hb]
      exact List.mem_cons_self
    | false =>
      rw [hb] at h
      exact List.mem_cons_of_mem _ (am_find_mem h)
theorem am_valid {m pc : Nat} {e : En} {q : Inf} (hq : am_inf m = some q) (h0 : 0 < m) (he : am_ins m pc = some e) : am_okb q pc e = true := by
  have hc := am_chk_all m h0 (am_inf_lt hq)
  unfold am_chk at hc
  rw [hq] at hc
  unfold am_ins at he
  cases ht : am_mth m with
  | none => rw [ht] at he; cases he
  | some t =>
    rw [ht] at he hc
    simp only [Bool.and_eq_true] at hc
    obtain ⟨-, hc⟩ := hc
    dsimp only at he
    cases hn : am_nth t.2.2.2 (pc / 16) with
    | none => rw [hn] at he; cases he
    | some ch =>
      rw [hn] at he
      rw [am_nth_eq] at hn
      have h1 := List.all_eq_true.mp hc ch (List.mem_of_getElem? hn)
      exact List.all_eq_true.mp h1 (pc, e) (am_find_mem he)
theorem am_big (m' : Nat) (q' : Inf) (hq : am_inf m' = some q') (h0 : 0 < m') : am_iwok q' = true ∧ am_mxl m' = q'.2.2.1 ∧ (q'.2.2.2.2.2.1 = 0 → am_own m' < 10 ∧ (am_C (am_own m')).1 = q'.1.cls) := by
  have hc := am_chk_all m' h0 (am_inf_lt hq)
  unfold am_chk at hc
  rw [hq] at hc
  cases ht : am_mth m' with
  | none => rw [ht] at hc; cases hc
  | some t =>
    rw [ht] at hc
    simp only [Bool.and_eq_true] at hc
    obtain ⟨⟨⟨h1, h2⟩, h3⟩, -⟩ := hc
    refine ⟨h1, ?_, fun hk => ?_⟩
    · unfold am_mxl
      rw [ht]
      exact Nat.eq_of_beq_eq_true h2
    · rw [hk] at h3
      simp only [Bool.and_eq_true, decide_eq_true_eq] at h3
      unfold am_own
      rw [ht]
      exact h3
theorem am_entry_eq {m : Nat} {q : Inf} (hq : am_inf m = some q) (h0 : 0 < m) (a : List Value) : am_entry m a = am_pad a q.2.2.1 := by
  obtain ⟨-, h, -⟩ := am_big m q hq h0
  have hc := am_chk_all m h0 (am_inf_lt hq)
  unfold am_mxl at h
  unfold am_entry
  cases ht : am_mth m with
  | none => unfold am_chk at hc; rw [hq, ht] at hc; cases hc
  | some t => rw [ht] at h; rw [← h]
theorem am_ev_0 (n pc : Nat) (L st : List Value) (f : Hp) : am_ev n 0 pc L st f = none := by
  cases n with
  | zero => rfl
  | succ n =>
    rw [am_ev]
    have : am_ins 0 pc = none := by
      unfold am_ins
      have : am_mth 0 = some (0, 15, [], []) := rfl
      rw [this]
      rfl
    rw [this]
theorem am_pos2 {q t n b z : Nat} {rs : List Nat} (h : am_shp q = some (t, n, rs)) (hz : am_nth rs b = some z) : 1 ≤ q ∧ q ≤ 76 := by
  refine ⟨?_, Nat.le_of_lt_succ (am_shp_lt h)⟩
  rcases Nat.eq_zero_or_pos q with h0 | h0
  · subst h0
    have h1 : am_shp 0 = some (14, 0, []) := rfl
    rw [h1] at h
    cases h
    cases hz
  · exact h0
theorem am_pos3 {d t t2 n : Nat} {rs : List Nat} {bb : Bool} (h : am_shp d = some (t2, n, rs)) (hz : (Nat.beq t 11 && Nat.beq t2 11 && bb) = true) : 1 ≤ d ∧ d ≤ 76 := by
  simp only [Bool.and_eq_true] at hz
  have := Nat.eq_of_beq_eq_true hz.1.2
  exact am_pos h (by omega)
set_option maxHeartbeats 8000000 in
theorem am_st_keep {P : Hp → Prop} (hup : ∀ f q j x, 1 ≤ q → q ≤ 76 → P f → P (am_up f q j x)) (hcp : ∀ f q d sp dp n, 1 ≤ d → d ≤ 76 → P f → P (am_cpf f q d sp dp n)) {c : Nat → List Value → Hp → Option Rs} {k : Nat → List Value → List Value → Hp → Option Rs} {r : Rs} (hc : ∀ m a f x g, c m a f = some (x, g) → P f → P g) (hk : ∀ pc L st f, k pc L st f = some r → P f → P r.2) {L st : List Value} {f : Hp} {e : En} : am_st c k L st f e = some r → P f → P r.2 := by
  rcases e with ⟨i, n, a, b, cc, v, w⟩
  cases i <;> simp only [am_st, Bool.cond_eq_ite] <;> (repeat' split) <;>
    first
      | (intro h; cases h; done)
      | exact fun h hp => hk _ _ _ _ h hp
      | (intro h hp; cases h; exact hp)
      | exact fun h hp => hk _ _ _ _ h (hup _ _ _ _ (am_pos2 ‹_› ‹_›).1 (am_pos2 ‹_› ‹_›).2 hp)
      | (simp only [am_z]; split <;> first | (intro h; cases h; done) | (intro h hp; cases h; exact hp) | exact fun h hp => hk _ _ _ _ h (hup _ _ _ _ (am_pos2 ‹_› ‹_›).1 (am_pos2 ‹_› ‹_›).2 hp))
      | (simp only [am_dv]; split <;> first | (intro h; cases h; done) | exact fun h hp => hk _ _ _ _ h hp)
      | (simp only [am_ald]; split <;> first | (intro h; cases h; done) | exact fun h hp => hk _ _ _ _ h hp)
      | exact fun h hp => let ⟨t, h1, h2⟩ := am_sw_supp h; hk _ _ _ _ h1 hp
      | exact fun h hp => let ⟨t, h1, h2⟩ := am_rl_supp h; hk _ _ _ _ h1 hp
      | exact fun h hp => let ⟨x, g, h1, h2⟩ := am_cal_supp h; hk _ _ _ _ h2 (hc _ _ _ _ _ h1 hp)
      | (simp only [am_ast]; split <;> first | (intro h; cases h; done) | exact fun h hp => hk _ _ _ _ h (hup _ _ _ _ (am_pos ‹_› (by decide)).1 (am_pos ‹_› (by decide)).2 hp))
      | (simp only [am_cp]; split <;> first | (intro h; cases h; done) | exact fun h hp => hk _ _ _ _ h (hcp _ _ _ _ _ _ (am_pos3 ‹_› ‹_›).1 (am_pos3 ‹_› ‹_›).2 hp))
theorem am_ev_keep {P : Hp → Prop} (hup : ∀ f q j x, 1 ≤ q → q ≤ 76 → P f → P (am_up f q j x)) (hcp : ∀ f q d sp dp n, 1 ≤ d → d ≤ 76 → P f → P (am_cpf f q d sp dp n)) : ∀ (n m pc : Nat) (L st : List Value) (f : Hp) (r : Rs), am_ev n m pc L st f = some r → P f → P r.2
  | 0, _, _, _, _, _, _, h, _ => by cases h
  | n + 1, m, pc, L, st, f, r, h, hp => by
    rw [am_ev] at h
    cases he : am_ins m pc with
    | none => rw [he] at h; cases h
    | some e =>
      rw [he] at h
      exact am_st_keep hup hcp (fun m a f x g hx hp => am_ev_keep hup hcp n _ _ _ _ _ (x, g) hx hp) (fun pc L st f hx hp => am_ev_keep hup hcp n _ _ _ _ _ _ hx hp) h hp
theorem am_ev_XS {Lx : Nat} {xs : Nat → Int32} {n m pc : Nat} {L st : List Value} {f : Hp} {r : Rs} (h : am_ev n m pc L st f = some r) (hX : am_XS Lx xs f) : am_XS Lx xs r.2 :=
  am_ev_keep (P := am_XS Lx xs) (fun _ _ _ _ h1 h2 h3 => h3.up h1 h2) (fun _ _ _ _ _ _ h1 h2 h3 => h3.cp h1 h2) n m pc L st f r h hX
theorem am_lg_len (ad : Nat → Nat) : ∀ as : List Value, (lg_sl (as.map (am_em ad))).length = am_cat as
  | [] => rfl
  | v :: t => by
    have ih := am_lg_len ad t
    unfold lg_sl at ih ⊢
    rw [List.map_cons, List.flatMap_cons, List.length_append, ih, am_em_cat]
    cases v <;> simp [am_cat, Value.category]
theorem am_pad_len : ∀ (as : List Value) (n : Nat), am_cat as ≤ n → (am_pad as n).length = n
  | [], n, _ => by simp [am_pad]
  | v :: t, n, h => by
    cases v <;> simp only [am_cat, am_pad, List.length_cons] at h ⊢ <;> first | (rw [am_pad_len t (n - 1) (by omega)]; omega) | (rw [am_pad_len t (n - 2) (by omega)]; omega)
theorem am_pad_get (ad : Nat → Nat) : ∀ (as : List Value) (n j i : Nat) (v : Value), am_nth (am_pad as n) i = some v → v ≠ .null → (j + i, am_em ad v) ∈ lv_args j (as.map (am_em ad))
  | [], n, j, i, v, h, hv => by
    exfalso
    rw [am_pad, am_nth_eq] at h
    exact hv (List.eq_of_mem_replicate (List.mem_of_getElem? h))
  | x :: t, n, j, i, v, h, hv => by
    have two : x.category = 2 → am_pad (x :: t) n = x :: .null :: am_pad t (n - 2) := by
      cases x <;> intro hc <;> first | rfl | (simp [Value.category] at hc)
    have one : ¬ x.category = 2 → am_pad (x :: t) n = x :: am_pad t (n - 1) := by
      cases x <;> intro hc <;> first | rfl | (simp [Value.category] at hc)
    by_cases hc : x.category = 2
    · rw [two hc] at h
      simp only [List.map_cons, lv_args, am_em_cat, if_pos hc]
      match i, h with
      | 0, h =>
        have : x = v := Option.some.inj h
        subst this
        exact List.mem_cons_self
      | 1, h => exact absurd (Option.some.inj h).symm hv
      | i + 2, h =>
        have ih := am_pad_get ad t (n - 2) (j + 2) i v h hv
        rw [show j + 2 + i = j + (i + 2) by omega] at ih
        exact List.mem_cons_of_mem _ ih
    · rw [one hc] at h
      simp only [List.map_cons, lv_args, am_em_cat, if_neg hc]
      match i, h with
      | 0, h =>
        have : x = v := Option.some.inj h
        subst this
        exact List.mem_cons_self
      | i + 1, h =>
        have ih := am_pad_get ad t (n - 1) (j + 1) i v h hv
        rw [show j + 1 + i = j + (i + 1) by omega] at ih
        exact List.mem_cons_of_mem _ ih
theorem am_LR_entry (ad : Nat → Nat) (as : List Value) {n : Nat} (h : am_cat as ≤ n) : am_LR ad (am_pad as n) ((lg_sl (as.map (am_em ad)) ++ List.replicate (n - (lg_sl (as.map (am_em ad))).length) Slot.unset).toArray) := by
  have hl := lv_entry (as.map (am_em ad)) (n := n) (by rw [am_lg_len]; exact h)
  refine ⟨(am_pad_len as n h).trans hl.1.symm, hl.2.1, fun i v hi hv => ?_⟩
  have hm := am_pad_get ad as n 0 i v hi hv
  rw [Nat.zero_add] at hm
  exact hl.2.2 _ hm
section AmSound
variable {l : Launch} {D : va_G} {cs : am_Cs} {ad : Nat → Nat} {A : Nat → Prop} {b Lx : Nat} {xs : Nat → Int32}
set_option maxHeartbeats 4000000 in
theorem am_sound : ∀ (n m pc : Nat) (L st : List Value) (f : Hp) (r : Rs) (q : Inf), am_inf m = some q → 0 < m → am_ev n m pc L st f = some r → am_XS Lx xs f → ∀ {p : Program} {e : Env} {R : Room} {s : State} {mid : MethodId} {args : Array Value} {below : List Frame} {meth : Method} {c : Code} {cells slots : Nat} {Q : State → Prop}, am_Cx p R s mid args c D cs ad A b Lx xs q cells slots →
    (∀ pc' ty H' locs' ls', decode q.2.1 pc' = .ok (.ireturn, 1) → q.2.2.2.1 = some ty → narrow ty (.int r.1) = .int r.1 → va_P D vwCl (am_ws cs ad r.2) H' → va_S A s.heap H' locs' → W p l e R s mid args below meth c H' locs' cells slots Q (F0 mid pc' ls' [.int r.1])) →
    (∀ pc' H' locs' ls', decode q.2.1 pc' = .ok (.return_, 1) → q.2.2.2.1 = none → va_P D vwCl (am_ws cs ad r.2) H' → va_S A s.heap H' locs' → W p l e R s mid args below meth c H' locs' cells slots Q (F0 mid pc' ls' [])) →
    ∀ {H : Heap} {locs : List Loc} {ls : Array Slot}, va_P D vwCl (am_ws cs ad f) H → va_S A s.heap H locs → am_LR ad L ls → c.maxLocals = ls.size → W p l e R s mid args below meth c H locs cells slots Q (F0 mid pc ls (st.map (am_em ad))) := by
  intro n
  induction n with
  | zero =>
    intro m pc L st f r q hq h0 h
    cases h
  | succ n ih =>
    intro m pc L st f r q hq h0 h hXS p e R s mid args below meth c cells slots Q hC hri hrv H locs ls hP hS hL hml
    rw [am_ev] at h
    cases he : am_ins m pc with
    | none => rw [he] at h; cases h
    | some en =>
      rw [he] at h
      refine am_sim hC (am_valid hq h0 he) ?_ (fun as f => am_ev_0 n 0 _ _ _) (fun pc' L' st' f' H' locs' ls' h' hXS' hP' hS' hL' hml' => ih m pc' _ st' f' r q hq h0 h' hXS' hC hri hrv hP' hS' hL'.kl hml') hri hrv am_big h hXS hP hS hL hml
      intro m' as g x g' q' hq' h0' hkd hXSg hev hcat
      refine ⟨?_, am_ev_XS hev hXSg⟩
      obtain ⟨hw, hmx, -⟩ := am_big m' q' hq' h0'
      have hpl : plainName q'.1.cls = true := by
        simp only [am_iwok, Bool.and_eq_true] at hw
        obtain ⟨-, hw⟩ := hw
        rcases Nat.eq_zero_or_pos q'.2.2.2.2.2.1 with hz | hz
        · rw [hz] at hw
          simp only [Bool.and_eq_true] at hw
          exact hw.1.1.1.1.1.1.1
        · rw [show q'.2.2.2.2.2.1 = 1 by omega] at hw
          simp only [Bool.and_eq_true] at hw
          exact hw.1.1.1.1.1.1
      obtain ⟨-, -, -, -, -, -, hAd, -, hLx, -⟩ := hC
      unfold am_Ct
      refine Met.ofW (cc := q'.2.1) (maxL := q'.2.2.1) (ret := q'.2.2.2.1) hpl rfl ?_
      intro p e s mid args below meth c s₁ B hml hv
      obtain ⟨rfl, hP, hK, hN, hX⟩ := hv
      have hts := atoms_spec (ws := am_wsm q') B.pre
      have hown : s.vm.findClass q'.1.cls = some mid.cls := findClass_of_methodNamed B.named
      have hlocks := B.notSynchronized
      rw [lg_entry_eq]
      have hLR := am_LR_entry ad as (n := q'.2.2.1) (by rw [← hmx]; exact hcat)
      rw [am_entry_eq hq' h0'] at hev
      have hsz : ((lg_sl (as.map (am_em ad)) ++ List.replicate (q'.2.2.1 - (lg_sl (as.map (am_em ad))).length) Slot.unset).toArray).size = q'.2.2.1 := by
        rw [← hLR.1]
        exact am_pad_len as _ (by rw [← hmx]; exact hcat)
      refine ih m' 0 _ [] g (x, g') q' hq' h0' hev hXSg ⟨B.exec, B.bytes, hown, fun w hw => hts w (List.mem_cons_of_mem _ hw), hN, hK, hAd, hX, hLx, Nat.le_refl _, Nat.le_refl _, Nat.le_refl _, Nat.le_refl _⟩ ?_ ?_ hP va_S.rf hLR (hml.trans hsz.symm)
      · intro pc' ty H' locs' ls' hd hty hn hP' hS'
        refine W.zret B.exec B.bytes (B.returns.trans hty) hn (fun t ht hW => ?_) hS'.2.2 hd
        rw [hty]
        exact ⟨⟨x, (), rfl, rfl, by show va_P D vwCl _ t.heap; rw [ht]; exact hP'⟩, hS'.F ht⟩
      · intro pc' H' locs' ls' hd hty hP' hS'
        refine W.vret B.exec B.bytes (B.returns.trans hty) (fun t ht hW => ?_) hS'.2.2 hd
        rw [hty]
        exact ⟨⟨(), rfl, trivial, by show va_P D vwCl _ t.heap; rw [ht]; exact hP'⟩, hS'.F ht⟩
end AmSound
