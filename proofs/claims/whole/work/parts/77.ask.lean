section Ask
variable {n : Nat} {lk ln : Nat → Nat} {c : Nat} {mr : Nat → Nat} {t kc : Nat} {f g : Hp} {ww : Nat → Nat}
theorem cd_bit (n : Nat) (ww : Nat → Nat) (y v : Nat) : (cdS n ww y).testBit v = (decide (v < n) && decide (ww v = y)) := setOf_bit _ v n
theorem cd_lt (n : Nat) (ww : Nat → Nat) (y : Nat) : cdS n ww y < 2 ^ n := setOf_lt _ n
theorem TW_cd {w : Nat → Int32} (h : TW n ww w) (h9 : n ≤ 9) {y : Nat} (hy : y < 36) : wSet w (nI y) 9 = cdS n ww y := by
  rw [wSet_more h9 h.2 (nI_m1 (by omega))]
  unfold wSet cdS
  refine setOf_congr fun s hs => ?_
  obtain ⟨s1, s2⟩ := h.1 s hs
  rw [s1]
  exact decide_eq_decide.mpr (nI_eq (by omega) (by omega))
theorem cd_pos {s : Nat} (hs : s < n) : 1 ≤ cdS n ww (ww s) := by
  rcases Nat.eq_zero_or_pos (cdS n ww (ww s)) with e | e
  · have := cd_bit n ww (ww s) s
    rw [e, Nat.zero_testBit, decide_eq_true hs, decide_eq_true rfl] at this
    cases this
  · exact e
theorem encW_enc {o : Option Nat} (h : o ≠ none) : encW 0 o = enc (-4) o := by
  cases o with
  | none => exact absurd rfl h
  | some w => rw [encW_some, enc_some, Nat.add_zero]
theorem xor_lt {F a n : Nat} (h : F < 2 ^ n) (ha : a < n) : F ^^^ 2 ^ a < 2 ^ n := Nat.xor_lt_two_pow h (Nat.pow_lt_pow_right (by decide) ha)
theorem or_lt2 {F a n : Nat} (h : F < 2 ^ n) (ha : a < n) : F ||| 2 ^ a < 2 ^ n := Nat.or_lt_two_pow h (Nat.pow_lt_pow_right (by decide) ha)
theorem or_pos2 (F a : Nat) : 1 ≤ F ||| 2 ^ a := by
  have h1 : 2 ^ a ≤ F ||| 2 ^ a := Nat.right_le_or
  have h2 := Nat.two_pow_pos a
  omega
/-- may it be passed -/
noncomputable def okA (n : Nat) (lk ln : Nat → Nat) (c F T a : Nat) (day : Int32) (f : Hp) : Bool := Rd (f 3) (f 4) (f 17) (f 18) (f 19) n c lk ln day (T ||| 2 ^ a) && (decide (F ^^^ 2 ^ a = 0) || Rd (f 3) (f 4) (f 17) (f 18) (f 19) n c lk ln day (F ^^^ 2 ^ a))
/-- what it costs -/
def coA (n : Nat) (lk ln : Nat → Nat) (F T a : Nat) : Int32 := (enc (-4) (WS lk ln n (T ||| 2 ^ a)) + (if F ^^^ 2 ^ a = 0 then 0 else enc (-4) (WS lk ln n (F ^^^ 2 ^ a)))) - enc (-4) (WS lk ln n F) - enc (-4) (WS lk ln n T)
theorem Rd_some {a b l x y : Nat → Int32} {day : Int32} {S : Nat} (h : Rd a b l x y n c lk ln day S = true) : WS lk ln n S ≠ none := by
  rw [Rd_W h]
  exact fun z => by cases z
theorem Iv.c_cost (h : Iv n lk ln c mr t kc f) {e d a b : Nat} (hg : GvT n lk ln ww e d 37 f) (ha : a < n) (hb : b < n) (hab : ww a ≠ ww b) {day : Int32} (hd : wi day 0 14600 = true) (hl : ¬ day < f 37 4) : am_call 97 [.ref 1, .int (nI a), .int (nI b), .int day] f = some (if okA n lk ln c (cdS n ww (ww a)) (cdS n ww (ww b)) a day f = true then coA n lk ln (cdS n ww (ww a)) (cdS n ww (ww b)) a else -100000, wa f) := by
  have h9 := h.n9
  have h5 := pow9 h9
  obtain ⟨hw, ag⟩ := h.waI
  have hW1 := (wa_ok h.cs h.wc).2.1
  have hid : wa (wa f) = wa f := wa_id hW1
  obtain ⟨a1, a2⟩ := hg.2.1.1 a ha
  obtain ⟨b1, b2⟩ := hg.2.1.1 b hb
  have a1 : f 38 a = nI (ww a) := a1
  have b1 : f 38 b = nI (ww b) := b1
  have hTW : TW n ww (f 38) := hg.2.1
  have hlat : ¬ f 37 4 < 0 := by
    have h4 : f 37 4 = nI d := hg.2.2.2.2.1
    have := hg.2.2.2.2.2.1
    rw [h4]; exact nI_pos (by omega)
  have sa : ∀ (s : Nat), s < n → wi (nI s) 0 (nI n - 1) = true := fun s hs => by
    obtain ⟨m, rfl⟩ : ∃ m, n = m + 1 := ⟨n - 1, by omega⟩
    rw [nI_pred]
    have : wi (nI s) (nI 0) (nI m) = _ := wi_nI (s := s) (lo := 0) (hi := m) (by omega) (by omega) (by omega)
    show wi (nI s) (nI 0) (nI m) = true
    rw [this, decide_eq_true (Nat.zero_le s), decide_eq_true (show s ≤ m by omega)]; rfl
  have cda : am_call 47 [.ref 37, .int (nI a)] f = some (nI (cdS n ww (ww a)), f) := by rw [c_codeOf (by omega), a1, if_neg (nI_pos (by omega)), TW_cd hTW h9 a2]
  have cdb : am_call 47 [.ref 37, .int (nI b)] f = some (nI (cdS n ww (ww b)), f) := by rw [c_codeOf (by omega), b1, if_neg (nI_pos (by omega)), TW_cd hTW h9 b2]
  have wsa := hg.2.2.2.2.2.2.1 a ha
  have wsb := hg.2.2.2.2.2.2.1 b hb
  have pa := cd_pos (ww := ww) ha
  have pb := cd_pos (ww := ww) hb
  have la := cd_lt n ww (ww a)
  have lb := cd_lt n ww (ww b)
  generalize hF : cdS n ww (ww a) = F at *
  generalize hT : cdS n ww (ww b) = T at *
  have lx := xor_lt la ha
  have lo := or_lt2 lb ha
  have po := or_pos2 T a
  have cells : ∀ S, Rd (wa f 3) (wa f 4) (wa f 17) (wa f 18) (wa f 19) n c lk ln day S = Rd (f 3) (f 4) (f 17) (f 18) (f 19) n c lk ln day S := fun S => by rw [Rd_cells ag.cells]
  have xe : nI F ^^^ (1 <<< (nI a &&& 31)) = nI (F ^^^ 2 ^ a) := by rw [shl_one (by omega), nx_xor]
  rw [eX8_costOfAsk_1, c_isSide, h.n7, sa a ha, am_cal_some, bi_t, if_neg one_ne, c_isSide, h.n7, sa b hb, am_cal_some, bi_t, if_neg one_ne, c_isDay, hd, am_cal_some, bi_t, if_neg one_ne, c_isGiven, am_cal_some, decide_eq_false hlat, Bool.not_false, bi_t, if_neg one_ne, if_neg hl, eX6_wordOf_37, am_ald_in _ _ _ (show a < 9 by omega) (by decide), am_cal_some, eX6_wordOf_37, am_ald_in _ _ _ (show b < 9 by omega) (by decide), am_cal_some, a1, b1, if_neg (fun z => hab ((nI_eq (by omega) (by omega)).mp z)), cda, am_cal_some, cdb, am_cal_some, or_bit (by omega), xe, h.c_right po lo, am_cal_some]
  unfold okA
  cases r1 : Rd (f 3) (f 4) (f 17) (f 18) (f 19) n c lk ln day (T ||| 2 ^ a) with
  | false => rw [bi_f, if_pos rfl, Bool.false_and, if_neg (by decide)]
  | true =>
    have wso := Rd_some r1
    rw [bi_t, if_neg one_ne, Bool.true_and]
    unfold coA
    by_cases e0 : F ^^^ 2 ^ a = 0
    · rw [e0, if_pos nI_0, eX8_costOfAsk_139_1, if_pos nI_0, hw.leastWalk po lo, am_cal_some, hid, hw.leastWalk pa la, am_cal_some, hid, hw.leastWalk pb lb, am_cal_some, hid, encW_enc wso, encW_enc wsa, encW_enc wsb, decide_eq_true rfl, Bool.true_or, if_pos rfl, if_pos rfl]
    · rw [if_neg (nI_nez e0 (by omega)), hw.c_right (by omega) lx, cells, am_cal_some, hid, decide_eq_false e0, Bool.false_or]
      cases r2 : Rd (f 3) (f 4) (f 17) (f 18) (f 19) n c lk ln day (F ^^^ 2 ^ a) with
      | false => rw [bi_f, if_pos rfl, if_neg (by decide)]
      | true =>
        have wsx := Rd_some r2
        rw [bi_t, if_neg one_ne, eX8_costOfAsk_139_1, if_neg (nI_nez e0 (by omega)), hw.leastWalk (by omega) lx, am_cal_some, hid, hw.leastWalk po lo, am_cal_some, hid, hw.leastWalk pa la, am_cal_some, hid, hw.leastWalk pb lb, am_cal_some, hid, encW_enc wso, encW_enc wsa, encW_enc wsb, encW_enc wsx, if_neg e0, if_pos rfl]
/-- the same of the reference, where its cells are as in f -/
theorem Iv.m_mayPass (h : Iv n lk ln c mr t kc f) (me : ME f g) {e d a b : Nat} (hg : GvT n lk ln ww e d 37 f) (ha : a < n) (hb : b < n) (day : Int32) : ∃ H, am_call 170 [.ref 50, .int (nI a), .int (nI b), .int day] g = some (bi (okA n lk ln c (cdS n ww (ww a)) (cdS n ww (ww b)) a day f), H) ∧ (∀ q, q ≠ 50 → q ≠ 65 → H q = g q) ∧ (∀ j, j ≠ 30 → H 50 j = g 50 j) ∧ (okA n lk ln c (cdS n ww (ww a)) (cdS n ww (ww b)) a day f = true → H 50 30 = coA n lk ln (cdS n ww (ww a)) (cdS n ww (ww b)) a) := by
  have h9 := h.n9
  have h5 := pow9 h9
  obtain ⟨k, k1, k2, k3, k4⟩ := h.e_layFrom me
  obtain ⟨a1, a2⟩ := hg.2.1.1 a ha
  obtain ⟨b1, b2⟩ := hg.2.1.1 b hb
  have a1 : f 38 a = nI (ww a) := a1
  have b1 : f 38 b = nI (ww b) := b1
  have hTW : TW n ww (f 38) := hg.2.1
  have ka : k 60 a = nI (ww a) := by rw [k4.1 60 (by decide) (by decide), h.tw a (by omega)]; exact a1
  have kb : k 60 b = nI (ww b) := by rw [k4.1 60 (by decide) (by decide), h.tw b (by omega)]; exact b1
  have cda : am_call 164 [.ref 50, .int (nI (ww a))] k = some (nI (cdS n ww (ww a)), k) := by rw [h.e_codeOf k4 (nI_m1 (by omega)), TW_cd hTW h9 a2]
  have cdb : am_call 164 [.ref 50, .int (nI (ww b))] k = some (nI (cdS n ww (ww b)), k) := by rw [h.e_codeOf k4 (nI_m1 (by omega)), TW_cd hTW h9 b2]
  have ba : (cdS n ww (ww a)).testBit a = true := by rw [cd_bit, decide_eq_true ha, decide_eq_true rfl]; rfl
  have pa := cd_pos (ww := ww) ha
  have pb := cd_pos (ww := ww) hb
  have la := cd_lt n ww (ww a)
  have lb := cd_lt n ww (ww b)
  generalize hF : cdS n ww (ww a) = F at *
  generalize hT : cdS n ww (ww b) = T at *
  have lx := xor_lt la ha
  have lo := or_lt2 lb ha
  have po := or_pos2 T a
  have xe := dropI (S := F) (v := a) (by omega) (by omega) ba
  have fk : (∀ q, q ≠ 50 → q ≠ 65 → k q = g q) ∧ ∀ j, j ≠ 30 → k 50 j = g 50 j := ⟨fun q _ h2 => k2 q h2, fun j _ => by rw [k2 50 (by decide)]⟩
  have fu : ∀ x, (∀ q, q ≠ 50 → q ≠ 65 → am_up k 50 30 x q = g q) ∧ ∀ j, j ≠ 30 → am_up k 50 30 x 50 j = g 50 j := fun x => ⟨fun q h1 h2 => by rw [am_up_ne h1]; exact k2 q h2, fun j hj => by rw [am_up_j hj, k2 50 (by decide)]⟩
  rw [eX9_mayPass_50, k1, am_cal_some, am_ald_in _ _ _ (show a < 27 by omega) (by decide), ka, cda, am_cal_some, am_ald_in _ _ _ (show b < 27 by omega) (by decide), kb, cdb, am_cal_some, or_bit (by omega), xe, h.e_right k4 k3 po lo, am_cal_some]
  unfold okA
  cases r1 : Rd (f 3) (f 4) (f 17) (f 18) (f 19) n c lk ln day (T ||| 2 ^ a) with
  | false =>
    rw [bi_f, if_pos rfl, Bool.false_and, am_z0]
    exact ⟨k, rfl, fk.1, fk.2, fun z => by cases z⟩
  | true =>
    rw [bi_t, if_neg one_ne, Bool.true_and]
    by_cases e0 : F ^^^ 2 ^ a = 0
    · rw [e0, if_pos nI_0, eX9_mayPass_73_50, h.e_walkOf k4 k3 po lo, am_cal_some, if_pos nI_0, h.e_walkOf k4 k3 pa la, am_cal_some, h.e_walkOf k4 k3 pb lb, am_cal_some, decide_eq_true rfl, Bool.true_or, am_z1]
      refine ⟨_, rfl, (fu _).1, (fu _).2, fun _ => ?_⟩
      rw [am_up_same]
      unfold coA
      rw [if_pos e0]
    · rw [if_neg (nI_nez e0 (by omega)), h.e_right k4 k3 (by omega) lx, am_cal_some, decide_eq_false e0, Bool.false_or]
      cases r2 : Rd (f 3) (f 4) (f 17) (f 18) (f 19) n c lk ln day (F ^^^ 2 ^ a) with
      | false =>
        rw [bi_f, if_pos rfl, am_z0]
        exact ⟨k, rfl, fk.1, fk.2, fun z => by cases z⟩
      | true =>
        rw [bi_t, if_neg one_ne, eX9_mayPass_73_50, h.e_walkOf k4 k3 po lo, am_cal_some, if_neg (nI_nez e0 (by omega)), h.e_walkOf k4 k3 (by omega) lx, am_cal_some, h.e_walkOf k4 k3 pa la, am_cal_some, h.e_walkOf k4 k3 pb lb, am_cal_some, am_z1]
        refine ⟨_, rfl, (fu _).1, (fu _).2, fun _ => ?_⟩
        rw [am_up_same]
        unfold coA
        rw [if_neg e0]
/-- a cost is a small number -/
theorem enc_b (h9 : n ≤ 9) (hlb : ∀ i, lk i ≤ 500) (hnb : ∀ i, ln i ≤ 500) {S : Nat} (hS : S < 2 ^ n) (hw : WS lk ln n S ≠ none) : ∃ w, w < 9000 ∧ enc (-4) (WS lk ln n S) = nI w := by
  have h5 := pow9 h9
  cases e : WS lk ln n S with
  | none => exact absurd e hw
  | some w => exact ⟨w, WS_lt2 h9 hlb hnb (show S < 512 by omega) w e, rfl⟩
theorem small_sub {p q r : Nat} (hp : p < 100000) (hq : q < 100000) (hr : r < 100000) : (nI p - nI q - nI r).toInt = (p : Int) - q - r := by
  rw [Int32.toInt_sub, pk_sub_toInt (by omega) (by omega), nI_toInt (by omega)]
  rw [Int.bmod_eq_of_le (by omega) (by omega)]
end Ask
