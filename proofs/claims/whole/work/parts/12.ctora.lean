def ct_Pre (D : va_G) (cs : am_Cs) (sz : Nat) (ws : va_W) (U : State) : Prop := U.heap.size = sz ∧ va_P D vwCl ws U.heap ∧ va_K D vwCl (am_tys cs) U ∧ va_D (fun _ => True) ws ∧ (∀ w ∈ lw_tbl, am_nest w = true → va_Nw w U) ∧ va_AO "DoorCodes$Town" U
theorem ct_blind {av : List Value} {D : va_G} {cs : am_Cs} {sz : Nat} {ws : va_W} : FrameBlind (va_Pc av (ct_Pre D cs sz ws)) := by
  intro a U g mk h
  obtain ⟨h0, h1, h2, h3, h4, h5, h6⟩ := h
  exact ⟨h0, h1, h2, va_K.moved (u := U) (U := U.calling g mk a) (Vm.Alike.refl U.vm) h3, h4, fun w hw hn => va_Nw.same (u := U) (U := U.calling g mk a) (am_nest_on hn) rfl (h5 w hw hn), va_AO.moved (u := U) (U := U.calling g mk a) (Vm.Alike.refl U.vm) h6⟩
theorem ct_nest {s U : State} (hN : ∀ w ∈ lw_tbl, am_nest w = true → va_Nw w s) (hAO : va_AO "DoorCodes$Town" s) (hW : s.WarmedH U.vm) : (∀ w ∈ lw_tbl, am_nest w = true → va_Nw w U) ∧ va_AO "DoorCodes$Town" U := by
  refine ⟨fun w hw hn => ?_, va_AO.moved hW.alike hAO⟩
  have := hN w hw hn
  cases w <;> first | exact va_Nw.warmF hW this | exact va_Nw.warmM hW this | (simp [am_nest] at hn)
def ct_fl (n : Nat) (v : Int32) (f : Nat → Int32) : Nat → Int32 := fun j => if j < n then v else f j
theorem ct_fl_step (i : Nat) (v : Int32) (g : Nat → Int32) : upd (ct_fl i v g) i v = ct_fl (i + 1) v g := by
  funext j
  unfold upd ct_fl
  by_cases h : j = i
  · subst h
    simp
  · by_cases h2 : j < i
    · rw [if_neg h, if_pos h2, if_pos (by omega)]
    · rw [if_neg h, if_neg h2, if_neg (by omega)]
theorem List.set_eq_of_getElem? {α : Type} {l : List α} {k : Nat} {x : α} (h : l[k]? = some x) : l.set k x = l := by
  refine List.ext_getElem? fun j => ?_
  by_cases hj : j = k
  · subst hj
    rw [List.getElem?_set_self (List.getElem?_eq_some_iff.mp h).1, h]
  · rw [List.getElem?_set_ne (fun z => hj z.symm)]
section CtNew
variable {p : Program} {l : Launch} {e : Env} {R : Room} {s : State} {m : MethodId} {args : Array Value} {below : List Frame} {meth : Method} {c : Code} {H : Heap} {locs : List Loc} {cells slots : Nat} {Q : State → Prop}
variable {cc : ByteArray} {pc : Nat} {ls : Array Slot} {rest : List Value} {D : va_G} {cl : List vw_C} {A : Nat → Prop} {cs : am_Cs} {ws : va_W} {H0 : Heap}
theorem ct_newint (hexec : p.tables.exec = Jvm.exec) (hb : c.code = cc) (harr : (Cond.arrayClass .int).before args s = true) (hK : va_K D cl (am_tys cs) s) (hP : va_P D cl ws H) (hD : va_D A ws) (hS : va_S A H0 H locs) (hA : ∀ q, H0.size ≤ q → A q) {n : Int32} {N' : Nat} (hn : ¬ n < 0) (hN : n.toNatClampNeg = N') (hbytes : N' * 4 ≤ 536870912) (hcells : cells + 1 ≤ R.cells) (hslots : slots + N' ≤ R.slots) (hdg : decode cc pc = .ok (.newarray .int, 2))
    (kk : ∀ (q : Nat) (H1 : Heap), va_P D cl (ws ++ [(q, .inl (cs.1, N', .inl (fun _ => 0)))]) H1 → va_D A (ws ++ [(q, .inl (cs.1, N', .inl (fun _ => 0)))]) → va_S A H0 H1 locs → W p l e R s m args below meth c H1 locs (cells + 1) (slots + N') Q (F0 m (pc + 2) ls (.ref q :: rest))) : W p l e R s m args below meth c H locs cells slots Q (F0 m pc ls (.int n :: rest)) := by
  refine va_newa (atype := .int) (ty := .int) hexec hb harr rfl hK hP hD hS hA (a0 := (N', .inl (fun _ => 0))) (fun cA => by rw [vp_cell_i]; rfl) hn hN hbytes hcells hslots hdg (fun q cA H1 hK1 hP1 hD1 hS1 => ?_)
  have h1 : s.vm.findClass ("[" ++ FieldType.int.toString) = some cA := (hK1.2 4 (cA, .int) rfl).2
  have h2 : s.vm.findClass ("[" ++ FieldType.int.toString) = some cs.1 := (hK.2 0 (cs.1, .int) rfl).2
  have h3 : cA = cs.1 := Option.some.inj (h1.symm.trans h2)
  subst h3
  exact kk q H1 hP1 hD1 hS1
theorem ct_newbyte (hexec : p.tables.exec = Jvm.exec) (hb : c.code = cc) (harr : (Cond.arrayClass .byte).before args s = true) (hK : va_K D cl (am_tys cs) s) (hP : va_P D cl ws H) (hD : va_D A ws) (hS : va_S A H0 H locs) (hA : ∀ q, H0.size ≤ q → A q) {n : Int32} {N' : Nat} (hn : ¬ n < 0) (hN : n.toNatClampNeg = N') (hbytes : N' * 1 ≤ 536870912) (hcells : cells + 1 ≤ R.cells) (hslots : slots + N' ≤ R.slots) (hdg : decode cc pc = .ok (.newarray .byte, 2))
    (kk : ∀ (q : Nat) (H1 : Heap), va_P D cl (ws ++ [(q, .inl (cs.2.1, N', .inl (fun _ => 0)))]) H1 → va_D A (ws ++ [(q, .inl (cs.2.1, N', .inl (fun _ => 0)))]) → va_S A H0 H1 locs → W p l e R s m args below meth c H1 locs (cells + 1) (slots + N') Q (F0 m (pc + 2) ls (.ref q :: rest))) : W p l e R s m args below meth c H locs cells slots Q (F0 m pc ls (.int n :: rest)) := by
  refine va_newa (atype := .byte) (ty := .byte) hexec hb harr rfl hK hP hD hS hA (a0 := (N', .inl (fun _ => 0))) (fun cA => by rw [vp_cell_i]; rfl) hn hN hbytes hcells hslots hdg (fun q cA H1 hK1 hP1 hD1 hS1 => ?_)
  have h1 : s.vm.findClass ("[" ++ FieldType.byte.toString) = some cA := (hK1.2 4 (cA, .byte) rfl).2
  have h2 : s.vm.findClass ("[" ++ FieldType.byte.toString) = some cs.2.1 := (hK.2 1 (cs.2.1, .byte) rfl).2
  have h3 : cA = cs.2.1 := Option.some.inj (h1.symm.trans h2)
  subst h3
  exact kk q H1 hP1 hD1 hS1
theorem ct_newboolean (hexec : p.tables.exec = Jvm.exec) (hb : c.code = cc) (harr : (Cond.arrayClass .boolean).before args s = true) (hK : va_K D cl (am_tys cs) s) (hP : va_P D cl ws H) (hD : va_D A ws) (hS : va_S A H0 H locs) (hA : ∀ q, H0.size ≤ q → A q) {n : Int32} {N' : Nat} (hn : ¬ n < 0) (hN : n.toNatClampNeg = N') (hbytes : N' * 1 ≤ 536870912) (hcells : cells + 1 ≤ R.cells) (hslots : slots + N' ≤ R.slots) (hdg : decode cc pc = .ok (.newarray .boolean, 2))
    (kk : ∀ (q : Nat) (H1 : Heap), va_P D cl (ws ++ [(q, .inl (cs.2.2.1, N', .inl (fun _ => 0)))]) H1 → va_D A (ws ++ [(q, .inl (cs.2.2.1, N', .inl (fun _ => 0)))]) → va_S A H0 H1 locs → W p l e R s m args below meth c H1 locs (cells + 1) (slots + N') Q (F0 m (pc + 2) ls (.ref q :: rest))) : W p l e R s m args below meth c H locs cells slots Q (F0 m pc ls (.int n :: rest)) := by
  refine va_newa (atype := .boolean) (ty := .boolean) hexec hb harr rfl hK hP hD hS hA (a0 := (N', .inl (fun _ => 0))) (fun cA => by rw [vp_cell_i]; rfl) hn hN hbytes hcells hslots hdg (fun q cA H1 hK1 hP1 hD1 hS1 => ?_)
  have h1 : s.vm.findClass ("[" ++ FieldType.boolean.toString) = some cA := (hK1.2 4 (cA, .boolean) rfl).2
  have h2 : s.vm.findClass ("[" ++ FieldType.boolean.toString) = some cs.2.2.1 := (hK.2 2 (cs.2.2.1, .boolean) rfl).2
  have h3 : cA = cs.2.2.1 := Option.some.inj (h1.symm.trans h2)
  subst h3
  exact kk q H1 hP1 hD1 hS1
theorem ct_newref (hexec : p.tables.exec = Jvm.exec) (hb : c.code = cc) {own : String} {index : Nat} (hown : s.vm.findClass own = some m.cls) (hclink : (Cond.classLink own index RX6).before args s = true) (hover : va_AO "DoorCodes$Town" s) (hK : va_K D cl (am_tys cs) s) (hP : va_P D cl ws H) (hD : va_D A ws) (hS : va_S A H0 H locs) (hA : ∀ q, H0.size ≤ q → A q) {n : Int32} {N' : Nat} (hn : ¬ n < 0) (hN : n.toNatClampNeg = N') (hbytes : N' * 4 ≤ 536870912) (hcells : cells + 1 ≤ R.cells) (hslots : slots + N' ≤ R.slots) (hdg : decode cc pc = .ok (.anewarray index, 3))
    (kk : ∀ (q : Nat) (H1 : Heap), va_P D cl (ws ++ [(q, .inl (cs.2.2.2, N', .inr (.inr (.inr (.inr (fun _ => none))))))]) H1 → va_D A (ws ++ [(q, .inl (cs.2.2.2, N', .inr (.inr (.inr (.inr (fun _ => none))))))]) → va_S A H0 H1 locs → W p l e R s m args below meth c H1 locs (cells + 1) (slots + N') Q (F0 m (pc + 3) ls (.ref q :: rest))) : W p l e R s m args below meth c H locs cells slots Q (F0 m pc ls (.int n :: rest)) := by
  refine va_newq hexec hb hown hclink hover hK hP hD hS hA hn hN hbytes hcells hslots hdg (fun q cA H1 hK1 hP1 hD1 hS1 => ?_)
  obtain ⟨_, _, -, -, -, h1⟩ := (hK1.2 4 (cA, .object "DoorCodes$Town") rfl).2
  obtain ⟨_, _, -, -, -, h2⟩ := (hK.2 3 (cs.2.2.2, .object "DoorCodes$Town") rfl).2
  have h3 : cA = cs.2.2.2 := Option.some.inj (h1.symm.trans h2)
  subst h3
  exact kk q H1 hP1 hD1 hS1
end CtNew
theorem ct_def0 : ∀ j, j < 4 → defaultValue (tyX0 j) = vp_V [.null, .null, .null, .int 0] j := by decide +kernel
theorem ct_def1 : ∀ j, j < 1 → defaultValue (tyX1 j) = vp_V [.null] j := by decide +kernel
theorem ct_def2 : ∀ j, j < 4 → defaultValue (tyX2 j) = vp_V [.null, .null, .null, .int 0] j := by decide +kernel
theorem ct_def3 : ∀ j, j < 9 → defaultValue (tyX3 j) = vp_V [.null, .null, .null, .null, .null, .null, .int 0, .int 0, .int 0] j := by decide +kernel
theorem ct_def4 : ∀ j, j < 9 → defaultValue (tyX4 j) = vp_V [.null, .null, .null, .null, .null, .null, .null, .int 0, .int 0] j := by decide +kernel
theorem ct_def5 : ∀ j, j < 2 → defaultValue (tyX5 j) = vp_V [.null, .int 0] j := by decide +kernel
theorem ct_def6 : ∀ j, j < 5 → defaultValue (tyX6 j) = vp_V [.null, .null, .null, .int 0, .int 0] j := by decide +kernel
theorem ct_def7 : ∀ j, j < 14 → defaultValue (tyX7 j) = vp_V [.null, .null, .null, .null, .null, .null, .null, .null, .null, .int 0, .int 0, .int 0, .int 0, .int 0] j := by decide +kernel
theorem ct_def8 : ∀ j, j < 11 → defaultValue (tyX8 j) = vp_V [.null, .null, .null, .null, .null, .null, .null, .null, .null, .null, .int 0] j := by decide +kernel
theorem ct_def9 : ∀ j, j < 36 → defaultValue (tyX9 j) = vp_V [.int 0, .null, .null, .null, .null, .null, .int 0, .null, .null, .null, .null, .null, .null, .null, .null, .null, .int 0, .null, .int 0, .int 0, .int 0, .null, .null, .null, .null, .int 0, .null, .int 0, .null, .null, .int 0, .int 0, .null, .null, .null, .null] j := by decide +kernel

theorem dJ7_fill_53178_0 : decode cJ7_fill_53178 0 = .ok (.iconst 0, 1) := by decide +kernel
theorem dJ7_fill_53178_1 : decode cJ7_fill_53178 1 = .ok (.istore_n 2, 1) := by decide +kernel
theorem dJ7_fill_53178_2 : decode cJ7_fill_53178 2 = .ok (.aload_n 0, 1) := by decide +kernel
theorem dJ7_fill_53178_3 : decode cJ7_fill_53178 3 = .ok (.arraylength, 1) := by decide +kernel
theorem dJ7_fill_53178_4 : decode cJ7_fill_53178 4 = .ok (.istore_n 3, 1) := by decide +kernel
theorem dJ7_fill_53178_5 : decode cJ7_fill_53178 5 = .ok (.iload_n 2, 1) := by decide +kernel
theorem dJ7_fill_53178_6 : decode cJ7_fill_53178 6 = .ok (.iload_n 3, 1) := by decide +kernel
theorem dJ7_fill_53178_7 : decode cJ7_fill_53178 7 = .ok (.if_icmp .ge 13, 3) := by decide +kernel
theorem dJ7_fill_53178_10 : decode cJ7_fill_53178 10 = .ok (.aload_n 0, 1) := by decide +kernel
theorem dJ7_fill_53178_11 : decode cJ7_fill_53178 11 = .ok (.iload_n 2, 1) := by decide +kernel
theorem dJ7_fill_53178_12 : decode cJ7_fill_53178 12 = .ok (.iload_n 1, 1) := by decide +kernel
theorem dJ7_fill_53178_13 : decode cJ7_fill_53178 13 = .ok (.iastore, 1) := by decide +kernel
theorem dJ7_fill_53178_14 : decode cJ7_fill_53178 14 = .ok (.iinc 2 1, 3) := by decide +kernel
theorem dJ7_fill_53178_17 : decode cJ7_fill_53178 17 = .ok (.goto (-12), 3) := by decide +kernel
theorem dJ7_fill_53178_20 : decode cJ7_fill_53178 20 = .ok (.return_, 1) := by decide +kernel
set_option maxHeartbeats 4000000 in
set_option maxRecDepth 100000 in
/-- Arrays.fill of an int array -/
theorem ct_fill (l : Launch) (D : va_G) (cs : am_Cs) (a sz n : Nat) (f : Nat → Int32) (v : Int32) (hn : n < 100000) : Met l yJ7_fill_53178 (.code yJ7_fill_53178 cJ7_fill_53178 4 none :: am_GW) ({ frames := 0, cells := 0, slots := 0, locals := 0 }) (va_Pc [.ref a, .int v] (ct_Pre D cs sz [(a, .inl (cs.1, n, .inl f))])) (va_Qv (fun _ : Unit => True) (fun _ t => va_P D vwCl [(a, .inl (cs.1, n, .inl (ct_fl n v f)))] t.heap ∧ va_D (va_A [(a, .inl (cs.1, n, .inl f))] sz) [(a, .inl (cs.1, n, .inl (ct_fl n v f)))]) (va_A [(a, .inl (cs.1, n, .inl f))] sz)) 0 0 (va_A [(a, .inl (cs.1, n, .inl f))] sz) := by
  refine Met.ofW (cc := cJ7_fill_53178) (maxL := 4) (ret := none) (by decide) rfl ?_
  intro p e s m args below meth c s₁ B hml hv
  obtain ⟨rfl, hsz, hP, hK, hD0, hN, hAO⟩ := hv
  have hx := B.exec
  have hb := B.bytes
  have hr := B.returns
  have hlocks := B.notSynchronized
  subst hsz
  have hD := hD0.self (sz := s.heap.size)
  generalize hAe : va_A [(a, .inl (cs.1, n, .inl f))] s.heap.size = A at hD ⊢
  have hS : va_S A s.heap s.heap [] := va_S.rf
  have hl := lv_entry ([.ref a, .int v]) (n := 4) (Nat.le_of_ble_eq_true rfl)
  rw [lg_entry_eq]
  generalize (lg_sl ([.ref a, .int v]) ++ List.replicate (4 - (lg_sl ([.ref a, .int v])).length) Slot.unset).toArray = ls at hl ⊢
  have hl : lv_has ls 4 [(0, .ref a), (1, .int v)] := hl
  have main : ∀ (d i : Nat), i + d = n → ∀ (H : Heap) (locs : List Loc) (ls : Array Slot), va_P D vwCl [(a, .inl (cs.1, n, .inl (ct_fl i v f)))] H → va_D A [(a, .inl (cs.1, n, .inl (ct_fl i v f)))] → va_S A s.heap H locs → lv_has ls 4 [(3, .int (nI n)), (2, .int (nI i)), (0, .ref a), (1, .int v)] → W p l e ({ frames := 0, cells := 0, slots := 0, locals := 0 } : Room) s m [Value.ref a, Value.int v].toArray below meth c H locs 0 0 (MQ below (va_Qv (fun _ : Unit => True) (fun _ t => va_P D vwCl [(a, .inl (cs.1, n, .inl (ct_fl n v f)))] t.heap ∧ va_D A [(a, .inl (cs.1, n, .inl (ct_fl n v f)))]) A) [Value.ref a, Value.int v].toArray s 0 0 A) (F0 m 5 ls []) := by
    intro d
    induction d with
    | zero =>
      intro i hi H locs ls hP hD hS hl
      have hi : i = n := by omega
      subst hi
      refine lv_iload_n hx hb dJ7_fill_53178_5 rfl (lv_at hl 1 rfl) ?_
      refine lv_iload_n hx hb dJ7_fill_53178_6 rfl (lv_at hl 0 rfl) ?_
      refine lv_icmp_ge (tgt := 20) hx hb dJ7_fill_53178_7 (by decide) (fun _ => ?_) (fun c9 => absurd (nI_le (Nat.le_refl i) (by omega)) c9)
      exact W.vret hx hb hr (fun t ht hW => ⟨⟨(), rfl, trivial, by rw [ht]; exact hP, hD⟩, hS.F ht⟩) hS.2.2 dJ7_fill_53178_20
    | succ d ih =>
      intro i hi H locs ls hP hD hS hl
      refine lv_iload_n hx hb dJ7_fill_53178_5 rfl (lv_at hl 1 rfl) ?_
      refine lv_iload_n hx hb dJ7_fill_53178_6 rfl (lv_at hl 0 rfl) ?_
      refine lv_icmp_ge (tgt := 20) hx hb dJ7_fill_53178_7 (by decide) (fun c9 => absurd c9 (nI_ge (by omega) (by omega))) (fun _ => ?_)
      refine lv_aload_n hx hb dJ7_fill_53178_10 rfl (lv_at hl 2 rfl) ?_
      refine lv_iload_n hx hb dJ7_fill_53178_11 rfl (lv_at hl 1 rfl) ?_
      refine lv_iload_n hx hb dJ7_fill_53178_12 rfl (lv_at hl 3 rfl) ?_
      refine va_iast hx hb hK hP hD hS 0 0 rfl rfl (vp_in_nI (by omega) (by omega)) dJ7_fill_53178_13 (fun H1 locs1 hP1 hD1 hS1 => ?_)
      refine lv_iinc (v := nI (i + 1)) (lv' := [(2, .int (nI (i + 1))), (3, .int (nI n)), (0, .ref a), (1, .int v)]) hx hb dJ7_fill_53178_14 hl (k := 1) rfl (nI_1 i) (by decide) rfl (fun ls hl => ?_)
      refine lv_goto (tgt := 5) hx hb dJ7_fill_53178_17 (by decide) ?_
      have e1 : upd (ct_fl i v f) (nI i).toNatClampNeg v = ct_fl (i + 1) v f := by rw [nI_clamp (by omega), ct_fl_step]
      have hP2 : va_P D vwCl [(a, .inl (cs.1, n, .inl (upd (ct_fl i v f) (nI i).toNatClampNeg v)))] H1 := hP1
      have hD2 : va_D A [(a, .inl (cs.1, n, .inl (upd (ct_fl i v f) (nI i).toNatClampNeg v)))] := hD1
      rw [e1] at hP2 hD2
      exact ih (i + 1) (by omega) H1 locs1 ls hP2 hD2 hS1 (lv_sub hl [1, 0, 2, 3] rfl)
  have h00 : ct_fl 0 v f = f := by funext j; simp [ct_fl]
  refine lv_iconst (v := 0) hx hb dJ7_fill_53178_0 (by decide) ?_
  refine lv_istore_n (lv' := [(2, .int 0), (0, .ref a), (1, .int v)]) hx hb dJ7_fill_53178_1 rfl hl (by decide) rfl (fun ls hl => ?_)
  refine lv_aload_n hx hb dJ7_fill_53178_2 rfl (lv_at hl 1 rfl) ?_
  refine va_alen (v := nI n) hx hb hK hP 0 0 rfl rfl rfl dJ7_fill_53178_3 ?_
  refine lv_istore_n (lv' := [(3, .int (nI n)), (2, .int 0), (0, .ref a), (1, .int v)]) hx hb dJ7_fill_53178_4 rfl hl (by decide) rfl (fun ls hl => ?_)
  refine main n 0 (by omega) s.heap [] ls (by rw [h00]; exact hP) (by rw [h00]; exact hD) hS (by rw [nI_0]; exact hl)

theorem dX0_init_0 : decode cX0_init 0 = .ok (.aload_n 0, 1) := by decide +kernel
theorem dX0_init_1 : decode cX0_init 1 = .ok (.invokespecial 3, 3) := by decide +kernel
set_option maxRecDepth 100000 in
theorem cw_186 : Cond.methodLink RX0 3 objectInit ∈ am_GW := am_in_ok (i := 186) (by decide +kernel)
set_option maxRecDepth 100000 in
theorem cw_126 : Cond.instanceMethod objectInit ∈ am_GW := am_in_ok (i := 126) (by decide +kernel)
set_option maxRecDepth 100000 in
theorem cw_127 : Cond.code objectInit ⟨#[0xb1]⟩ 1 none ∈ am_GW := am_in_ok (i := 127) (by decide +kernel)
theorem dX0_init_4 : decode cX0_init 4 = .ok (.aload_n 0, 1) := by decide +kernel
theorem dX0_init_5 : decode cX0_init 5 = .ok (.bipush 40, 2) := by decide +kernel
theorem dX0_init_7 : decode cX0_init 7 = .ok (.newarray .int, 2) := by decide +kernel
set_option maxRecDepth 100000 in
theorem cw_164 : Cond.arrayClass .int ∈ am_GW := am_in_ok (i := 164) (by decide +kernel)
theorem dX0_init_9 : decode cX0_init 9 = .ok (.putfield 9, 3) := by decide +kernel
set_option maxRecDepth 100000 in
theorem cw_187 : Cond.fieldLink RX0 9 "DoorCodes$Items" "letters" "[I" ∈ am_GW := am_in_ok (i := 187) (by decide +kernel)
theorem dX0_init_12 : decode cX0_init 12 = .ok (.aload_n 0, 1) := by decide +kernel
theorem dX0_init_13 : decode cX0_init 13 = .ok (.bipush 40, 2) := by decide +kernel
theorem dX0_init_15 : decode cX0_init 15 = .ok (.newarray .int, 2) := by decide +kernel
theorem dX0_init_17 : decode cX0_init 17 = .ok (.putfield 15, 3) := by decide +kernel
set_option maxRecDepth 100000 in
theorem cw_188 : Cond.fieldLink RX0 15 "DoorCodes$Items" "firsts" "[I" ∈ am_GW := am_in_ok (i := 188) (by decide +kernel)
theorem dX0_init_20 : decode cX0_init 20 = .ok (.aload_n 0, 1) := by decide +kernel
theorem dX0_init_21 : decode cX0_init 21 = .ok (.bipush 40, 2) := by decide +kernel
theorem dX0_init_23 : decode cX0_init 23 = .ok (.newarray .int, 2) := by decide +kernel
theorem dX0_init_25 : decode cX0_init 25 = .ok (.putfield 18, 3) := by decide +kernel
set_option maxRecDepth 100000 in
theorem cw_189 : Cond.fieldLink RX0 18 "DoorCodes$Items" "seconds" "[I" ∈ am_GW := am_in_ok (i := 189) (by decide +kernel)
theorem dX0_init_28 : decode cX0_init 28 = .ok (.return_, 1) := by decide +kernel
set_option maxHeartbeats 4000000 in
set_option maxRecDepth 100000 in
/-- a new DoorCodes.Items -/
theorem ct_X0_init (l : Launch) (D : va_G) (cs : am_Cs) (h0 sz : Nat) : Met l yX0_init (.code yX0_init cX0_init 1 none :: am_GW) ({ frames := 1, cells := 3, slots := 120, locals := 40 }) (va_Pc [.ref h0] (ct_Pre D cs sz [(h0, .inr (0, [.null, .null, .null, .int 0]))])) (va_Qv (fun _ : Unit => True) (fun _ t => ∃ (q7 q15 q23 : Nat), va_P D vwCl [(h0, .inr (0, [.ref q7, .ref q15, .ref q23, .int 0])), (q7, .inl (cs.1, 40, .inl (fun _ => 0))), (q15, .inl (cs.1, 40, .inl (fun _ => 0))), (q23, .inl (cs.1, 40, .inl (fun _ => 0)))] t.heap ∧ va_D (va_A [(h0, .inr (0, [.null, .null, .null, .int 0]))] sz) [(h0, .inr (0, [.ref q7, .ref q15, .ref q23, .int 0])), (q7, .inl (cs.1, 40, .inl (fun _ => 0))), (q15, .inl (cs.1, 40, .inl (fun _ => 0))), (q23, .inl (cs.1, 40, .inl (fun _ => 0)))]) (va_A [(h0, .inr (0, [.null, .null, .null, .int 0]))] sz)) 3 120 (va_A [(h0, .inr (0, [.null, .null, .null, .int 0]))] sz) := by
  refine Met.ofW (cc := cX0_init) (maxL := 1) (ret := none) (by decide) rfl ?_
  intro p e s m args below meth c s₁ B hml hv
  obtain ⟨rfl, hsz, hP, hK, hD0, hN, hAO⟩ := hv
  have hx := B.exec
  have hb := B.bytes
  have hr := B.returns
  have hts : ∀ w ∈ am_GW, w.before _ s = true := fun w hw => atoms_spec (ws := (.code yX0_init cX0_init 1 none :: am_GW)) B.pre w (List.mem_cons_of_mem _ hw)
  have hown : s.vm.findClass RX0 = some m.cls := findClass_of_methodNamed B.named
  have hlocks := B.notSynchronized
  have hin : meth.name = "<init>" := (name_of_methodNamed B.named B.method).1
  subst hsz
  have hD := hD0.self (sz := s.heap.size)
  generalize hAe : va_A [(h0, .inr (0, [.null, .null, .null, .int 0]))] s.heap.size = A at hD ⊢
  have hA : ∀ q : Nat, s.heap.size ≤ q → A q := fun q h => by rw [← hAe]; exact Or.inr h
  have hS : va_S A s.heap s.heap [] := va_S.rf
  have hl := lv_entry ([.ref h0]) (n := 1) (Nat.le_of_ble_eq_true rfl)
  rw [lg_entry_eq]
  generalize (lg_sl ([.ref h0]) ++ List.replicate (1 - (lg_sl ([.ref h0])).length) Slot.unset).toArray = ls at hl ⊢
  have hl : lv_has ls 1 [(0, .ref h0)] := hl
  refine lv_aload_n hx hb dX0_init_0 rfl (lv_at hl 0 rfl) ?_
  refine W.objInit hx hb hown (hts _ cw_186) (hts _ cw_126) (hts _ cw_127) rfl (by rw [hml]; exact hl.1) rfl dX0_init_1 (Nat.le_of_ble_eq_true rfl) (Nat.le_of_ble_eq_true rfl) ?_
  refine W.eq (g2 := F0 m 4 ls []) rfl ?_
  refine lv_aload_n hx hb dX0_init_4 rfl (lv_at hl 0 rfl) ?_
  refine lv_bipush (v := 40) hx hb dX0_init_5 (by decide) ?_
  refine ct_newint (N' := 40) hx hb (hts _ cw_164) hK hP hD hS hA (by decide) (by decide) (by decide) (by decide) (by decide) dX0_init_7 (fun q7 H hP hD hS => ?_)
  refine W.widen (k := 1) (n := 40) (by decide) (by decide) ?_
  refine va_putF (D := D) (ci := 0) (v := .ref q7) (ty := .array .int) (C := RX0) (T := TX0) (N := 4) hx hb hts (am_uws (ci := 0) (by decide)) tyX0 tyX0_ok nmX0 hown hK hP hD hS 0 rfl rfl 0 (by decide) (hts _ cw_187) (fun _ h9 => h9) rfl hin rfl (by decide +kernel) rfl rfl (Nat.le_of_ble_eq_true rfl) dX0_init_9 (fun H locs hP hD hS => ?_)
  have hP : va_P D vwCl [(h0, .inr (0, [.ref q7, .null, .null, .int 0])), (q7, .inl (cs.1, 40, .inl (fun _ => 0)))] H := hP
  have hD : va_D A [(h0, .inr (0, [.ref q7, .null, .null, .int 0])), (q7, .inl (cs.1, 40, .inl (fun _ => 0)))] := hD
  refine lv_aload_n hx hb dX0_init_12 rfl (lv_at hl 0 rfl) ?_
  refine lv_bipush (v := 40) hx hb dX0_init_13 (by decide) ?_
  refine ct_newint (N' := 40) hx hb (hts _ cw_164) hK hP hD hS hA (by decide) (by decide) (by decide) (by decide) (by decide) dX0_init_15 (fun q15 H hP hD hS => ?_)
  refine W.widen (k := 2) (n := 80) (by decide) (by decide) ?_
  refine va_putF (D := D) (ci := 0) (v := .ref q15) (ty := .array .int) (C := RX0) (T := TX0) (N := 4) hx hb hts (am_uws (ci := 0) (by decide)) tyX0 tyX0_ok nmX0 hown hK hP hD hS 0 rfl rfl 1 (by decide) (hts _ cw_188) (fun _ h9 => h9) rfl hin rfl (by decide +kernel) rfl rfl (Nat.le_of_ble_eq_true rfl) dX0_init_17 (fun H locs hP hD hS => ?_)
  have hP : va_P D vwCl [(h0, .inr (0, [.ref q7, .ref q15, .null, .int 0])), (q7, .inl (cs.1, 40, .inl (fun _ => 0))), (q15, .inl (cs.1, 40, .inl (fun _ => 0)))] H := hP
  have hD : va_D A [(h0, .inr (0, [.ref q7, .ref q15, .null, .int 0])), (q7, .inl (cs.1, 40, .inl (fun _ => 0))), (q15, .inl (cs.1, 40, .inl (fun _ => 0)))] := hD
  refine lv_aload_n hx hb dX0_init_20 rfl (lv_at hl 0 rfl) ?_
  refine lv_bipush (v := 40) hx hb dX0_init_21 (by decide) ?_
  refine ct_newint (N' := 40) hx hb (hts _ cw_164) hK hP hD hS hA (by decide) (by decide) (by decide) (by decide) (by decide) dX0_init_23 (fun q23 H hP hD hS => ?_)
  refine W.widen (k := 3) (n := 120) (by decide) (by decide) ?_
  refine va_putF (D := D) (ci := 0) (v := .ref q23) (ty := .array .int) (C := RX0) (T := TX0) (N := 4) hx hb hts (am_uws (ci := 0) (by decide)) tyX0 tyX0_ok nmX0 hown hK hP hD hS 0 rfl rfl 2 (by decide) (hts _ cw_189) (fun _ h9 => h9) rfl hin rfl (by decide +kernel) rfl rfl (Nat.le_of_ble_eq_true rfl) dX0_init_25 (fun H locs hP hD hS => ?_)
  have hP : va_P D vwCl [(h0, .inr (0, [.ref q7, .ref q15, .ref q23, .int 0])), (q7, .inl (cs.1, 40, .inl (fun _ => 0))), (q15, .inl (cs.1, 40, .inl (fun _ => 0))), (q23, .inl (cs.1, 40, .inl (fun _ => 0)))] H := hP
  have hD : va_D A [(h0, .inr (0, [.ref q7, .ref q15, .ref q23, .int 0])), (q7, .inl (cs.1, 40, .inl (fun _ => 0))), (q15, .inl (cs.1, 40, .inl (fun _ => 0))), (q23, .inl (cs.1, 40, .inl (fun _ => 0)))] := hD
  exact W.vret hx hb hr (fun t ht hW => ⟨⟨(), rfl, trivial, q7, q15, q23, by rw [ht]; exact hP, hD⟩, hS.F ht⟩) hS.2.2 dX0_init_28
theorem dX1_init_0 : decode cX1_init 0 = .ok (.aload_n 0, 1) := by decide +kernel
theorem dX1_init_1 : decode cX1_init 1 = .ok (.invokespecial 3, 3) := by decide +kernel
set_option maxRecDepth 100000 in
theorem cw_206 : Cond.methodLink RX1 3 objectInit ∈ am_GW := am_in_ok (i := 206) (by decide +kernel)
theorem dX1_init_4 : decode cX1_init 4 = .ok (.aload_n 0, 1) := by decide +kernel
theorem dX1_init_5 : decode cX1_init 5 = .ok (.bipush 36, 2) := by decide +kernel
theorem dX1_init_7 : decode cX1_init 7 = .ok (.newarray .int, 2) := by decide +kernel
theorem dX1_init_9 : decode cX1_init 9 = .ok (.putfield 9, 3) := by decide +kernel
set_option maxRecDepth 100000 in
theorem cw_207 : Cond.fieldLink RX1 9 "DoorCodes$Misreads" "hundredths" "[I" ∈ am_GW := am_in_ok (i := 207) (by decide +kernel)
theorem dX1_init_12 : decode cX1_init 12 = .ok (.return_, 1) := by decide +kernel
set_option maxHeartbeats 4000000 in
set_option maxRecDepth 100000 in
/-- a new DoorCodes.Misreads -/
theorem ct_X1_init (l : Launch) (D : va_G) (cs : am_Cs) (h0 sz : Nat) : Met l yX1_init (.code yX1_init cX1_init 1 none :: am_GW) ({ frames := 1, cells := 1, slots := 36, locals := 40 }) (va_Pc [.ref h0] (ct_Pre D cs sz [(h0, .inr (1, [.null]))])) (va_Qv (fun _ : Unit => True) (fun _ t => ∃ (q7 : Nat), va_P D vwCl [(h0, .inr (1, [.ref q7])), (q7, .inl (cs.1, 36, .inl (fun _ => 0)))] t.heap ∧ va_D (va_A [(h0, .inr (1, [.null]))] sz) [(h0, .inr (1, [.ref q7])), (q7, .inl (cs.1, 36, .inl (fun _ => 0)))]) (va_A [(h0, .inr (1, [.null]))] sz)) 1 36 (va_A [(h0, .inr (1, [.null]))] sz) := by
  refine Met.ofW (cc := cX1_init) (maxL := 1) (ret := none) (by decide) rfl ?_
  intro p e s m args below meth c s₁ B hml hv
  obtain ⟨rfl, hsz, hP, hK, hD0, hN, hAO⟩ := hv
  have hx := B.exec
  have hb := B.bytes
  have hr := B.returns
  have hts : ∀ w ∈ am_GW, w.before _ s = true := fun w hw => atoms_spec (ws := (.code yX1_init cX1_init 1 none :: am_GW)) B.pre w (List.mem_cons_of_mem _ hw)
  have hown : s.vm.findClass RX1 = some m.cls := findClass_of_methodNamed B.named
  have hlocks := B.notSynchronized
  have hin : meth.name = "<init>" := (name_of_methodNamed B.named B.method).1
  subst hsz
  have hD := hD0.self (sz := s.heap.size)
  generalize hAe : va_A [(h0, .inr (1, [.null]))] s.heap.size = A at hD ⊢
  have hA : ∀ q : Nat, s.heap.size ≤ q → A q := fun q h => by rw [← hAe]; exact Or.inr h
  have hS : va_S A s.heap s.heap [] := va_S.rf
  have hl := lv_entry ([.ref h0]) (n := 1) (Nat.le_of_ble_eq_true rfl)
  rw [lg_entry_eq]
  generalize (lg_sl ([.ref h0]) ++ List.replicate (1 - (lg_sl ([.ref h0])).length) Slot.unset).toArray = ls at hl ⊢
  have hl : lv_has ls 1 [(0, .ref h0)] := hl
  refine lv_aload_n hx hb dX1_init_0 rfl (lv_at hl 0 rfl) ?_
  refine W.objInit hx hb hown (hts _ cw_206) (hts _ cw_126) (hts _ cw_127) rfl (by rw [hml]; exact hl.1) rfl dX1_init_1 (Nat.le_of_ble_eq_true rfl) (Nat.le_of_ble_eq_true rfl) ?_
  refine W.eq (g2 := F0 m 4 ls []) rfl ?_
  refine lv_aload_n hx hb dX1_init_4 rfl (lv_at hl 0 rfl) ?_
  refine lv_bipush (v := 36) hx hb dX1_init_5 (by decide) ?_
  refine ct_newint (N' := 36) hx hb (hts _ cw_164) hK hP hD hS hA (by decide) (by decide) (by decide) (by decide) (by decide) dX1_init_7 (fun q7 H hP hD hS => ?_)
  refine W.widen (k := 1) (n := 36) (by decide) (by decide) ?_
  refine va_putF (D := D) (ci := 1) (v := .ref q7) (ty := .array .int) (C := RX1) (T := TX1) (N := 1) hx hb hts (am_uws (ci := 1) (by decide)) tyX1 tyX1_ok nmX1 hown hK hP hD hS 0 rfl rfl 0 (by decide) (hts _ cw_207) (fun _ h9 => h9) rfl hin rfl (by decide +kernel) rfl rfl (Nat.le_of_ble_eq_true rfl) dX1_init_9 (fun H locs hP hD hS => ?_)
  have hP : va_P D vwCl [(h0, .inr (1, [.ref q7])), (q7, .inl (cs.1, 36, .inl (fun _ => 0)))] H := hP
  have hD : va_D A [(h0, .inr (1, [.ref q7])), (q7, .inl (cs.1, 36, .inl (fun _ => 0)))] := hD
  exact W.vret hx hb hr (fun t ht hW => ⟨⟨(), rfl, trivial, q7, by rw [ht]; exact hP, hD⟩, hS.F ht⟩) hS.2.2 dX1_init_12
theorem dX2_init_0 : decode cX2_init 0 = .ok (.aload_n 0, 1) := by decide +kernel
theorem dX2_init_1 : decode cX2_init 1 = .ok (.invokespecial 3, 3) := by decide +kernel
set_option maxRecDepth 100000 in
theorem cw_307 : Cond.methodLink RX2 3 objectInit ∈ am_GW := am_in_ok (i := 307) (by decide +kernel)
theorem dX2_init_4 : decode cX2_init 4 = .ok (.aload_n 0, 1) := by decide +kernel
theorem dX2_init_5 : decode cX2_init 5 = .ok (.bipush 9, 2) := by decide +kernel
theorem dX2_init_7 : decode cX2_init 7 = .ok (.newarray .int, 2) := by decide +kernel
theorem dX2_init_9 : decode cX2_init 9 = .ok (.putfield 9, 3) := by decide +kernel
set_option maxRecDepth 100000 in
theorem cw_308 : Cond.fieldLink RX2 9 "DoorCodes$Rounder" "weights" "[I" ∈ am_GW := am_in_ok (i := 308) (by decide +kernel)
theorem dX2_init_12 : decode cX2_init 12 = .ok (.aload_n 0, 1) := by decide +kernel
theorem dX2_init_13 : decode cX2_init 13 = .ok (.sipush 512, 3) := by decide +kernel
theorem dX2_init_16 : decode cX2_init 16 = .ok (.newarray .int, 2) := by decide +kernel
theorem dX2_init_18 : decode cX2_init 18 = .ok (.putfield 15, 3) := by decide +kernel
set_option maxRecDepth 100000 in
theorem cw_309 : Cond.fieldLink RX2 15 "DoorCodes$Rounder" "loads" "[I" ∈ am_GW := am_in_ok (i := 309) (by decide +kernel)
theorem dX2_init_21 : decode cX2_init 21 = .ok (.aload_n 0, 1) := by decide +kernel
theorem dX2_init_22 : decode cX2_init 22 = .ok (.sipush 512, 3) := by decide +kernel
theorem dX2_init_25 : decode cX2_init 25 = .ok (.newarray .int, 2) := by decide +kernel
theorem dX2_init_27 : decode cX2_init 27 = .ok (.putfield 18, 3) := by decide +kernel
set_option maxRecDepth 100000 in
theorem cw_310 : Cond.fieldLink RX2 18 "DoorCodes$Rounder" "keys" "[I" ∈ am_GW := am_in_ok (i := 310) (by decide +kernel)
theorem dX2_init_30 : decode cX2_init 30 = .ok (.return_, 1) := by decide +kernel
set_option maxHeartbeats 4000000 in
set_option maxRecDepth 100000 in
/-- a new DoorCodes.Rounder -/
theorem ct_X2_init (l : Launch) (D : va_G) (cs : am_Cs) (h0 sz : Nat) : Met l yX2_init (.code yX2_init cX2_init 1 none :: am_GW) ({ frames := 1, cells := 3, slots := 1033, locals := 40 }) (va_Pc [.ref h0] (ct_Pre D cs sz [(h0, .inr (2, [.null, .null, .null, .int 0]))])) (va_Qv (fun _ : Unit => True) (fun _ t => ∃ (q7 q16 q25 : Nat), va_P D vwCl [(h0, .inr (2, [.ref q7, .ref q16, .ref q25, .int 0])), (q7, .inl (cs.1, 9, .inl (fun _ => 0))), (q16, .inl (cs.1, 512, .inl (fun _ => 0))), (q25, .inl (cs.1, 512, .inl (fun _ => 0)))] t.heap ∧ va_D (va_A [(h0, .inr (2, [.null, .null, .null, .int 0]))] sz) [(h0, .inr (2, [.ref q7, .ref q16, .ref q25, .int 0])), (q7, .inl (cs.1, 9, .inl (fun _ => 0))), (q16, .inl (cs.1, 512, .inl (fun _ => 0))), (q25, .inl (cs.1, 512, .inl (fun _ => 0)))]) (va_A [(h0, .inr (2, [.null, .null, .null, .int 0]))] sz)) 3 1033 (va_A [(h0, .inr (2, [.null, .null, .null, .int 0]))] sz) := by
  refine Met.ofW (cc := cX2_init) (maxL := 1) (ret := none) (by decide) rfl ?_
  intro p e s m args below meth c s₁ B hml hv
  obtain ⟨rfl, hsz, hP, hK, hD0, hN, hAO⟩ := hv
  have hx := B.exec
  have hb := B.bytes
  have hr := B.returns
  have hts : ∀ w ∈ am_GW, w.before _ s = true := fun w hw => atoms_spec (ws := (.code yX2_init cX2_init 1 none :: am_GW)) B.pre w (List.mem_cons_of_mem _ hw)
  have hown : s.vm.findClass RX2 = some m.cls := findClass_of_methodNamed B.named
  have hlocks := B.notSynchronized
  have hin : meth.name = "<init>" := (name_of_methodNamed B.named B.method).1
  subst hsz
  have hD := hD0.self (sz := s.heap.size)
  generalize hAe : va_A [(h0, .inr (2, [.null, .null, .null, .int 0]))] s.heap.size = A at hD ⊢
  have hA : ∀ q : Nat, s.heap.size ≤ q → A q := fun q h => by rw [← hAe]; exact Or.inr h
  have hS : va_S A s.heap s.heap [] := va_S.rf
  have hl := lv_entry ([.ref h0]) (n := 1) (Nat.le_of_ble_eq_true rfl)
  rw [lg_entry_eq]
  generalize (lg_sl ([.ref h0]) ++ List.replicate (1 - (lg_sl ([.ref h0])).length) Slot.unset).toArray = ls at hl ⊢
  have hl : lv_has ls 1 [(0, .ref h0)] := hl
  refine lv_aload_n hx hb dX2_init_0 rfl (lv_at hl 0 rfl) ?_
  refine W.objInit hx hb hown (hts _ cw_307) (hts _ cw_126) (hts _ cw_127) rfl (by rw [hml]; exact hl.1) rfl dX2_init_1 (Nat.le_of_ble_eq_true rfl) (Nat.le_of_ble_eq_true rfl) ?_
  refine W.eq (g2 := F0 m 4 ls []) rfl ?_
  refine lv_aload_n hx hb dX2_init_4 rfl (lv_at hl 0 rfl) ?_
  refine lv_bipush (v := 9) hx hb dX2_init_5 (by decide) ?_
  refine ct_newint (N' := 9) hx hb (hts _ cw_164) hK hP hD hS hA (by decide) (by decide) (by decide) (by decide) (by decide) dX2_init_7 (fun q7 H hP hD hS => ?_)
  refine W.widen (k := 1) (n := 9) (by decide) (by decide) ?_
  refine va_putF (D := D) (ci := 2) (v := .ref q7) (ty := .array .int) (C := RX2) (T := TX2) (N := 4) hx hb hts (am_uws (ci := 2) (by decide)) tyX2 tyX2_ok nmX2 hown hK hP hD hS 0 rfl rfl 0 (by decide) (hts _ cw_308) (fun _ h9 => h9) rfl hin rfl (by decide +kernel) rfl rfl (Nat.le_of_ble_eq_true rfl) dX2_init_9 (fun H locs hP hD hS => ?_)
  have hP : va_P D vwCl [(h0, .inr (2, [.ref q7, .null, .null, .int 0])), (q7, .inl (cs.1, 9, .inl (fun _ => 0)))] H := hP
  have hD : va_D A [(h0, .inr (2, [.ref q7, .null, .null, .int 0])), (q7, .inl (cs.1, 9, .inl (fun _ => 0)))] := hD
  refine lv_aload_n hx hb dX2_init_12 rfl (lv_at hl 0 rfl) ?_
  refine lv_sipush (v := 512) hx hb dX2_init_13 (by decide) ?_
  refine ct_newint (N' := 512) hx hb (hts _ cw_164) hK hP hD hS hA (by decide) (by decide) (by decide) (by decide) (by decide) dX2_init_16 (fun q16 H hP hD hS => ?_)
  refine W.widen (k := 2) (n := 521) (by decide) (by decide) ?_
  refine va_putF (D := D) (ci := 2) (v := .ref q16) (ty := .array .int) (C := RX2) (T := TX2) (N := 4) hx hb hts (am_uws (ci := 2) (by decide)) tyX2 tyX2_ok nmX2 hown hK hP hD hS 0 rfl rfl 1 (by decide) (hts _ cw_309) (fun _ h9 => h9) rfl hin rfl (by decide +kernel) rfl rfl (Nat.le_of_ble_eq_true rfl) dX2_init_18 (fun H locs hP hD hS => ?_)
  have hP : va_P D vwCl [(h0, .inr (2, [.ref q7, .ref q16, .null, .int 0])), (q7, .inl (cs.1, 9, .inl (fun _ => 0))), (q16, .inl (cs.1, 512, .inl (fun _ => 0)))] H := hP
  have hD : va_D A [(h0, .inr (2, [.ref q7, .ref q16, .null, .int 0])), (q7, .inl (cs.1, 9, .inl (fun _ => 0))), (q16, .inl (cs.1, 512, .inl (fun _ => 0)))] := hD
  refine lv_aload_n hx hb dX2_init_21 rfl (lv_at hl 0 rfl) ?_
  refine lv_sipush (v := 512) hx hb dX2_init_22 (by decide) ?_
  refine ct_newint (N' := 512) hx hb (hts _ cw_164) hK hP hD hS hA (by decide) (by decide) (by decide) (by decide) (by decide) dX2_init_25 (fun q25 H hP hD hS => ?_)
  refine W.widen (k := 3) (n := 1033) (by decide) (by decide) ?_
  refine va_putF (D := D) (ci := 2) (v := .ref q25) (ty := .array .int) (C := RX2) (T := TX2) (N := 4) hx hb hts (am_uws (ci := 2) (by decide)) tyX2 tyX2_ok nmX2 hown hK hP hD hS 0 rfl rfl 2 (by decide) (hts _ cw_310) (fun _ h9 => h9) rfl hin rfl (by decide +kernel) rfl rfl (Nat.le_of_ble_eq_true rfl) dX2_init_27 (fun H locs hP hD hS => ?_)
  have hP : va_P D vwCl [(h0, .inr (2, [.ref q7, .ref q16, .ref q25, .int 0])), (q7, .inl (cs.1, 9, .inl (fun _ => 0))), (q16, .inl (cs.1, 512, .inl (fun _ => 0))), (q25, .inl (cs.1, 512, .inl (fun _ => 0)))] H := hP
  have hD : va_D A [(h0, .inr (2, [.ref q7, .ref q16, .ref q25, .int 0])), (q7, .inl (cs.1, 9, .inl (fun _ => 0))), (q16, .inl (cs.1, 512, .inl (fun _ => 0))), (q25, .inl (cs.1, 512, .inl (fun _ => 0)))] := hD
  exact W.vret hx hb hr (fun t ht hW => ⟨⟨(), rfl, trivial, q7, q16, q25, by rw [ht]; exact hP, hD⟩, hS.F ht⟩) hS.2.2 dX2_init_30
theorem dX3_init_0 : decode cX3_init 0 = .ok (.aload_n 0, 1) := by decide +kernel
theorem dX3_init_1 : decode cX3_init 1 = .ok (.invokespecial 3, 3) := by decide +kernel
set_option maxRecDepth 100000 in
theorem cw_216 : Cond.methodLink RX3 3 objectInit ∈ am_GW := am_in_ok (i := 216) (by decide +kernel)
theorem dX3_init_4 : decode cX3_init 4 = .ok (.aload_n 0, 1) := by decide +kernel
theorem dX3_init_5 : decode cX3_init 5 = .ok (.sipush 512, 3) := by decide +kernel
theorem dX3_init_8 : decode cX3_init 8 = .ok (.newarray .boolean, 2) := by decide +kernel
set_option maxRecDepth 100000 in
theorem cw_250 : Cond.arrayClass .boolean ∈ am_GW := am_in_ok (i := 250) (by decide +kernel)
theorem dX3_init_10 : decode cX3_init 10 = .ok (.putfield 9, 3) := by decide +kernel
set_option maxRecDepth 100000 in
theorem cw_219 : Cond.fieldLink RX3 9 "DoorCodes$Shaper" "rights" "[Z" ∈ am_GW := am_in_ok (i := 219) (by decide +kernel)
theorem dX3_init_13 : decode cX3_init 13 = .ok (.aload_n 0, 1) := by decide +kernel
theorem dX3_init_14 : decode cX3_init 14 = .ok (.sipush 512, 3) := by decide +kernel
theorem dX3_init_17 : decode cX3_init 17 = .ok (.newarray .int, 2) := by decide +kernel
theorem dX3_init_19 : decode cX3_init 19 = .ok (.putfield 15, 3) := by decide +kernel
set_option maxRecDepth 100000 in
theorem cw_220 : Cond.fieldLink RX3 15 "DoorCodes$Shaper" "keys" "[I" ∈ am_GW := am_in_ok (i := 220) (by decide +kernel)
theorem dX3_init_22 : decode cX3_init 22 = .ok (.aload_n 0, 1) := by decide +kernel
theorem dX3_init_23 : decode cX3_init 23 = .ok (.sipush 512, 3) := by decide +kernel
theorem dX3_init_26 : decode cX3_init 26 = .ok (.newarray .int, 2) := by decide +kernel
theorem dX3_init_28 : decode cX3_init 28 = .ok (.putfield 19, 3) := by decide +kernel
set_option maxRecDepth 100000 in
theorem cw_221 : Cond.fieldLink RX3 19 "DoorCodes$Shaper" "parts" "[I" ∈ am_GW := am_in_ok (i := 221) (by decide +kernel)
theorem dX3_init_31 : decode cX3_init 31 = .ok (.aload_n 0, 1) := by decide +kernel
theorem dX3_init_32 : decode cX3_init 32 = .ok (.bipush 9, 2) := by decide +kernel
theorem dX3_init_34 : decode cX3_init 34 = .ok (.newarray .int, 2) := by decide +kernel
theorem dX3_init_36 : decode cX3_init 36 = .ok (.putfield 22, 3) := by decide +kernel
set_option maxRecDepth 100000 in
theorem cw_222 : Cond.fieldLink RX3 22 "DoorCodes$Shaper" "shapes" "[I" ∈ am_GW := am_in_ok (i := 222) (by decide +kernel)
theorem dX3_init_39 : decode cX3_init 39 = .ok (.aload_n 0, 1) := by decide +kernel
theorem dX3_init_40 : decode cX3_init 40 = .ok (.aload_n 1, 1) := by decide +kernel
theorem dX3_init_41 : decode cX3_init 41 = .ok (.putfield 25, 3) := by decide +kernel
set_option maxRecDepth 100000 in
theorem cw_217 : Cond.fieldLink RX3 25 "DoorCodes$Shaper" "streets" "LDoorCodes$Streets;" ∈ am_GW := am_in_ok (i := 217) (by decide +kernel)
theorem dX3_init_44 : decode cX3_init 44 = .ok (.aload_n 0, 1) := by decide +kernel
theorem dX3_init_45 : decode cX3_init 45 = .ok (.aload_n 2, 1) := by decide +kernel
theorem dX3_init_46 : decode cX3_init 46 = .ok (.putfield 29, 3) := by decide +kernel
set_option maxRecDepth 100000 in
theorem cw_218 : Cond.fieldLink RX3 29 "DoorCodes$Shaper" "rules" "LDoorCodes$Items;" ∈ am_GW := am_in_ok (i := 218) (by decide +kernel)
theorem dX3_init_49 : decode cX3_init 49 = .ok (.aload_n 0, 1) := by decide +kernel
theorem dX3_init_50 : decode cX3_init 50 = .ok (.iconst (-1), 1) := by decide +kernel
theorem dX3_init_51 : decode cX3_init 51 = .ok (.putfield 33, 3) := by decide +kernel
set_option maxRecDepth 100000 in
theorem cw_230 : Cond.fieldLink RX3 33 "DoorCodes$Shaper" "dayShaped" "I" ∈ am_GW := am_in_ok (i := 230) (by decide +kernel)
theorem dX3_init_54 : decode cX3_init 54 = .ok (.return_, 1) := by decide +kernel
set_option maxHeartbeats 4000000 in
set_option maxRecDepth 100000 in
/-- a new DoorCodes.Shaper -/
theorem ct_X3_init (l : Launch) (D : va_G) (cs : am_Cs) (h0 sz : Nat) (h1 h2 : Nat) : Met l yX3_init (.code yX3_init cX3_init 3 none :: am_GW) ({ frames := 1, cells := 4, slots := 1545, locals := 40 }) (va_Pc [.ref h0, .ref h1, .ref h2] (ct_Pre D cs sz [(h0, .inr (3, [.null, .null, .null, .null, .null, .null, .int 0, .int 0, .int 0]))])) (va_Qv (fun _ : Unit => True) (fun _ t => ∃ (q8 q17 q26 q34 : Nat), va_P D vwCl [(h0, .inr (3, [.ref h1, .ref h2, .ref q8, .ref q17, .ref q26, .ref q34, .int 0, .int 0, .int (-1)])), (q8, .inl (cs.2.2.1, 512, .inl (fun _ => 0))), (q17, .inl (cs.1, 512, .inl (fun _ => 0))), (q26, .inl (cs.1, 512, .inl (fun _ => 0))), (q34, .inl (cs.1, 9, .inl (fun _ => 0)))] t.heap ∧ va_D (va_A [(h0, .inr (3, [.null, .null, .null, .null, .null, .null, .int 0, .int 0, .int 0]))] sz) [(h0, .inr (3, [.ref h1, .ref h2, .ref q8, .ref q17, .ref q26, .ref q34, .int 0, .int 0, .int (-1)])), (q8, .inl (cs.2.2.1, 512, .inl (fun _ => 0))), (q17, .inl (cs.1, 512, .inl (fun _ => 0))), (q26, .inl (cs.1, 512, .inl (fun _ => 0))), (q34, .inl (cs.1, 9, .inl (fun _ => 0)))]) (va_A [(h0, .inr (3, [.null, .null, .null, .null, .null, .null, .int 0, .int 0, .int 0]))] sz)) 4 1545 (va_A [(h0, .inr (3, [.null, .null, .null, .null, .null, .null, .int 0, .int 0, .int 0]))] sz) := by
  refine Met.ofW (cc := cX3_init) (maxL := 3) (ret := none) (by decide) rfl ?_
  intro p e s m args below meth c s₁ B hml hv
  obtain ⟨rfl, hsz, hP, hK, hD0, hN, hAO⟩ := hv
  have hx := B.exec
  have hb := B.bytes
  have hr := B.returns
  have hts : ∀ w ∈ am_GW, w.before _ s = true := fun w hw => atoms_spec (ws := (.code yX3_init cX3_init 3 none :: am_GW)) B.pre w (List.mem_cons_of_mem _ hw)
  have hown : s.vm.findClass RX3 = some m.cls := findClass_of_methodNamed B.named
  have hlocks := B.notSynchronized
  have hin : meth.name = "<init>" := (name_of_methodNamed B.named B.method).1
  subst hsz
  have hD := hD0.self (sz := s.heap.size)
  generalize hAe : va_A [(h0, .inr (3, [.null, .null, .null, .null, .null, .null, .int 0, .int 0, .int 0]))] s.heap.size = A at hD ⊢
  have hA : ∀ q : Nat, s.heap.size ≤ q → A q := fun q h => by rw [← hAe]; exact Or.inr h
  have hS : va_S A s.heap s.heap [] := va_S.rf
  have hl := lv_entry ([.ref h0, .ref h1, .ref h2]) (n := 3) (Nat.le_of_ble_eq_true rfl)
  rw [lg_entry_eq]
  generalize (lg_sl ([.ref h0, .ref h1, .ref h2]) ++ List.replicate (3 - (lg_sl ([.ref h0, .ref h1, .ref h2])).length) Slot.unset).toArray = ls at hl ⊢
  have hl : lv_has ls 3 [(0, .ref h0), (1, .ref h1), (2, .ref h2)] := hl
  refine lv_aload_n hx hb dX3_init_0 rfl (lv_at hl 0 rfl) ?_
  refine W.objInit hx hb hown (hts _ cw_216) (hts _ cw_126) (hts _ cw_127) rfl (by rw [hml]; exact hl.1) rfl dX3_init_1 (Nat.le_of_ble_eq_true rfl) (Nat.le_of_ble_eq_true rfl) ?_
  refine W.eq (g2 := F0 m 4 ls []) rfl ?_
  refine lv_aload_n hx hb dX3_init_4 rfl (lv_at hl 0 rfl) ?_
  refine lv_sipush (v := 512) hx hb dX3_init_5 (by decide) ?_
  refine ct_newboolean (N' := 512) hx hb (hts _ cw_250) hK hP hD hS hA (by decide) (by decide) (by decide) (by decide) (by decide) dX3_init_8 (fun q8 H hP hD hS => ?_)
  refine W.widen (k := 1) (n := 512) (by decide) (by decide) ?_
  refine va_putF (D := D) (ci := 3) (v := .ref q8) (ty := .array .boolean) (C := RX3) (T := TX3) (N := 9) hx hb hts (am_uws (ci := 3) (by decide)) tyX3 tyX3_ok nmX3 hown hK hP hD hS 0 rfl rfl 2 (by decide) (hts _ cw_219) (fun _ h9 => h9) rfl hin rfl (by decide +kernel) rfl rfl (Nat.le_of_ble_eq_true rfl) dX3_init_10 (fun H locs hP hD hS => ?_)
  have hP : va_P D vwCl [(h0, .inr (3, [.null, .null, .ref q8, .null, .null, .null, .int 0, .int 0, .int 0])), (q8, .inl (cs.2.2.1, 512, .inl (fun _ => 0)))] H := hP
  have hD : va_D A [(h0, .inr (3, [.null, .null, .ref q8, .null, .null, .null, .int 0, .int 0, .int 0])), (q8, .inl (cs.2.2.1, 512, .inl (fun _ => 0)))] := hD
  refine lv_aload_n hx hb dX3_init_13 rfl (lv_at hl 0 rfl) ?_
  refine lv_sipush (v := 512) hx hb dX3_init_14 (by decide) ?_
  refine ct_newint (N' := 512) hx hb (hts _ cw_164) hK hP hD hS hA (by decide) (by decide) (by decide) (by decide) (by decide) dX3_init_17 (fun q17 H hP hD hS => ?_)
  refine W.widen (k := 2) (n := 1024) (by decide) (by decide) ?_
  refine va_putF (D := D) (ci := 3) (v := .ref q17) (ty := .array .int) (C := RX3) (T := TX3) (N := 9) hx hb hts (am_uws (ci := 3) (by decide)) tyX3 tyX3_ok nmX3 hown hK hP hD hS 0 rfl rfl 3 (by decide) (hts _ cw_220) (fun _ h9 => h9) rfl hin rfl (by decide +kernel) rfl rfl (Nat.le_of_ble_eq_true rfl) dX3_init_19 (fun H locs hP hD hS => ?_)
  have hP : va_P D vwCl [(h0, .inr (3, [.null, .null, .ref q8, .ref q17, .null, .null, .int 0, .int 0, .int 0])), (q8, .inl (cs.2.2.1, 512, .inl (fun _ => 0))), (q17, .inl (cs.1, 512, .inl (fun _ => 0)))] H := hP
  have hD : va_D A [(h0, .inr (3, [.null, .null, .ref q8, .ref q17, .null, .null, .int 0, .int 0, .int 0])), (q8, .inl (cs.2.2.1, 512, .inl (fun _ => 0))), (q17, .inl (cs.1, 512, .inl (fun _ => 0)))] := hD
  refine lv_aload_n hx hb dX3_init_22 rfl (lv_at hl 0 rfl) ?_
  refine lv_sipush (v := 512) hx hb dX3_init_23 (by decide) ?_
  refine ct_newint (N' := 512) hx hb (hts _ cw_164) hK hP hD hS hA (by decide) (by decide) (by decide) (by decide) (by decide) dX3_init_26 (fun q26 H hP hD hS => ?_)
  refine W.widen (k := 3) (n := 1536) (by decide) (by decide) ?_
  refine va_putF (D := D) (ci := 3) (v := .ref q26) (ty := .array .int) (C := RX3) (T := TX3) (N := 9) hx hb hts (am_uws (ci := 3) (by decide)) tyX3 tyX3_ok nmX3 hown hK hP hD hS 0 rfl rfl 4 (by decide) (hts _ cw_221) (fun _ h9 => h9) rfl hin rfl (by decide +kernel) rfl rfl (Nat.le_of_ble_eq_true rfl) dX3_init_28 (fun H locs hP hD hS => ?_)
  have hP : va_P D vwCl [(h0, .inr (3, [.null, .null, .ref q8, .ref q17, .ref q26, .null, .int 0, .int 0, .int 0])), (q8, .inl (cs.2.2.1, 512, .inl (fun _ => 0))), (q17, .inl (cs.1, 512, .inl (fun _ => 0))), (q26, .inl (cs.1, 512, .inl (fun _ => 0)))] H := hP
  have hD : va_D A [(h0, .inr (3, [.null, .null, .ref q8, .ref q17, .ref q26, .null, .int 0, .int 0, .int 0])), (q8, .inl (cs.2.2.1, 512, .inl (fun _ => 0))), (q17, .inl (cs.1, 512, .inl (fun _ => 0))), (q26, .inl (cs.1, 512, .inl (fun _ => 0)))] := hD
  refine lv_aload_n hx hb dX3_init_31 rfl (lv_at hl 0 rfl) ?_
  refine lv_bipush (v := 9) hx hb dX3_init_32 (by decide) ?_
  refine ct_newint (N' := 9) hx hb (hts _ cw_164) hK hP hD hS hA (by decide) (by decide) (by decide) (by decide) (by decide) dX3_init_34 (fun q34 H hP hD hS => ?_)
  refine W.widen (k := 4) (n := 1545) (by decide) (by decide) ?_
  refine va_putF (D := D) (ci := 3) (v := .ref q34) (ty := .array .int) (C := RX3) (T := TX3) (N := 9) hx hb hts (am_uws (ci := 3) (by decide)) tyX3 tyX3_ok nmX3 hown hK hP hD hS 0 rfl rfl 5 (by decide) (hts _ cw_222) (fun _ h9 => h9) rfl hin rfl (by decide +kernel) rfl rfl (Nat.le_of_ble_eq_true rfl) dX3_init_36 (fun H locs hP hD hS => ?_)
  have hP : va_P D vwCl [(h0, .inr (3, [.null, .null, .ref q8, .ref q17, .ref q26, .ref q34, .int 0, .int 0, .int 0])), (q8, .inl (cs.2.2.1, 512, .inl (fun _ => 0))), (q17, .inl (cs.1, 512, .inl (fun _ => 0))), (q26, .inl (cs.1, 512, .inl (fun _ => 0))), (q34, .inl (cs.1, 9, .inl (fun _ => 0)))] H := hP
  have hD : va_D A [(h0, .inr (3, [.null, .null, .ref q8, .ref q17, .ref q26, .ref q34, .int 0, .int 0, .int 0])), (q8, .inl (cs.2.2.1, 512, .inl (fun _ => 0))), (q17, .inl (cs.1, 512, .inl (fun _ => 0))), (q26, .inl (cs.1, 512, .inl (fun _ => 0))), (q34, .inl (cs.1, 9, .inl (fun _ => 0)))] := hD
  refine lv_aload_n hx hb dX3_init_39 rfl (lv_at hl 0 rfl) ?_
  refine lv_aload_n hx hb dX3_init_40 rfl (lv_at hl 1 rfl) ?_
  refine va_putF (D := D) (ci := 3) (v := .ref h1) (ty := .object "DoorCodes$Streets") (C := RX3) (T := TX3) (N := 9) hx hb hts (am_uws (ci := 3) (by decide)) tyX3 tyX3_ok nmX3 hown hK hP hD hS 0 rfl rfl 0 (by decide) (hts _ cw_217) (fun _ h9 => h9) rfl hin rfl (by decide +kernel) rfl rfl (Nat.le_of_ble_eq_true rfl) dX3_init_41 (fun H locs hP hD hS => ?_)
  have hP : va_P D vwCl [(h0, .inr (3, [.ref h1, .null, .ref q8, .ref q17, .ref q26, .ref q34, .int 0, .int 0, .int 0])), (q8, .inl (cs.2.2.1, 512, .inl (fun _ => 0))), (q17, .inl (cs.1, 512, .inl (fun _ => 0))), (q26, .inl (cs.1, 512, .inl (fun _ => 0))), (q34, .inl (cs.1, 9, .inl (fun _ => 0)))] H := hP
  have hD : va_D A [(h0, .inr (3, [.ref h1, .null, .ref q8, .ref q17, .ref q26, .ref q34, .int 0, .int 0, .int 0])), (q8, .inl (cs.2.2.1, 512, .inl (fun _ => 0))), (q17, .inl (cs.1, 512, .inl (fun _ => 0))), (q26, .inl (cs.1, 512, .inl (fun _ => 0))), (q34, .inl (cs.1, 9, .inl (fun _ => 0)))] := hD
  refine lv_aload_n hx hb dX3_init_44 rfl (lv_at hl 0 rfl) ?_
  refine lv_aload_n hx hb dX3_init_45 rfl (lv_at hl 2 rfl) ?_
  refine va_putF (D := D) (ci := 3) (v := .ref h2) (ty := .object "DoorCodes$Items") (C := RX3) (T := TX3) (N := 9) hx hb hts (am_uws (ci := 3) (by decide)) tyX3 tyX3_ok nmX3 hown hK hP hD hS 0 rfl rfl 1 (by decide) (hts _ cw_218) (fun _ h9 => h9) rfl hin rfl (by decide +kernel) rfl rfl (Nat.le_of_ble_eq_true rfl) dX3_init_46 (fun H locs hP hD hS => ?_)
  have hP : va_P D vwCl [(h0, .inr (3, [.ref h1, .ref h2, .ref q8, .ref q17, .ref q26, .ref q34, .int 0, .int 0, .int 0])), (q8, .inl (cs.2.2.1, 512, .inl (fun _ => 0))), (q17, .inl (cs.1, 512, .inl (fun _ => 0))), (q26, .inl (cs.1, 512, .inl (fun _ => 0))), (q34, .inl (cs.1, 9, .inl (fun _ => 0)))] H := hP
  have hD : va_D A [(h0, .inr (3, [.ref h1, .ref h2, .ref q8, .ref q17, .ref q26, .ref q34, .int 0, .int 0, .int 0])), (q8, .inl (cs.2.2.1, 512, .inl (fun _ => 0))), (q17, .inl (cs.1, 512, .inl (fun _ => 0))), (q26, .inl (cs.1, 512, .inl (fun _ => 0))), (q34, .inl (cs.1, 9, .inl (fun _ => 0)))] := hD
  refine lv_aload_n hx hb dX3_init_49 rfl (lv_at hl 0 rfl) ?_
  refine lv_iconst (v := (-1)) hx hb dX3_init_50 (by decide) ?_
  refine va_put (D := D) (ci := 3) (v := .int (-1)) (ty := .int) (C := RX3) (T := TX3) (N := 9) hx hb hts (am_uws (ci := 3) (by decide)) tyX3 tyX3_ok nmX3 hown hK hP hD hS 0 rfl rfl 8 (by decide) (hts _ cw_230) (fun _ h9 => h9) rfl (by decide +kernel) rfl rfl (Nat.le_of_ble_eq_true rfl) dX3_init_51 (fun H locs hP hD hS => ?_)
  have hP : va_P D vwCl [(h0, .inr (3, [.ref h1, .ref h2, .ref q8, .ref q17, .ref q26, .ref q34, .int 0, .int 0, .int (-1)])), (q8, .inl (cs.2.2.1, 512, .inl (fun _ => 0))), (q17, .inl (cs.1, 512, .inl (fun _ => 0))), (q26, .inl (cs.1, 512, .inl (fun _ => 0))), (q34, .inl (cs.1, 9, .inl (fun _ => 0)))] H := hP
  have hD : va_D A [(h0, .inr (3, [.ref h1, .ref h2, .ref q8, .ref q17, .ref q26, .ref q34, .int 0, .int 0, .int (-1)])), (q8, .inl (cs.2.2.1, 512, .inl (fun _ => 0))), (q17, .inl (cs.1, 512, .inl (fun _ => 0))), (q26, .inl (cs.1, 512, .inl (fun _ => 0))), (q34, .inl (cs.1, 9, .inl (fun _ => 0)))] := hD
  exact W.vret hx hb hr (fun t ht hW => ⟨⟨(), rfl, trivial, q8, q17, q26, q34, by rw [ht]; exact hP, hD⟩, hS.F ht⟩) hS.2.2 dX3_init_54
theorem dX4_init_0 : decode cX4_init 0 = .ok (.aload_n 0, 1) := by decide +kernel
theorem dX4_init_1 : decode cX4_init 1 = .ok (.invokespecial 3, 3) := by decide +kernel
set_option maxRecDepth 100000 in
theorem cw_133 : Cond.methodLink RX4 3 objectInit ∈ am_GW := am_in_ok (i := 133) (by decide +kernel)
theorem dX4_init_4 : decode cX4_init 4 = .ok (.aload_n 0, 1) := by decide +kernel
theorem dX4_init_5 : decode cX4_init 5 = .ok (.bipush 9, 2) := by decide +kernel
theorem dX4_init_7 : decode cX4_init 7 = .ok (.newarray .int, 2) := by decide +kernel
theorem dX4_init_9 : decode cX4_init 9 = .ok (.putfield 9, 3) := by decide +kernel
set_option maxRecDepth 100000 in
theorem cw_134 : Cond.fieldLink RX4 9 "DoorCodes$Streets" "doorsFirst" "[I" ∈ am_GW := am_in_ok (i := 134) (by decide +kernel)
theorem dX4_init_12 : decode cX4_init 12 = .ok (.aload_n 0, 1) := by decide +kernel
theorem dX4_init_13 : decode cX4_init 13 = .ok (.bipush 9, 2) := by decide +kernel
theorem dX4_init_15 : decode cX4_init 15 = .ok (.newarray .int, 2) := by decide +kernel
theorem dX4_init_17 : decode cX4_init 17 = .ok (.putfield 15, 3) := by decide +kernel
set_option maxRecDepth 100000 in
theorem cw_135 : Cond.fieldLink RX4 15 "DoorCodes$Streets" "growths" "[I" ∈ am_GW := am_in_ok (i := 135) (by decide +kernel)
theorem dX4_init_20 : decode cX4_init 20 = .ok (.aload_n 0, 1) := by decide +kernel
theorem dX4_init_21 : decode cX4_init 21 = .ok (.bipush 9, 2) := by decide +kernel
theorem dX4_init_23 : decode cX4_init 23 = .ok (.newarray .int, 2) := by decide +kernel
theorem dX4_init_25 : decode cX4_init 25 = .ok (.putfield 18, 3) := by decide +kernel
set_option maxRecDepth 100000 in
theorem cw_136 : Cond.fieldLink RX4 18 "DoorCodes$Streets" "lengths" "[I" ∈ am_GW := am_in_ok (i := 136) (by decide +kernel)
theorem dX4_init_28 : decode cX4_init 28 = .ok (.aload_n 0, 1) := by decide +kernel
theorem dX4_init_29 : decode cX4_init 29 = .ok (.bipush 9, 2) := by decide +kernel
theorem dX4_init_31 : decode cX4_init 31 = .ok (.newarray .int, 2) := by decide +kernel
theorem dX4_init_33 : decode cX4_init 33 = .ok (.putfield 21, 3) := by decide +kernel
set_option maxRecDepth 100000 in
theorem cw_137 : Cond.fieldLink RX4 21 "DoorCodes$Streets" "mails" "[I" ∈ am_GW := am_in_ok (i := 137) (by decide +kernel)
theorem dX4_init_36 : decode cX4_init 36 = .ok (.aload_n 0, 1) := by decide +kernel
theorem dX4_init_37 : decode cX4_init 37 = .ok (.bipush 81, 2) := by decide +kernel
theorem dX4_init_39 : decode cX4_init 39 = .ok (.newarray .int, 2) := by decide +kernel
theorem dX4_init_41 : decode cX4_init 41 = .ok (.putfield 24, 3) := by decide +kernel
set_option maxRecDepth 100000 in
theorem cw_138 : Cond.fieldLink RX4 24 "DoorCodes$Streets" "links" "[I" ∈ am_GW := am_in_ok (i := 138) (by decide +kernel)
theorem dX4_init_44 : decode cX4_init 44 = .ok (.aload_n 0, 1) := by decide +kernel
theorem dX4_init_45 : decode cX4_init 45 = .ok (.sipush 512, 3) := by decide +kernel
theorem dX4_init_48 : decode cX4_init 48 = .ok (.newarray .int, 2) := by decide +kernel
theorem dX4_init_50 : decode cX4_init 50 = .ok (.putfield 27, 3) := by decide +kernel
set_option maxRecDepth 100000 in
theorem cw_139 : Cond.fieldLink RX4 27 "DoorCodes$Streets" "least" "[I" ∈ am_GW := am_in_ok (i := 139) (by decide +kernel)
theorem dX4_init_53 : decode cX4_init 53 = .ok (.aload_n 0, 1) := by decide +kernel
theorem dX4_init_54 : decode cX4_init 54 = .ok (.sipush 4608, 3) := by decide +kernel
theorem dX4_init_57 : decode cX4_init 57 = .ok (.newarray .int, 2) := by decide +kernel
theorem dX4_init_59 : decode cX4_init 59 = .ok (.putfield 30, 3) := by decide +kernel
set_option maxRecDepth 100000 in
theorem cw_140 : Cond.fieldLink RX4 30 "DoorCodes$Streets" "leastFrom" "[I" ∈ am_GW := am_in_ok (i := 140) (by decide +kernel)
theorem dX4_init_62 : decode cX4_init 62 = .ok (.return_, 1) := by decide +kernel
set_option maxHeartbeats 4000000 in
set_option maxRecDepth 100000 in
/-- a new DoorCodes.Streets -/
theorem ct_X4_init (l : Launch) (D : va_G) (cs : am_Cs) (h0 sz : Nat) : Met l yX4_init (.code yX4_init cX4_init 1 none :: am_GW) ({ frames := 1, cells := 7, slots := 5237, locals := 40 }) (va_Pc [.ref h0] (ct_Pre D cs sz [(h0, .inr (4, [.null, .null, .null, .null, .null, .null, .null, .int 0, .int 0]))])) (va_Qv (fun _ : Unit => True) (fun _ t => ∃ (q7 q15 q23 q31 q39 q48 q57 : Nat), va_P D vwCl [(h0, .inr (4, [.ref q7, .ref q15, .ref q23, .ref q31, .ref q39, .ref q48, .ref q57, .int 0, .int 0])), (q7, .inl (cs.1, 9, .inl (fun _ => 0))), (q15, .inl (cs.1, 9, .inl (fun _ => 0))), (q23, .inl (cs.1, 9, .inl (fun _ => 0))), (q31, .inl (cs.1, 9, .inl (fun _ => 0))), (q39, .inl (cs.1, 81, .inl (fun _ => 0))), (q48, .inl (cs.1, 512, .inl (fun _ => 0))), (q57, .inl (cs.1, 4608, .inl (fun _ => 0)))] t.heap ∧ va_D (va_A [(h0, .inr (4, [.null, .null, .null, .null, .null, .null, .null, .int 0, .int 0]))] sz) [(h0, .inr (4, [.ref q7, .ref q15, .ref q23, .ref q31, .ref q39, .ref q48, .ref q57, .int 0, .int 0])), (q7, .inl (cs.1, 9, .inl (fun _ => 0))), (q15, .inl (cs.1, 9, .inl (fun _ => 0))), (q23, .inl (cs.1, 9, .inl (fun _ => 0))), (q31, .inl (cs.1, 9, .inl (fun _ => 0))), (q39, .inl (cs.1, 81, .inl (fun _ => 0))), (q48, .inl (cs.1, 512, .inl (fun _ => 0))), (q57, .inl (cs.1, 4608, .inl (fun _ => 0)))]) (va_A [(h0, .inr (4, [.null, .null, .null, .null, .null, .null, .null, .int 0, .int 0]))] sz)) 7 5237 (va_A [(h0, .inr (4, [.null, .null, .null, .null, .null, .null, .null, .int 0, .int 0]))] sz) := by
  refine Met.ofW (cc := cX4_init) (maxL := 1) (ret := none) (by decide) rfl ?_
  intro p e s m args below meth c s₁ B hml hv
  obtain ⟨rfl, hsz, hP, hK, hD0, hN, hAO⟩ := hv
  have hx := B.exec
  have hb := B.bytes
  have hr := B.returns
  have hts : ∀ w ∈ am_GW, w.before _ s = true := fun w hw => atoms_spec (ws := (.code yX4_init cX4_init 1 none :: am_GW)) B.pre w (List.mem_cons_of_mem _ hw)
  have hown : s.vm.findClass RX4 = some m.cls := findClass_of_methodNamed B.named
  have hlocks := B.notSynchronized
  have hin : meth.name = "<init>" := (name_of_methodNamed B.named B.method).1
  subst hsz
  have hD := hD0.self (sz := s.heap.size)
  generalize hAe : va_A [(h0, .inr (4, [.null, .null, .null, .null, .null, .null, .null, .int 0, .int 0]))] s.heap.size = A at hD ⊢
  have hA : ∀ q : Nat, s.heap.size ≤ q → A q := fun q h => by rw [← hAe]; exact Or.inr h
  have hS : va_S A s.heap s.heap [] := va_S.rf
  have hl := lv_entry ([.ref h0]) (n := 1) (Nat.le_of_ble_eq_true rfl)
  rw [lg_entry_eq]
  generalize (lg_sl ([.ref h0]) ++ List.replicate (1 - (lg_sl ([.ref h0])).length) Slot.unset).toArray = ls at hl ⊢
  have hl : lv_has ls 1 [(0, .ref h0)] := hl
  refine lv_aload_n hx hb dX4_init_0 rfl (lv_at hl 0 rfl) ?_
  refine W.objInit hx hb hown (hts _ cw_133) (hts _ cw_126) (hts _ cw_127) rfl (by rw [hml]; exact hl.1) rfl dX4_init_1 (Nat.le_of_ble_eq_true rfl) (Nat.le_of_ble_eq_true rfl) ?_
  refine W.eq (g2 := F0 m 4 ls []) rfl ?_
  refine lv_aload_n hx hb dX4_init_4 rfl (lv_at hl 0 rfl) ?_
  refine lv_bipush (v := 9) hx hb dX4_init_5 (by decide) ?_
  refine ct_newint (N' := 9) hx hb (hts _ cw_164) hK hP hD hS hA (by decide) (by decide) (by decide) (by decide) (by decide) dX4_init_7 (fun q7 H hP hD hS => ?_)
  refine W.widen (k := 1) (n := 9) (by decide) (by decide) ?_
  refine va_putF (D := D) (ci := 4) (v := .ref q7) (ty := .array .int) (C := RX4) (T := TX4) (N := 9) hx hb hts (am_uws (ci := 4) (by decide)) tyX4 tyX4_ok nmX4 hown hK hP hD hS 0 rfl rfl 0 (by decide) (hts _ cw_134) (fun _ h9 => h9) rfl hin rfl (by decide +kernel) rfl rfl (Nat.le_of_ble_eq_true rfl) dX4_init_9 (fun H locs hP hD hS => ?_)
  have hP : va_P D vwCl [(h0, .inr (4, [.ref q7, .null, .null, .null, .null, .null, .null, .int 0, .int 0])), (q7, .inl (cs.1, 9, .inl (fun _ => 0)))] H := hP
  have hD : va_D A [(h0, .inr (4, [.ref q7, .null, .null, .null, .null, .null, .null, .int 0, .int 0])), (q7, .inl (cs.1, 9, .inl (fun _ => 0)))] := hD
  refine lv_aload_n hx hb dX4_init_12 rfl (lv_at hl 0 rfl) ?_
  refine lv_bipush (v := 9) hx hb dX4_init_13 (by decide) ?_
  refine ct_newint (N' := 9) hx hb (hts _ cw_164) hK hP hD hS hA (by decide) (by decide) (by decide) (by decide) (by decide) dX4_init_15 (fun q15 H hP hD hS => ?_)
  refine W.widen (k := 2) (n := 18) (by decide) (by decide) ?_
  refine va_putF (D := D) (ci := 4) (v := .ref q15) (ty := .array .int) (C := RX4) (T := TX4) (N := 9) hx hb hts (am_uws (ci := 4) (by decide)) tyX4 tyX4_ok nmX4 hown hK hP hD hS 0 rfl rfl 1 (by decide) (hts _ cw_135) (fun _ h9 => h9) rfl hin rfl (by decide +kernel) rfl rfl (Nat.le_of_ble_eq_true rfl) dX4_init_17 (fun H locs hP hD hS => ?_)
  have hP : va_P D vwCl [(h0, .inr (4, [.ref q7, .ref q15, .null, .null, .null, .null, .null, .int 0, .int 0])), (q7, .inl (cs.1, 9, .inl (fun _ => 0))), (q15, .inl (cs.1, 9, .inl (fun _ => 0)))] H := hP
  have hD : va_D A [(h0, .inr (4, [.ref q7, .ref q15, .null, .null, .null, .null, .null, .int 0, .int 0])), (q7, .inl (cs.1, 9, .inl (fun _ => 0))), (q15, .inl (cs.1, 9, .inl (fun _ => 0)))] := hD
  refine lv_aload_n hx hb dX4_init_20 rfl (lv_at hl 0 rfl) ?_
  refine lv_bipush (v := 9) hx hb dX4_init_21 (by decide) ?_
  refine ct_newint (N' := 9) hx hb (hts _ cw_164) hK hP hD hS hA (by decide) (by decide) (by decide) (by decide) (by decide) dX4_init_23 (fun q23 H hP hD hS => ?_)
  refine W.widen (k := 3) (n := 27) (by decide) (by decide) ?_
  refine va_putF (D := D) (ci := 4) (v := .ref q23) (ty := .array .int) (C := RX4) (T := TX4) (N := 9) hx hb hts (am_uws (ci := 4) (by decide)) tyX4 tyX4_ok nmX4 hown hK hP hD hS 0 rfl rfl 2 (by decide) (hts _ cw_136) (fun _ h9 => h9) rfl hin rfl (by decide +kernel) rfl rfl (Nat.le_of_ble_eq_true rfl) dX4_init_25 (fun H locs hP hD hS => ?_)
  have hP : va_P D vwCl [(h0, .inr (4, [.ref q7, .ref q15, .ref q23, .null, .null, .null, .null, .int 0, .int 0])), (q7, .inl (cs.1, 9, .inl (fun _ => 0))), (q15, .inl (cs.1, 9, .inl (fun _ => 0))), (q23, .inl (cs.1, 9, .inl (fun _ => 0)))] H := hP
  have hD : va_D A [(h0, .inr (4, [.ref q7, .ref q15, .ref q23, .null, .null, .null, .null, .int 0, .int 0])), (q7, .inl (cs.1, 9, .inl (fun _ => 0))), (q15, .inl (cs.1, 9, .inl (fun _ => 0))), (q23, .inl (cs.1, 9, .inl (fun _ => 0)))] := hD
  refine lv_aload_n hx hb dX4_init_28 rfl (lv_at hl 0 rfl) ?_
  refine lv_bipush (v := 9) hx hb dX4_init_29 (by decide) ?_
  refine ct_newint (N' := 9) hx hb (hts _ cw_164) hK hP hD hS hA (by decide) (by decide) (by decide) (by decide) (by decide) dX4_init_31 (fun q31 H hP hD hS => ?_)
  refine W.widen (k := 4) (n := 36) (by decide) (by decide) ?_
  refine va_putF (D := D) (ci := 4) (v := .ref q31) (ty := .array .int) (C := RX4) (T := TX4) (N := 9) hx hb hts (am_uws (ci := 4) (by decide)) tyX4 tyX4_ok nmX4 hown hK hP hD hS 0 rfl rfl 3 (by decide) (hts _ cw_137) (fun _ h9 => h9) rfl hin rfl (by decide +kernel) rfl rfl (Nat.le_of_ble_eq_true rfl) dX4_init_33 (fun H locs hP hD hS => ?_)
  have hP : va_P D vwCl [(h0, .inr (4, [.ref q7, .ref q15, .ref q23, .ref q31, .null, .null, .null, .int 0, .int 0])), (q7, .inl (cs.1, 9, .inl (fun _ => 0))), (q15, .inl (cs.1, 9, .inl (fun _ => 0))), (q23, .inl (cs.1, 9, .inl (fun _ => 0))), (q31, .inl (cs.1, 9, .inl (fun _ => 0)))] H := hP
  have hD : va_D A [(h0, .inr (4, [.ref q7, .ref q15, .ref q23, .ref q31, .null, .null, .null, .int 0, .int 0])), (q7, .inl (cs.1, 9, .inl (fun _ => 0))), (q15, .inl (cs.1, 9, .inl (fun _ => 0))), (q23, .inl (cs.1, 9, .inl (fun _ => 0))), (q31, .inl (cs.1, 9, .inl (fun _ => 0)))] := hD
  refine lv_aload_n hx hb dX4_init_36 rfl (lv_at hl 0 rfl) ?_
  refine lv_bipush (v := 81) hx hb dX4_init_37 (by decide) ?_
  refine ct_newint (N' := 81) hx hb (hts _ cw_164) hK hP hD hS hA (by decide) (by decide) (by decide) (by decide) (by decide) dX4_init_39 (fun q39 H hP hD hS => ?_)
  refine W.widen (k := 5) (n := 117) (by decide) (by decide) ?_
  refine va_putF (D := D) (ci := 4) (v := .ref q39) (ty := .array .int) (C := RX4) (T := TX4) (N := 9) hx hb hts (am_uws (ci := 4) (by decide)) tyX4 tyX4_ok nmX4 hown hK hP hD hS 0 rfl rfl 4 (by decide) (hts _ cw_138) (fun _ h9 => h9) rfl hin rfl (by decide +kernel) rfl rfl (Nat.le_of_ble_eq_true rfl) dX4_init_41 (fun H locs hP hD hS => ?_)
  have hP : va_P D vwCl [(h0, .inr (4, [.ref q7, .ref q15, .ref q23, .ref q31, .ref q39, .null, .null, .int 0, .int 0])), (q7, .inl (cs.1, 9, .inl (fun _ => 0))), (q15, .inl (cs.1, 9, .inl (fun _ => 0))), (q23, .inl (cs.1, 9, .inl (fun _ => 0))), (q31, .inl (cs.1, 9, .inl (fun _ => 0))), (q39, .inl (cs.1, 81, .inl (fun _ => 0)))] H := hP
  have hD : va_D A [(h0, .inr (4, [.ref q7, .ref q15, .ref q23, .ref q31, .ref q39, .null, .null, .int 0, .int 0])), (q7, .inl (cs.1, 9, .inl (fun _ => 0))), (q15, .inl (cs.1, 9, .inl (fun _ => 0))), (q23, .inl (cs.1, 9, .inl (fun _ => 0))), (q31, .inl (cs.1, 9, .inl (fun _ => 0))), (q39, .inl (cs.1, 81, .inl (fun _ => 0)))] := hD
  refine lv_aload_n hx hb dX4_init_44 rfl (lv_at hl 0 rfl) ?_
  refine lv_sipush (v := 512) hx hb dX4_init_45 (by decide) ?_
  refine ct_newint (N' := 512) hx hb (hts _ cw_164) hK hP hD hS hA (by decide) (by decide) (by decide) (by decide) (by decide) dX4_init_48 (fun q48 H hP hD hS => ?_)
  refine W.widen (k := 6) (n := 629) (by decide) (by decide) ?_
  refine va_putF (D := D) (ci := 4) (v := .ref q48) (ty := .array .int) (C := RX4) (T := TX4) (N := 9) hx hb hts (am_uws (ci := 4) (by decide)) tyX4 tyX4_ok nmX4 hown hK hP hD hS 0 rfl rfl 5 (by decide) (hts _ cw_139) (fun _ h9 => h9) rfl hin rfl (by decide +kernel) rfl rfl (Nat.le_of_ble_eq_true rfl) dX4_init_50 (fun H locs hP hD hS => ?_)
  have hP : va_P D vwCl [(h0, .inr (4, [.ref q7, .ref q15, .ref q23, .ref q31, .ref q39, .ref q48, .null, .int 0, .int 0])), (q7, .inl (cs.1, 9, .inl (fun _ => 0))), (q15, .inl (cs.1, 9, .inl (fun _ => 0))), (q23, .inl (cs.1, 9, .inl (fun _ => 0))), (q31, .inl (cs.1, 9, .inl (fun _ => 0))), (q39, .inl (cs.1, 81, .inl (fun _ => 0))), (q48, .inl (cs.1, 512, .inl (fun _ => 0)))] H := hP
  have hD : va_D A [(h0, .inr (4, [.ref q7, .ref q15, .ref q23, .ref q31, .ref q39, .ref q48, .null, .int 0, .int 0])), (q7, .inl (cs.1, 9, .inl (fun _ => 0))), (q15, .inl (cs.1, 9, .inl (fun _ => 0))), (q23, .inl (cs.1, 9, .inl (fun _ => 0))), (q31, .inl (cs.1, 9, .inl (fun _ => 0))), (q39, .inl (cs.1, 81, .inl (fun _ => 0))), (q48, .inl (cs.1, 512, .inl (fun _ => 0)))] := hD
  refine lv_aload_n hx hb dX4_init_53 rfl (lv_at hl 0 rfl) ?_
  refine lv_sipush (v := 4608) hx hb dX4_init_54 (by decide) ?_
  refine ct_newint (N' := 4608) hx hb (hts _ cw_164) hK hP hD hS hA (by decide) (by decide) (by decide) (by decide) (by decide) dX4_init_57 (fun q57 H hP hD hS => ?_)
  refine W.widen (k := 7) (n := 5237) (by decide) (by decide) ?_
  refine va_putF (D := D) (ci := 4) (v := .ref q57) (ty := .array .int) (C := RX4) (T := TX4) (N := 9) hx hb hts (am_uws (ci := 4) (by decide)) tyX4 tyX4_ok nmX4 hown hK hP hD hS 0 rfl rfl 6 (by decide) (hts _ cw_140) (fun _ h9 => h9) rfl hin rfl (by decide +kernel) rfl rfl (Nat.le_of_ble_eq_true rfl) dX4_init_59 (fun H locs hP hD hS => ?_)
  have hP : va_P D vwCl [(h0, .inr (4, [.ref q7, .ref q15, .ref q23, .ref q31, .ref q39, .ref q48, .ref q57, .int 0, .int 0])), (q7, .inl (cs.1, 9, .inl (fun _ => 0))), (q15, .inl (cs.1, 9, .inl (fun _ => 0))), (q23, .inl (cs.1, 9, .inl (fun _ => 0))), (q31, .inl (cs.1, 9, .inl (fun _ => 0))), (q39, .inl (cs.1, 81, .inl (fun _ => 0))), (q48, .inl (cs.1, 512, .inl (fun _ => 0))), (q57, .inl (cs.1, 4608, .inl (fun _ => 0)))] H := hP
  have hD : va_D A [(h0, .inr (4, [.ref q7, .ref q15, .ref q23, .ref q31, .ref q39, .ref q48, .ref q57, .int 0, .int 0])), (q7, .inl (cs.1, 9, .inl (fun _ => 0))), (q15, .inl (cs.1, 9, .inl (fun _ => 0))), (q23, .inl (cs.1, 9, .inl (fun _ => 0))), (q31, .inl (cs.1, 9, .inl (fun _ => 0))), (q39, .inl (cs.1, 81, .inl (fun _ => 0))), (q48, .inl (cs.1, 512, .inl (fun _ => 0))), (q57, .inl (cs.1, 4608, .inl (fun _ => 0)))] := hD
  exact W.vret hx hb hr (fun t ht hW => ⟨⟨(), rfl, trivial, q7, q15, q23, q31, q39, q48, q57, by rw [ht]; exact hP, hD⟩, hS.F ht⟩) hS.2.2 dX4_init_62
theorem dX5_init_0 : decode cX5_init 0 = .ok (.aload_n 0, 1) := by decide +kernel
theorem dX5_init_1 : decode cX5_init 1 = .ok (.invokespecial 3, 3) := by decide +kernel
set_option maxRecDepth 100000 in
theorem cw_170 : Cond.methodLink RX5 3 objectInit ∈ am_GW := am_in_ok (i := 170) (by decide +kernel)
theorem dX5_init_4 : decode cX5_init 4 = .ok (.aload_n 0, 1) := by decide +kernel
theorem dX5_init_5 : decode cX5_init 5 = .ok (.sipush 200, 3) := by decide +kernel
theorem dX5_init_8 : decode cX5_init 8 = .ok (.newarray .byte, 2) := by decide +kernel
set_option maxRecDepth 100000 in
theorem cw_180 : Cond.arrayClass .byte ∈ am_GW := am_in_ok (i := 180) (by decide +kernel)
theorem dX5_init_10 : decode cX5_init 10 = .ok (.putfield 9, 3) := by decide +kernel
set_option maxRecDepth 100000 in
theorem cw_171 : Cond.fieldLink RX5 9 "DoorCodes$Text" "bytes" "[B" ∈ am_GW := am_in_ok (i := 171) (by decide +kernel)
theorem dX5_init_13 : decode cX5_init 13 = .ok (.return_, 1) := by decide +kernel
set_option maxHeartbeats 4000000 in
set_option maxRecDepth 100000 in
/-- a new DoorCodes.Text -/
theorem ct_X5_init (l : Launch) (D : va_G) (cs : am_Cs) (h0 sz : Nat) : Met l yX5_init (.code yX5_init cX5_init 1 none :: am_GW) ({ frames := 1, cells := 1, slots := 200, locals := 40 }) (va_Pc [.ref h0] (ct_Pre D cs sz [(h0, .inr (5, [.null, .int 0]))])) (va_Qv (fun _ : Unit => True) (fun _ t => ∃ (q8 : Nat), va_P D vwCl [(h0, .inr (5, [.ref q8, .int 0])), (q8, .inl (cs.2.1, 200, .inl (fun _ => 0)))] t.heap ∧ va_D (va_A [(h0, .inr (5, [.null, .int 0]))] sz) [(h0, .inr (5, [.ref q8, .int 0])), (q8, .inl (cs.2.1, 200, .inl (fun _ => 0)))]) (va_A [(h0, .inr (5, [.null, .int 0]))] sz)) 1 200 (va_A [(h0, .inr (5, [.null, .int 0]))] sz) := by
  refine Met.ofW (cc := cX5_init) (maxL := 1) (ret := none) (by decide) rfl ?_
  intro p e s m args below meth c s₁ B hml hv
  obtain ⟨rfl, hsz, hP, hK, hD0, hN, hAO⟩ := hv
  have hx := B.exec
  have hb := B.bytes
  have hr := B.returns
  have hts : ∀ w ∈ am_GW, w.before _ s = true := fun w hw => atoms_spec (ws := (.code yX5_init cX5_init 1 none :: am_GW)) B.pre w (List.mem_cons_of_mem _ hw)
  have hown : s.vm.findClass RX5 = some m.cls := findClass_of_methodNamed B.named
  have hlocks := B.notSynchronized
  have hin : meth.name = "<init>" := (name_of_methodNamed B.named B.method).1
  subst hsz
  have hD := hD0.self (sz := s.heap.size)
  generalize hAe : va_A [(h0, .inr (5, [.null, .int 0]))] s.heap.size = A at hD ⊢
  have hA : ∀ q : Nat, s.heap.size ≤ q → A q := fun q h => by rw [← hAe]; exact Or.inr h
  have hS : va_S A s.heap s.heap [] := va_S.rf
  have hl := lv_entry ([.ref h0]) (n := 1) (Nat.le_of_ble_eq_true rfl)
  rw [lg_entry_eq]
  generalize (lg_sl ([.ref h0]) ++ List.replicate (1 - (lg_sl ([.ref h0])).length) Slot.unset).toArray = ls at hl ⊢
  have hl : lv_has ls 1 [(0, .ref h0)] := hl
  refine lv_aload_n hx hb dX5_init_0 rfl (lv_at hl 0 rfl) ?_
  refine W.objInit hx hb hown (hts _ cw_170) (hts _ cw_126) (hts _ cw_127) rfl (by rw [hml]; exact hl.1) rfl dX5_init_1 (Nat.le_of_ble_eq_true rfl) (Nat.le_of_ble_eq_true rfl) ?_
  refine W.eq (g2 := F0 m 4 ls []) rfl ?_
  refine lv_aload_n hx hb dX5_init_4 rfl (lv_at hl 0 rfl) ?_
  refine lv_sipush (v := 200) hx hb dX5_init_5 (by decide) ?_
  refine ct_newbyte (N' := 200) hx hb (hts _ cw_180) hK hP hD hS hA (by decide) (by decide) (by decide) (by decide) (by decide) dX5_init_8 (fun q8 H hP hD hS => ?_)
  refine W.widen (k := 1) (n := 200) (by decide) (by decide) ?_
  refine va_putF (D := D) (ci := 5) (v := .ref q8) (ty := .array .byte) (C := RX5) (T := TX5) (N := 2) hx hb hts (am_uws (ci := 5) (by decide)) tyX5 tyX5_ok nmX5 hown hK hP hD hS 0 rfl rfl 0 (by decide) (hts _ cw_171) (fun _ h9 => h9) rfl hin rfl (by decide +kernel) rfl rfl (Nat.le_of_ble_eq_true rfl) dX5_init_10 (fun H locs hP hD hS => ?_)
  have hP : va_P D vwCl [(h0, .inr (5, [.ref q8, .int 0])), (q8, .inl (cs.2.1, 200, .inl (fun _ => 0)))] H := hP
  have hD : va_D A [(h0, .inr (5, [.ref q8, .int 0])), (q8, .inl (cs.2.1, 200, .inl (fun _ => 0)))] := hD
  exact W.vret hx hb hr (fun t ht hW => ⟨⟨(), rfl, trivial, q8, by rw [ht]; exact hP, hD⟩, hS.F ht⟩) hS.2.2 dX5_init_13
theorem dX7_init_0 : decode cX7_init 0 = .ok (.aload_n 0, 1) := by decide +kernel
theorem dX7_init_1 : decode cX7_init 1 = .ok (.invokespecial 3, 3) := by decide +kernel
set_option maxRecDepth 100000 in
theorem cw_256 : Cond.methodLink RX7 3 objectInit ∈ am_GW := am_in_ok (i := 256) (by decide +kernel)
theorem dX7_init_4 : decode cX7_init 4 = .ok (.aload_n 0, 1) := by decide +kernel
theorem dX7_init_5 : decode cX7_init 5 = .ok (.bipush 16, 2) := by decide +kernel
theorem dX7_init_7 : decode cX7_init 7 = .ok (.newarray .int, 2) := by decide +kernel
theorem dX7_init_9 : decode cX7_init 9 = .ok (.putfield 9, 3) := by decide +kernel
set_option maxRecDepth 100000 in
theorem cw_261 : Cond.fieldLink RX7 9 "DoorCodes$Wording" "candidates" "[I" ∈ am_GW := am_in_ok (i := 261) (by decide +kernel)
theorem dX7_init_12 : decode cX7_init 12 = .ok (.aload_n 0, 1) := by decide +kernel
theorem dX7_init_13 : decode cX7_init 13 = .ok (.sipush 256, 3) := by decide +kernel
theorem dX7_init_16 : decode cX7_init 16 = .ok (.newarray .int, 2) := by decide +kernel
theorem dX7_init_18 : decode cX7_init 18 = .ok (.putfield 15, 3) := by decide +kernel
set_option maxRecDepth 100000 in
theorem cw_262 : Cond.fieldLink RX7 15 "DoorCodes$Wording" "harms" "[I" ∈ am_GW := am_in_ok (i := 262) (by decide +kernel)
theorem dX7_init_21 : decode cX7_init 21 = .ok (.aload_n 0, 1) := by decide +kernel
theorem dX7_init_22 : decode cX7_init 22 = .ok (.bipush 16, 2) := by decide +kernel
theorem dX7_init_24 : decode cX7_init 24 = .ok (.newarray .int, 2) := by decide +kernel
theorem dX7_init_26 : decode cX7_init 26 = .ok (.putfield 18, 3) := by decide +kernel
set_option maxRecDepth 100000 in
theorem cw_263 : Cond.fieldLink RX7 18 "DoorCodes$Wording" "times" "[I" ∈ am_GW := am_in_ok (i := 263) (by decide +kernel)
theorem dX7_init_29 : decode cX7_init 29 = .ok (.aload_n 0, 1) := by decide +kernel
theorem dX7_init_30 : decode cX7_init 30 = .ok (.iconst 4, 1) := by decide +kernel
theorem dX7_init_31 : decode cX7_init 31 = .ok (.newarray .int, 2) := by decide +kernel
theorem dX7_init_33 : decode cX7_init 33 = .ok (.putfield 21, 3) := by decide +kernel
set_option maxRecDepth 100000 in
theorem cw_264 : Cond.fieldLink RX7 21 "DoorCodes$Wording" "chosen" "[I" ∈ am_GW := am_in_ok (i := 264) (by decide +kernel)
theorem dX7_init_36 : decode cX7_init 36 = .ok (.aload_n 0, 1) := by decide +kernel
theorem dX7_init_37 : decode cX7_init 37 = .ok (.iconst 4, 1) := by decide +kernel
theorem dX7_init_38 : decode cX7_init 38 = .ok (.newarray .int, 2) := by decide +kernel
theorem dX7_init_40 : decode cX7_init 40 = .ok (.putfield 24, 3) := by decide +kernel
set_option maxRecDepth 100000 in
theorem cw_265 : Cond.fieldLink RX7 24 "DoorCodes$Wording" "best" "[I" ∈ am_GW := am_in_ok (i := 265) (by decide +kernel)
theorem dX7_init_43 : decode cX7_init 43 = .ok (.aload_n 0, 1) := by decide +kernel
theorem dX7_init_44 : decode cX7_init 44 = .ok (.aload_n 1, 1) := by decide +kernel
theorem dX7_init_45 : decode cX7_init 45 = .ok (.putfield 27, 3) := by decide +kernel
set_option maxRecDepth 100000 in
theorem cw_257 : Cond.fieldLink RX7 27 "DoorCodes$Wording" "streets" "LDoorCodes$Streets;" ∈ am_GW := am_in_ok (i := 257) (by decide +kernel)
theorem dX7_init_48 : decode cX7_init 48 = .ok (.aload_n 0, 1) := by decide +kernel
theorem dX7_init_49 : decode cX7_init 49 = .ok (.aload_n 2, 1) := by decide +kernel
theorem dX7_init_50 : decode cX7_init 50 = .ok (.putfield 31, 3) := by decide +kernel
set_option maxRecDepth 100000 in
theorem cw_258 : Cond.fieldLink RX7 31 "DoorCodes$Wording" "rules" "LDoorCodes$Items;" ∈ am_GW := am_in_ok (i := 258) (by decide +kernel)
theorem dX7_init_53 : decode cX7_init 53 = .ok (.aload_n 0, 1) := by decide +kernel
theorem dX7_init_54 : decode cX7_init 54 = .ok (.aload_n 3, 1) := by decide +kernel
theorem dX7_init_55 : decode cX7_init 55 = .ok (.putfield 35, 3) := by decide +kernel
set_option maxRecDepth 100000 in
theorem cw_259 : Cond.fieldLink RX7 35 "DoorCodes$Wording" "misreads" "LDoorCodes$Misreads;" ∈ am_GW := am_in_ok (i := 259) (by decide +kernel)
theorem dX7_init_58 : decode cX7_init 58 = .ok (.aload_n 0, 1) := by decide +kernel
theorem dX7_init_59 : decode cX7_init 59 = .ok (.aload 4, 2) := by decide +kernel
theorem dX7_init_61 : decode cX7_init 61 = .ok (.putfield 39, 3) := by decide +kernel
set_option maxRecDepth 100000 in
theorem cw_260 : Cond.fieldLink RX7 39 "DoorCodes$Wording" "shaper" "LDoorCodes$Shaper;" ∈ am_GW := am_in_ok (i := 260) (by decide +kernel)
theorem dX7_init_64 : decode cX7_init 64 = .ok (.aload_n 0, 1) := by decide +kernel
theorem dX7_init_65 : decode cX7_init 65 = .ok (.iconst (-1), 1) := by decide +kernel
theorem dX7_init_66 : decode cX7_init 66 = .ok (.putfield 43, 3) := by decide +kernel
set_option maxRecDepth 100000 in
theorem cw_271 : Cond.fieldLink RX7 43 "DoorCodes$Wording" "dayFound" "I" ∈ am_GW := am_in_ok (i := 271) (by decide +kernel)
theorem dX7_init_69 : decode cX7_init 69 = .ok (.return_, 1) := by decide +kernel
set_option maxHeartbeats 4000000 in
set_option maxRecDepth 100000 in
/-- a new DoorCodes.Wording -/
theorem ct_X7_init (l : Launch) (D : va_G) (cs : am_Cs) (h0 sz : Nat) (h1 h2 h3 h4 : Nat) : Met l yX7_init (.code yX7_init cX7_init 5 none :: am_GW) ({ frames := 1, cells := 5, slots := 296, locals := 40 }) (va_Pc [.ref h0, .ref h1, .ref h2, .ref h3, .ref h4] (ct_Pre D cs sz [(h0, .inr (7, [.null, .null, .null, .null, .null, .null, .null, .null, .null, .int 0, .int 0, .int 0, .int 0, .int 0]))])) (va_Qv (fun _ : Unit => True) (fun _ t => ∃ (q7 q16 q24 q31 q38 : Nat), va_P D vwCl [(h0, .inr (7, [.ref h1, .ref h2, .ref h3, .ref h4, .ref q7, .ref q16, .ref q24, .ref q31, .ref q38, .int 0, .int 0, .int 0, .int (-1), .int 0])), (q7, .inl (cs.1, 16, .inl (fun _ => 0))), (q16, .inl (cs.1, 256, .inl (fun _ => 0))), (q24, .inl (cs.1, 16, .inl (fun _ => 0))), (q31, .inl (cs.1, 4, .inl (fun _ => 0))), (q38, .inl (cs.1, 4, .inl (fun _ => 0)))] t.heap ∧ va_D (va_A [(h0, .inr (7, [.null, .null, .null, .null, .null, .null, .null, .null, .null, .int 0, .int 0, .int 0, .int 0, .int 0]))] sz) [(h0, .inr (7, [.ref h1, .ref h2, .ref h3, .ref h4, .ref q7, .ref q16, .ref q24, .ref q31, .ref q38, .int 0, .int 0, .int 0, .int (-1), .int 0])), (q7, .inl (cs.1, 16, .inl (fun _ => 0))), (q16, .inl (cs.1, 256, .inl (fun _ => 0))), (q24, .inl (cs.1, 16, .inl (fun _ => 0))), (q31, .inl (cs.1, 4, .inl (fun _ => 0))), (q38, .inl (cs.1, 4, .inl (fun _ => 0)))]) (va_A [(h0, .inr (7, [.null, .null, .null, .null, .null, .null, .null, .null, .null, .int 0, .int 0, .int 0, .int 0, .int 0]))] sz)) 5 296 (va_A [(h0, .inr (7, [.null, .null, .null, .null, .null, .null, .null, .null, .null, .int 0, .int 0, .int 0, .int 0, .int 0]))] sz) := by
  refine Met.ofW (cc := cX7_init) (maxL := 5) (ret := none) (by decide) rfl ?_
  intro p e s m args below meth c s₁ B hml hv
  obtain ⟨rfl, hsz, hP, hK, hD0, hN, hAO⟩ := hv
  have hx := B.exec
  have hb := B.bytes
  have hr := B.returns
  have hts : ∀ w ∈ am_GW, w.before _ s = true := fun w hw => atoms_spec (ws := (.code yX7_init cX7_init 5 none :: am_GW)) B.pre w (List.mem_cons_of_mem _ hw)
  have hown : s.vm.findClass RX7 = some m.cls := findClass_of_methodNamed B.named
  have hlocks := B.notSynchronized
  have hin : meth.name = "<init>" := (name_of_methodNamed B.named B.method).1
  subst hsz
  have hD := hD0.self (sz := s.heap.size)
  generalize hAe : va_A [(h0, .inr (7, [.null, .null, .null, .null, .null, .null, .null, .null, .null, .int 0, .int 0, .int 0, .int 0, .int 0]))] s.heap.size = A at hD ⊢
  have hA : ∀ q : Nat, s.heap.size ≤ q → A q := fun q h => by rw [← hAe]; exact Or.inr h
  have hS : va_S A s.heap s.heap [] := va_S.rf
  have hl := lv_entry ([.ref h0, .ref h1, .ref h2, .ref h3, .ref h4]) (n := 5) (Nat.le_of_ble_eq_true rfl)
  rw [lg_entry_eq]
  generalize (lg_sl ([.ref h0, .ref h1, .ref h2, .ref h3, .ref h4]) ++ List.replicate (5 - (lg_sl ([.ref h0, .ref h1, .ref h2, .ref h3, .ref h4])).length) Slot.unset).toArray = ls at hl ⊢
  have hl : lv_has ls 5 [(0, .ref h0), (1, .ref h1), (2, .ref h2), (3, .ref h3), (4, .ref h4)] := hl
  refine lv_aload_n hx hb dX7_init_0 rfl (lv_at hl 0 rfl) ?_
  refine W.objInit hx hb hown (hts _ cw_256) (hts _ cw_126) (hts _ cw_127) rfl (by rw [hml]; exact hl.1) rfl dX7_init_1 (Nat.le_of_ble_eq_true rfl) (Nat.le_of_ble_eq_true rfl) ?_
  refine W.eq (g2 := F0 m 4 ls []) rfl ?_
  refine lv_aload_n hx hb dX7_init_4 rfl (lv_at hl 0 rfl) ?_
  refine lv_bipush (v := 16) hx hb dX7_init_5 (by decide) ?_
  refine ct_newint (N' := 16) hx hb (hts _ cw_164) hK hP hD hS hA (by decide) (by decide) (by decide) (by decide) (by decide) dX7_init_7 (fun q7 H hP hD hS => ?_)
  refine W.widen (k := 1) (n := 16) (by decide) (by decide) ?_
  refine va_putF (D := D) (ci := 7) (v := .ref q7) (ty := .array .int) (C := RX7) (T := TX7) (N := 14) hx hb hts (am_uws (ci := 7) (by decide)) tyX7 tyX7_ok nmX7 hown hK hP hD hS 0 rfl rfl 4 (by decide) (hts _ cw_261) (fun _ h9 => h9) rfl hin rfl (by decide +kernel) rfl rfl (Nat.le_of_ble_eq_true rfl) dX7_init_9 (fun H locs hP hD hS => ?_)
  have hP : va_P D vwCl [(h0, .inr (7, [.null, .null, .null, .null, .ref q7, .null, .null, .null, .null, .int 0, .int 0, .int 0, .int 0, .int 0])), (q7, .inl (cs.1, 16, .inl (fun _ => 0)))] H := hP
  have hD : va_D A [(h0, .inr (7, [.null, .null, .null, .null, .ref q7, .null, .null, .null, .null, .int 0, .int 0, .int 0, .int 0, .int 0])), (q7, .inl (cs.1, 16, .inl (fun _ => 0)))] := hD
  refine lv_aload_n hx hb dX7_init_12 rfl (lv_at hl 0 rfl) ?_
  refine lv_sipush (v := 256) hx hb dX7_init_13 (by decide) ?_
  refine ct_newint (N' := 256) hx hb (hts _ cw_164) hK hP hD hS hA (by decide) (by decide) (by decide) (by decide) (by decide) dX7_init_16 (fun q16 H hP hD hS => ?_)
  refine W.widen (k := 2) (n := 272) (by decide) (by decide) ?_
  refine va_putF (D := D) (ci := 7) (v := .ref q16) (ty := .array .int) (C := RX7) (T := TX7) (N := 14) hx hb hts (am_uws (ci := 7) (by decide)) tyX7 tyX7_ok nmX7 hown hK hP hD hS 0 rfl rfl 5 (by decide) (hts _ cw_262) (fun _ h9 => h9) rfl hin rfl (by decide +kernel) rfl rfl (Nat.le_of_ble_eq_true rfl) dX7_init_18 (fun H locs hP hD hS => ?_)
  have hP : va_P D vwCl [(h0, .inr (7, [.null, .null, .null, .null, .ref q7, .ref q16, .null, .null, .null, .int 0, .int 0, .int 0, .int 0, .int 0])), (q7, .inl (cs.1, 16, .inl (fun _ => 0))), (q16, .inl (cs.1, 256, .inl (fun _ => 0)))] H := hP
  have hD : va_D A [(h0, .inr (7, [.null, .null, .null, .null, .ref q7, .ref q16, .null, .null, .null, .int 0, .int 0, .int 0, .int 0, .int 0])), (q7, .inl (cs.1, 16, .inl (fun _ => 0))), (q16, .inl (cs.1, 256, .inl (fun _ => 0)))] := hD
  refine lv_aload_n hx hb dX7_init_21 rfl (lv_at hl 0 rfl) ?_
  refine lv_bipush (v := 16) hx hb dX7_init_22 (by decide) ?_
  refine ct_newint (N' := 16) hx hb (hts _ cw_164) hK hP hD hS hA (by decide) (by decide) (by decide) (by decide) (by decide) dX7_init_24 (fun q24 H hP hD hS => ?_)
  refine W.widen (k := 3) (n := 288) (by decide) (by decide) ?_
  refine va_putF (D := D) (ci := 7) (v := .ref q24) (ty := .array .int) (C := RX7) (T := TX7) (N := 14) hx hb hts (am_uws (ci := 7) (by decide)) tyX7 tyX7_ok nmX7 hown hK hP hD hS 0 rfl rfl 6 (by decide) (hts _ cw_263) (fun _ h9 => h9) rfl hin rfl (by decide +kernel) rfl rfl (Nat.le_of_ble_eq_true rfl) dX7_init_26 (fun H locs hP hD hS => ?_)
  have hP : va_P D vwCl [(h0, .inr (7, [.null, .null, .null, .null, .ref q7, .ref q16, .ref q24, .null, .null, .int 0, .int 0, .int 0, .int 0, .int 0])), (q7, .inl (cs.1, 16, .inl (fun _ => 0))), (q16, .inl (cs.1, 256, .inl (fun _ => 0))), (q24, .inl (cs.1, 16, .inl (fun _ => 0)))] H := hP
  have hD : va_D A [(h0, .inr (7, [.null, .null, .null, .null, .ref q7, .ref q16, .ref q24, .null, .null, .int 0, .int 0, .int 0, .int 0, .int 0])), (q7, .inl (cs.1, 16, .inl (fun _ => 0))), (q16, .inl (cs.1, 256, .inl (fun _ => 0))), (q24, .inl (cs.1, 16, .inl (fun _ => 0)))] := hD
  refine lv_aload_n hx hb dX7_init_29 rfl (lv_at hl 0 rfl) ?_
  refine lv_iconst (v := 4) hx hb dX7_init_30 (by decide) ?_
  refine ct_newint (N' := 4) hx hb (hts _ cw_164) hK hP hD hS hA (by decide) (by decide) (by decide) (by decide) (by decide) dX7_init_31 (fun q31 H hP hD hS => ?_)
  refine W.widen (k := 4) (n := 292) (by decide) (by decide) ?_
  refine va_putF (D := D) (ci := 7) (v := .ref q31) (ty := .array .int) (C := RX7) (T := TX7) (N := 14) hx hb hts (am_uws (ci := 7) (by decide)) tyX7 tyX7_ok nmX7 hown hK hP hD hS 0 rfl rfl 7 (by decide) (hts _ cw_264) (fun _ h9 => h9) rfl hin rfl (by decide +kernel) rfl rfl (Nat.le_of_ble_eq_true rfl) dX7_init_33 (fun H locs hP hD hS => ?_)
  have hP : va_P D vwCl [(h0, .inr (7, [.null, .null, .null, .null, .ref q7, .ref q16, .ref q24, .ref q31, .null, .int 0, .int 0, .int 0, .int 0, .int 0])), (q7, .inl (cs.1, 16, .inl (fun _ => 0))), (q16, .inl (cs.1, 256, .inl (fun _ => 0))), (q24, .inl (cs.1, 16, .inl (fun _ => 0))), (q31, .inl (cs.1, 4, .inl (fun _ => 0)))] H := hP
  have hD : va_D A [(h0, .inr (7, [.null, .null, .null, .null, .ref q7, .ref q16, .ref q24, .ref q31, .null, .int 0, .int 0, .int 0, .int 0, .int 0])), (q7, .inl (cs.1, 16, .inl (fun _ => 0))), (q16, .inl (cs.1, 256, .inl (fun _ => 0))), (q24, .inl (cs.1, 16, .inl (fun _ => 0))), (q31, .inl (cs.1, 4, .inl (fun _ => 0)))] := hD
  refine lv_aload_n hx hb dX7_init_36 rfl (lv_at hl 0 rfl) ?_
  refine lv_iconst (v := 4) hx hb dX7_init_37 (by decide) ?_
  refine ct_newint (N' := 4) hx hb (hts _ cw_164) hK hP hD hS hA (by decide) (by decide) (by decide) (by decide) (by decide) dX7_init_38 (fun q38 H hP hD hS => ?_)
  refine W.widen (k := 5) (n := 296) (by decide) (by decide) ?_
  refine va_putF (D := D) (ci := 7) (v := .ref q38) (ty := .array .int) (C := RX7) (T := TX7) (N := 14) hx hb hts (am_uws (ci := 7) (by decide)) tyX7 tyX7_ok nmX7 hown hK hP hD hS 0 rfl rfl 8 (by decide) (hts _ cw_265) (fun _ h9 => h9) rfl hin rfl (by decide +kernel) rfl rfl (Nat.le_of_ble_eq_true rfl) dX7_init_40 (fun H locs hP hD hS => ?_)
  have hP : va_P D vwCl [(h0, .inr (7, [.null, .null, .null, .null, .ref q7, .ref q16, .ref q24, .ref q31, .ref q38, .int 0, .int 0, .int 0, .int 0, .int 0])), (q7, .inl (cs.1, 16, .inl (fun _ => 0))), (q16, .inl (cs.1, 256, .inl (fun _ => 0))), (q24, .inl (cs.1, 16, .inl (fun _ => 0))), (q31, .inl (cs.1, 4, .inl (fun _ => 0))), (q38, .inl (cs.1, 4, .inl (fun _ => 0)))] H := hP
  have hD : va_D A [(h0, .inr (7, [.null, .null, .null, .null, .ref q7, .ref q16, .ref q24, .ref q31, .ref q38, .int 0, .int 0, .int 0, .int 0, .int 0])), (q7, .inl (cs.1, 16, .inl (fun _ => 0))), (q16, .inl (cs.1, 256, .inl (fun _ => 0))), (q24, .inl (cs.1, 16, .inl (fun _ => 0))), (q31, .inl (cs.1, 4, .inl (fun _ => 0))), (q38, .inl (cs.1, 4, .inl (fun _ => 0)))] := hD
  refine lv_aload_n hx hb dX7_init_43 rfl (lv_at hl 0 rfl) ?_
  refine lv_aload_n hx hb dX7_init_44 rfl (lv_at hl 1 rfl) ?_
  refine va_putF (D := D) (ci := 7) (v := .ref h1) (ty := .object "DoorCodes$Streets") (C := RX7) (T := TX7) (N := 14) hx hb hts (am_uws (ci := 7) (by decide)) tyX7 tyX7_ok nmX7 hown hK hP hD hS 0 rfl rfl 0 (by decide) (hts _ cw_257) (fun _ h9 => h9) rfl hin rfl (by decide +kernel) rfl rfl (Nat.le_of_ble_eq_true rfl) dX7_init_45 (fun H locs hP hD hS => ?_)
  have hP : va_P D vwCl [(h0, .inr (7, [.ref h1, .null, .null, .null, .ref q7, .ref q16, .ref q24, .ref q31, .ref q38, .int 0, .int 0, .int 0, .int 0, .int 0])), (q7, .inl (cs.1, 16, .inl (fun _ => 0))), (q16, .inl (cs.1, 256, .inl (fun _ => 0))), (q24, .inl (cs.1, 16, .inl (fun _ => 0))), (q31, .inl (cs.1, 4, .inl (fun _ => 0))), (q38, .inl (cs.1, 4, .inl (fun _ => 0)))] H := hP
  have hD : va_D A [(h0, .inr (7, [.ref h1, .null, .null, .null, .ref q7, .ref q16, .ref q24, .ref q31, .ref q38, .int 0, .int 0, .int 0, .int 0, .int 0])), (q7, .inl (cs.1, 16, .inl (fun _ => 0))), (q16, .inl (cs.1, 256, .inl (fun _ => 0))), (q24, .inl (cs.1, 16, .inl (fun _ => 0))), (q31, .inl (cs.1, 4, .inl (fun _ => 0))), (q38, .inl (cs.1, 4, .inl (fun _ => 0)))] := hD
  refine lv_aload_n hx hb dX7_init_48 rfl (lv_at hl 0 rfl) ?_
  refine lv_aload_n hx hb dX7_init_49 rfl (lv_at hl 2 rfl) ?_
  refine va_putF (D := D) (ci := 7) (v := .ref h2) (ty := .object "DoorCodes$Items") (C := RX7) (T := TX7) (N := 14) hx hb hts (am_uws (ci := 7) (by decide)) tyX7 tyX7_ok nmX7 hown hK hP hD hS 0 rfl rfl 1 (by decide) (hts _ cw_258) (fun _ h9 => h9) rfl hin rfl (by decide +kernel) rfl rfl (Nat.le_of_ble_eq_true rfl) dX7_init_50 (fun H locs hP hD hS => ?_)
  have hP : va_P D vwCl [(h0, .inr (7, [.ref h1, .ref h2, .null, .null, .ref q7, .ref q16, .ref q24, .ref q31, .ref q38, .int 0, .int 0, .int 0, .int 0, .int 0])), (q7, .inl (cs.1, 16, .inl (fun _ => 0))), (q16, .inl (cs.1, 256, .inl (fun _ => 0))), (q24, .inl (cs.1, 16, .inl (fun _ => 0))), (q31, .inl (cs.1, 4, .inl (fun _ => 0))), (q38, .inl (cs.1, 4, .inl (fun _ => 0)))] H := hP
  have hD : va_D A [(h0, .inr (7, [.ref h1, .ref h2, .null, .null, .ref q7, .ref q16, .ref q24, .ref q31, .ref q38, .int 0, .int 0, .int 0, .int 0, .int 0])), (q7, .inl (cs.1, 16, .inl (fun _ => 0))), (q16, .inl (cs.1, 256, .inl (fun _ => 0))), (q24, .inl (cs.1, 16, .inl (fun _ => 0))), (q31, .inl (cs.1, 4, .inl (fun _ => 0))), (q38, .inl (cs.1, 4, .inl (fun _ => 0)))] := hD
  refine lv_aload_n hx hb dX7_init_53 rfl (lv_at hl 0 rfl) ?_
  refine lv_aload_n hx hb dX7_init_54 rfl (lv_at hl 3 rfl) ?_
  refine va_putF (D := D) (ci := 7) (v := .ref h3) (ty := .object "DoorCodes$Misreads") (C := RX7) (T := TX7) (N := 14) hx hb hts (am_uws (ci := 7) (by decide)) tyX7 tyX7_ok nmX7 hown hK hP hD hS 0 rfl rfl 2 (by decide) (hts _ cw_259) (fun _ h9 => h9) rfl hin rfl (by decide +kernel) rfl rfl (Nat.le_of_ble_eq_true rfl) dX7_init_55 (fun H locs hP hD hS => ?_)
  have hP : va_P D vwCl [(h0, .inr (7, [.ref h1, .ref h2, .ref h3, .null, .ref q7, .ref q16, .ref q24, .ref q31, .ref q38, .int 0, .int 0, .int 0, .int 0, .int 0])), (q7, .inl (cs.1, 16, .inl (fun _ => 0))), (q16, .inl (cs.1, 256, .inl (fun _ => 0))), (q24, .inl (cs.1, 16, .inl (fun _ => 0))), (q31, .inl (cs.1, 4, .inl (fun _ => 0))), (q38, .inl (cs.1, 4, .inl (fun _ => 0)))] H := hP
  have hD : va_D A [(h0, .inr (7, [.ref h1, .ref h2, .ref h3, .null, .ref q7, .ref q16, .ref q24, .ref q31, .ref q38, .int 0, .int 0, .int 0, .int 0, .int 0])), (q7, .inl (cs.1, 16, .inl (fun _ => 0))), (q16, .inl (cs.1, 256, .inl (fun _ => 0))), (q24, .inl (cs.1, 16, .inl (fun _ => 0))), (q31, .inl (cs.1, 4, .inl (fun _ => 0))), (q38, .inl (cs.1, 4, .inl (fun _ => 0)))] := hD
  refine lv_aload_n hx hb dX7_init_58 rfl (lv_at hl 0 rfl) ?_
  refine lv_aload hx hb dX7_init_59 (lv_at hl 4 rfl) ?_
  refine va_putF (D := D) (ci := 7) (v := .ref h4) (ty := .object "DoorCodes$Shaper") (C := RX7) (T := TX7) (N := 14) hx hb hts (am_uws (ci := 7) (by decide)) tyX7 tyX7_ok nmX7 hown hK hP hD hS 0 rfl rfl 3 (by decide) (hts _ cw_260) (fun _ h9 => h9) rfl hin rfl (by decide +kernel) rfl rfl (Nat.le_of_ble_eq_true rfl) dX7_init_61 (fun H locs hP hD hS => ?_)
  have hP : va_P D vwCl [(h0, .inr (7, [.ref h1, .ref h2, .ref h3, .ref h4, .ref q7, .ref q16, .ref q24, .ref q31, .ref q38, .int 0, .int 0, .int 0, .int 0, .int 0])), (q7, .inl (cs.1, 16, .inl (fun _ => 0))), (q16, .inl (cs.1, 256, .inl (fun _ => 0))), (q24, .inl (cs.1, 16, .inl (fun _ => 0))), (q31, .inl (cs.1, 4, .inl (fun _ => 0))), (q38, .inl (cs.1, 4, .inl (fun _ => 0)))] H := hP
  have hD : va_D A [(h0, .inr (7, [.ref h1, .ref h2, .ref h3, .ref h4, .ref q7, .ref q16, .ref q24, .ref q31, .ref q38, .int 0, .int 0, .int 0, .int 0, .int 0])), (q7, .inl (cs.1, 16, .inl (fun _ => 0))), (q16, .inl (cs.1, 256, .inl (fun _ => 0))), (q24, .inl (cs.1, 16, .inl (fun _ => 0))), (q31, .inl (cs.1, 4, .inl (fun _ => 0))), (q38, .inl (cs.1, 4, .inl (fun _ => 0)))] := hD
  refine lv_aload_n hx hb dX7_init_64 rfl (lv_at hl 0 rfl) ?_
  refine lv_iconst (v := (-1)) hx hb dX7_init_65 (by decide) ?_
  refine va_put (D := D) (ci := 7) (v := .int (-1)) (ty := .int) (C := RX7) (T := TX7) (N := 14) hx hb hts (am_uws (ci := 7) (by decide)) tyX7 tyX7_ok nmX7 hown hK hP hD hS 0 rfl rfl 12 (by decide) (hts _ cw_271) (fun _ h9 => h9) rfl (by decide +kernel) rfl rfl (Nat.le_of_ble_eq_true rfl) dX7_init_66 (fun H locs hP hD hS => ?_)
  have hP : va_P D vwCl [(h0, .inr (7, [.ref h1, .ref h2, .ref h3, .ref h4, .ref q7, .ref q16, .ref q24, .ref q31, .ref q38, .int 0, .int 0, .int 0, .int (-1), .int 0])), (q7, .inl (cs.1, 16, .inl (fun _ => 0))), (q16, .inl (cs.1, 256, .inl (fun _ => 0))), (q24, .inl (cs.1, 16, .inl (fun _ => 0))), (q31, .inl (cs.1, 4, .inl (fun _ => 0))), (q38, .inl (cs.1, 4, .inl (fun _ => 0)))] H := hP
  have hD : va_D A [(h0, .inr (7, [.ref h1, .ref h2, .ref h3, .ref h4, .ref q7, .ref q16, .ref q24, .ref q31, .ref q38, .int 0, .int 0, .int 0, .int (-1), .int 0])), (q7, .inl (cs.1, 16, .inl (fun _ => 0))), (q16, .inl (cs.1, 256, .inl (fun _ => 0))), (q24, .inl (cs.1, 16, .inl (fun _ => 0))), (q31, .inl (cs.1, 4, .inl (fun _ => 0))), (q38, .inl (cs.1, 4, .inl (fun _ => 0)))] := hD
  exact W.vret hx hb hr (fun t ht hW => ⟨⟨(), rfl, trivial, q7, q16, q24, q31, q38, by rw [ht]; exact hP, hD⟩, hS.F ht⟩) hS.2.2 dX7_init_69
theorem dX6_init_0 : decode cX6_init 0 = .ok (.aload_n 0, 1) := by decide +kernel
theorem dX6_init_1 : decode cX6_init 1 = .ok (.invokespecial 3, 3) := by decide +kernel
set_option maxRecDepth 100000 in
theorem cw_326 : Cond.methodLink RX6 3 objectInit ∈ am_GW := am_in_ok (i := 326) (by decide +kernel)
theorem dX6_init_4 : decode cX6_init 4 = .ok (.aload_n 0, 1) := by decide +kernel
theorem dX6_init_5 : decode cX6_init 5 = .ok (.bipush 9, 2) := by decide +kernel
theorem dX6_init_7 : decode cX6_init 7 = .ok (.newarray .int, 2) := by decide +kernel
theorem dX6_init_9 : decode cX6_init 9 = .ok (.putfield 9, 3) := by decide +kernel
set_option maxRecDepth 100000 in
theorem cw_330 : Cond.fieldLink RX6 9 "DoorCodes$Town" "words" "[I" ∈ am_GW := am_in_ok (i := 330) (by decide +kernel)
theorem dX6_init_12 : decode cX6_init 12 = .ok (.aload_n 0, 1) := by decide +kernel
theorem dX6_init_13 : decode cX6_init 13 = .ok (.sipush 324, 3) := by decide +kernel
theorem dX6_init_16 : decode cX6_init 16 = .ok (.newarray .int, 2) := by decide +kernel
theorem dX6_init_18 : decode cX6_init 18 = .ok (.putfield 15, 3) := by decide +kernel
set_option maxRecDepth 100000 in
theorem cw_331 : Cond.fieldLink RX6 15 "DoorCodes$Town" "lastLed" "[I" ∈ am_GW := am_in_ok (i := 331) (by decide +kernel)
theorem dX6_init_21 : decode cX6_init 21 = .ok (.aload_n 0, 1) := by decide +kernel
theorem dX6_init_22 : decode cX6_init 22 = .ok (.bipush 90, 2) := by decide +kernel
theorem dX6_init_24 : decode cX6_init 24 = .ok (.newarray .int, 2) := by decide +kernel
theorem dX6_init_26 : decode cX6_init 26 = .ok (.putfield 18, 3) := by decide +kernel
set_option maxRecDepth 100000 in
theorem cw_332 : Cond.fieldLink RX6 18 "DoorCodes$Town" "books" "[I" ∈ am_GW := am_in_ok (i := 332) (by decide +kernel)
theorem dX6_init_29 : decode cX6_init 29 = .ok (.aload_n 0, 1) := by decide +kernel
theorem dX6_init_30 : decode cX6_init 30 = .ok (.getfield 9, 3) := by decide +kernel
theorem dX6_init_33 : decode cX6_init 33 = .ok (.iconst (-1), 1) := by decide +kernel
theorem dX6_init_34 : decode cX6_init 34 = .ok (.invokestatic 21, 3) := by decide +kernel
set_option maxRecDepth 100000 in
theorem cw_327 : Cond.methodLink RX6 21 yJ7_fill_53178 ∈ am_GW := am_in_ok (i := 327) (by decide +kernel)
set_option maxRecDepth 100000 in
theorem cw_328 : Cond.static yJ7_fill_53178 ∈ am_GW := am_in_ok (i := 328) (by decide +kernel)
set_option maxRecDepth 100000 in
theorem cw_116 : Cond.initialized RJ7 ∈ am_GW := am_in_ok (i := 116) (by decide +kernel)
set_option maxRecDepth 100000 in
theorem cw_329 : Cond.code yJ7_fill_53178 cJ7_fill_53178 4 none ∈ am_GW := am_in_ok (i := 329) (by decide +kernel)
theorem dX6_init_37 : decode cX6_init 37 = .ok (.aload_n 0, 1) := by decide +kernel
theorem dX6_init_38 : decode cX6_init 38 = .ok (.getfield 15, 3) := by decide +kernel
theorem dX6_init_41 : decode cX6_init 41 = .ok (.iconst (-1), 1) := by decide +kernel
theorem dX6_init_42 : decode cX6_init 42 = .ok (.invokestatic 21, 3) := by decide +kernel
theorem dX6_init_45 : decode cX6_init 45 = .ok (.aload_n 0, 1) := by decide +kernel
theorem dX6_init_46 : decode cX6_init 46 = .ok (.iconst (-1), 1) := by decide +kernel
theorem dX6_init_47 : decode cX6_init 47 = .ok (.putfield 27, 3) := by decide +kernel
set_option maxRecDepth 100000 in
theorem cw_335 : Cond.fieldLink RX6 27 "DoorCodes$Town" "latest" "I" ∈ am_GW := am_in_ok (i := 335) (by decide +kernel)
theorem dX6_init_50 : decode cX6_init 50 = .ok (.return_, 1) := by decide +kernel
set_option maxHeartbeats 4000000 in
set_option maxRecDepth 100000 in
/-- a new DoorCodes.Town -/
theorem ct_X6_init (l : Launch) (D : va_G) (cs : am_Cs) (h0 sz : Nat) : Met l yX6_init (.code yX6_init cX6_init 1 none :: am_GW) ({ frames := 2, cells := 3, slots := 423, locals := 100 }) (va_Pc [.ref h0] (ct_Pre D cs sz [(h0, .inr (6, [.null, .null, .null, .int 0, .int 0]))])) (va_Qv (fun _ : Unit => True) (fun _ t => ∃ (q24 q7 q16 : Nat), va_P D vwCl [(h0, .inr (6, [.ref q7, .ref q16, .ref q24, .int 0, .int (-1)])), (q24, .inl (cs.1, 90, .inl (fun _ => 0))), (q7, .inl (cs.1, 9, .inl (ct_fl 9 (-1) (fun _ => 0)))), (q16, .inl (cs.1, 324, .inl (ct_fl 324 (-1) (fun _ => 0))))] t.heap ∧ va_D (va_A [(h0, .inr (6, [.null, .null, .null, .int 0, .int 0]))] sz) [(h0, .inr (6, [.ref q7, .ref q16, .ref q24, .int 0, .int (-1)])), (q24, .inl (cs.1, 90, .inl (fun _ => 0))), (q7, .inl (cs.1, 9, .inl (ct_fl 9 (-1) (fun _ => 0)))), (q16, .inl (cs.1, 324, .inl (ct_fl 324 (-1) (fun _ => 0))))]) (va_A [(h0, .inr (6, [.null, .null, .null, .int 0, .int 0]))] sz)) 3 423 (va_A [(h0, .inr (6, [.null, .null, .null, .int 0, .int 0]))] sz) := by
  refine Met.ofW (cc := cX6_init) (maxL := 1) (ret := none) (by decide) rfl ?_
  intro p e s m args below meth c s₁ B hml hv
  obtain ⟨rfl, hsz, hP, hK, hD0, hN, hAO⟩ := hv
  have hx := B.exec
  have hb := B.bytes
  have hr := B.returns
  have hts : ∀ w ∈ am_GW, w.before _ s = true := fun w hw => atoms_spec (ws := (.code yX6_init cX6_init 1 none :: am_GW)) B.pre w (List.mem_cons_of_mem _ hw)
  have hown : s.vm.findClass RX6 = some m.cls := findClass_of_methodNamed B.named
  have hlocks := B.notSynchronized
  have hin : meth.name = "<init>" := (name_of_methodNamed B.named B.method).1
  subst hsz
  have hD := hD0.self (sz := s.heap.size)
  generalize hAe : va_A [(h0, .inr (6, [.null, .null, .null, .int 0, .int 0]))] s.heap.size = A at hD ⊢
  have hA : ∀ q : Nat, s.heap.size ≤ q → A q := fun q h => by rw [← hAe]; exact Or.inr h
  have hS : va_S A s.heap s.heap [] := va_S.rf
  have hl := lv_entry ([.ref h0]) (n := 1) (Nat.le_of_ble_eq_true rfl)
  rw [lg_entry_eq]
  generalize (lg_sl ([.ref h0]) ++ List.replicate (1 - (lg_sl ([.ref h0])).length) Slot.unset).toArray = ls at hl ⊢
  have hl : lv_has ls 1 [(0, .ref h0)] := hl
  refine lv_aload_n hx hb dX6_init_0 rfl (lv_at hl 0 rfl) ?_
  refine W.objInit hx hb hown (hts _ cw_326) (hts _ cw_126) (hts _ cw_127) rfl (by rw [hml]; exact hl.1) rfl dX6_init_1 (Nat.le_of_ble_eq_true rfl) (Nat.le_of_ble_eq_true rfl) ?_
  refine W.eq (g2 := F0 m 4 ls []) rfl ?_
  refine lv_aload_n hx hb dX6_init_4 rfl (lv_at hl 0 rfl) ?_
  refine lv_bipush (v := 9) hx hb dX6_init_5 (by decide) ?_
  refine ct_newint (N' := 9) hx hb (hts _ cw_164) hK hP hD hS hA (by decide) (by decide) (by decide) (by decide) (by decide) dX6_init_7 (fun q7 H hP hD hS => ?_)
  refine W.widen (k := 1) (n := 9) (by decide) (by decide) ?_
  refine va_putF (D := D) (ci := 6) (v := .ref q7) (ty := .array .int) (C := RX6) (T := TX6) (N := 5) hx hb hts (am_uws (ci := 6) (by decide)) tyX6 tyX6_ok nmX6 hown hK hP hD hS 0 rfl rfl 0 (by decide) (hts _ cw_330) (fun _ h9 => h9) rfl hin rfl (by decide +kernel) rfl rfl (Nat.le_of_ble_eq_true rfl) dX6_init_9 (fun H locs hP hD hS => ?_)
  have hP : va_P D vwCl [(h0, .inr (6, [.ref q7, .null, .null, .int 0, .int 0])), (q7, .inl (cs.1, 9, .inl (fun _ => 0)))] H := hP
  have hD : va_D A [(h0, .inr (6, [.ref q7, .null, .null, .int 0, .int 0])), (q7, .inl (cs.1, 9, .inl (fun _ => 0)))] := hD
  refine lv_aload_n hx hb dX6_init_12 rfl (lv_at hl 0 rfl) ?_
  refine lv_sipush (v := 324) hx hb dX6_init_13 (by decide) ?_
  refine ct_newint (N' := 324) hx hb (hts _ cw_164) hK hP hD hS hA (by decide) (by decide) (by decide) (by decide) (by decide) dX6_init_16 (fun q16 H hP hD hS => ?_)
  refine W.widen (k := 2) (n := 333) (by decide) (by decide) ?_
  refine va_putF (D := D) (ci := 6) (v := .ref q16) (ty := .array .int) (C := RX6) (T := TX6) (N := 5) hx hb hts (am_uws (ci := 6) (by decide)) tyX6 tyX6_ok nmX6 hown hK hP hD hS 0 rfl rfl 1 (by decide) (hts _ cw_331) (fun _ h9 => h9) rfl hin rfl (by decide +kernel) rfl rfl (Nat.le_of_ble_eq_true rfl) dX6_init_18 (fun H locs hP hD hS => ?_)
  have hP : va_P D vwCl [(h0, .inr (6, [.ref q7, .ref q16, .null, .int 0, .int 0])), (q7, .inl (cs.1, 9, .inl (fun _ => 0))), (q16, .inl (cs.1, 324, .inl (fun _ => 0)))] H := hP
  have hD : va_D A [(h0, .inr (6, [.ref q7, .ref q16, .null, .int 0, .int 0])), (q7, .inl (cs.1, 9, .inl (fun _ => 0))), (q16, .inl (cs.1, 324, .inl (fun _ => 0)))] := hD
  refine lv_aload_n hx hb dX6_init_21 rfl (lv_at hl 0 rfl) ?_
  refine lv_bipush (v := 90) hx hb dX6_init_22 (by decide) ?_
  refine ct_newint (N' := 90) hx hb (hts _ cw_164) hK hP hD hS hA (by decide) (by decide) (by decide) (by decide) (by decide) dX6_init_24 (fun q24 H hP hD hS => ?_)
  refine W.widen (k := 3) (n := 423) (by decide) (by decide) ?_
  refine va_putF (D := D) (ci := 6) (v := .ref q24) (ty := .array .int) (C := RX6) (T := TX6) (N := 5) hx hb hts (am_uws (ci := 6) (by decide)) tyX6 tyX6_ok nmX6 hown hK hP hD hS 0 rfl rfl 2 (by decide) (hts _ cw_332) (fun _ h9 => h9) rfl hin rfl (by decide +kernel) rfl rfl (Nat.le_of_ble_eq_true rfl) dX6_init_26 (fun H locs hP hD hS => ?_)
  have hP : va_P D vwCl [(h0, .inr (6, [.ref q7, .ref q16, .ref q24, .int 0, .int 0])), (q7, .inl (cs.1, 9, .inl (fun _ => 0))), (q16, .inl (cs.1, 324, .inl (fun _ => 0))), (q24, .inl (cs.1, 90, .inl (fun _ => 0)))] H := hP
  have hD : va_D A [(h0, .inr (6, [.ref q7, .ref q16, .ref q24, .int 0, .int 0])), (q7, .inl (cs.1, 9, .inl (fun _ => 0))), (q16, .inl (cs.1, 324, .inl (fun _ => 0))), (q24, .inl (cs.1, 90, .inl (fun _ => 0)))] := hD
  refine lv_aload_n hx hb dX6_init_29 rfl (lv_at hl 0 rfl) ?_
  refine va_get (D := D) (ci := 6) (v := .ref q7) (C := RX6) (T := TX6) (N := 5) hx hb hts (am_uws (ci := 6) (by decide)) hown hK hP 0 rfl rfl 0 (by decide) (hts _ cw_330) (fun _ h9 => h9) rfl dX6_init_30 ?_
  refine lv_iconst (v := (-1)) hx hb dX6_init_33 (by decide) ?_
  have hPc := hP.sub (ws' := [(q7, .inl (cs.1, 9, .inl (fun _ => 0)))]) [1] rfl
  have hDc := hD.sub (ws' := [(q7, .inl (cs.1, 9, .inl (fun _ => 0)))]) [1] (by decide) rfl
  have hFc := va_free (wc := [(q7, .inl (cs.1, 9, .inl (fun _ => 0)))]) hD hS hA [1] rfl
  refine va_callv (va_runS (As := [.ref q7, .int (-1)]) (rest := []) ⟨hx, hb, hml, hown, hts⟩ (ct_fill l D cs q7 H.size 9 (fun _ => 0) (-1) (by decide)) ⟨callB_of 2 hts (am_good (fun w hw => by rcases List.mem_cons.mp hw with hw | hw <;> first | exact hw ▸ cw_329 | exact hw)) rfl rfl rfl (hts _ cw_116) (hts _ cw_327) (by decide +kernel) ⟨Nat.le_of_ble_eq_true rfl, Nat.le_of_ble_eq_true rfl⟩, hts _ cw_328⟩ ⟨ct_blind, fun U hU hW => ⟨rfl, by rw [hU], by rw [hU]; exact hPc, va_K.moved hW.alike hK, hDc.weaken (fun _ _ _ _ => trivial), ct_nest hN hAO hW⟩⟩ rfl rfl hl.1 rfl (lv_room (Nat.le_of_ble_eq_true rfl)) dX6_init_34 ⟨by decide, by decide⟩) hS (fun q _ h => hFc q h) hFc (fun u t H1 locs ht hvm hw hB hz1 hk1 hS => ?_)
  obtain ⟨hP1, hD1⟩ := hB
  rw [ht] at hP1
  obtain ⟨hP, hD⟩ := va_join (wr := [(h0, .inr (6, [.ref q7, .ref q16, .ref q24, .int 0, .int 0])), (q16, .inl (cs.1, 324, .inl (fun _ => 0))), (q24, .inl (cs.1, 90, .inl (fun _ => 0)))]) (w1 := [(q7, .inl (cs.1, 9, .inl (ct_fl 9 (-1) (fun _ => 0))))]) hP hD [1] [0, 2, 3] rfl rfl (by decide) (by decide) hk1 hFc hP1 hD1
  generalize H1 = H at hP hS ⊢
  have hP : va_P D vwCl [(h0, .inr (6, [.ref q7, .ref q16, .ref q24, .int 0, .int 0])), (q16, .inl (cs.1, 324, .inl (fun _ => 0))), (q24, .inl (cs.1, 90, .inl (fun _ => 0))), (q7, .inl (cs.1, 9, .inl (ct_fl 9 (-1) (fun _ => 0))))] H := hP
  have hD : va_D A [(h0, .inr (6, [.ref q7, .ref q16, .ref q24, .int 0, .int 0])), (q16, .inl (cs.1, 324, .inl (fun _ => 0))), (q24, .inl (cs.1, 90, .inl (fun _ => 0))), (q7, .inl (cs.1, 9, .inl (ct_fl 9 (-1) (fun _ => 0))))] := hD
  refine lv_aload_n hx hb dX6_init_37 rfl (lv_at hl 0 rfl) ?_
  refine va_get (D := D) (ci := 6) (v := .ref q16) (C := RX6) (T := TX6) (N := 5) hx hb hts (am_uws (ci := 6) (by decide)) hown hK hP 0 rfl rfl 1 (by decide) (hts _ cw_331) (fun _ h9 => h9) rfl dX6_init_38 ?_
  refine lv_iconst (v := (-1)) hx hb dX6_init_41 (by decide) ?_
  have hPc := hP.sub (ws' := [(q16, .inl (cs.1, 324, .inl (fun _ => 0)))]) [1] rfl
  have hDc := hD.sub (ws' := [(q16, .inl (cs.1, 324, .inl (fun _ => 0)))]) [1] (by decide) rfl
  have hFc := va_free (wc := [(q16, .inl (cs.1, 324, .inl (fun _ => 0)))]) hD hS hA [1] rfl
  refine va_callv (va_runS (As := [.ref q16, .int (-1)]) (rest := []) ⟨hx, hb, hml, hown, hts⟩ (ct_fill l D cs q16 H.size 324 (fun _ => 0) (-1) (by decide)) ⟨callB_of 2 hts (am_good (fun w hw => by rcases List.mem_cons.mp hw with hw | hw <;> first | exact hw ▸ cw_329 | exact hw)) rfl rfl rfl (hts _ cw_116) (hts _ cw_327) (by decide +kernel) ⟨Nat.le_of_ble_eq_true rfl, Nat.le_of_ble_eq_true rfl⟩, hts _ cw_328⟩ ⟨ct_blind, fun U hU hW => ⟨rfl, by rw [hU], by rw [hU]; exact hPc, va_K.moved hW.alike hK, hDc.weaken (fun _ _ _ _ => trivial), ct_nest hN hAO hW⟩⟩ rfl rfl hl.1 rfl (lv_room (Nat.le_of_ble_eq_true rfl)) dX6_init_42 ⟨by decide, by decide⟩) hS (fun q _ h => hFc q h) hFc (fun u t H1 locs ht hvm hw hB hz1 hk1 hS => ?_)
  obtain ⟨hP1, hD1⟩ := hB
  rw [ht] at hP1
  obtain ⟨hP, hD⟩ := va_join (wr := [(h0, .inr (6, [.ref q7, .ref q16, .ref q24, .int 0, .int 0])), (q24, .inl (cs.1, 90, .inl (fun _ => 0))), (q7, .inl (cs.1, 9, .inl (ct_fl 9 (-1) (fun _ => 0))))]) (w1 := [(q16, .inl (cs.1, 324, .inl (ct_fl 324 (-1) (fun _ => 0))))]) hP hD [1] [0, 2, 3] rfl rfl (by decide) (by decide) hk1 hFc hP1 hD1
  generalize H1 = H at hP hS ⊢
  have hP : va_P D vwCl [(h0, .inr (6, [.ref q7, .ref q16, .ref q24, .int 0, .int 0])), (q24, .inl (cs.1, 90, .inl (fun _ => 0))), (q7, .inl (cs.1, 9, .inl (ct_fl 9 (-1) (fun _ => 0)))), (q16, .inl (cs.1, 324, .inl (ct_fl 324 (-1) (fun _ => 0))))] H := hP
  have hD : va_D A [(h0, .inr (6, [.ref q7, .ref q16, .ref q24, .int 0, .int 0])), (q24, .inl (cs.1, 90, .inl (fun _ => 0))), (q7, .inl (cs.1, 9, .inl (ct_fl 9 (-1) (fun _ => 0)))), (q16, .inl (cs.1, 324, .inl (ct_fl 324 (-1) (fun _ => 0))))] := hD
  refine lv_aload_n hx hb dX6_init_45 rfl (lv_at hl 0 rfl) ?_
  refine lv_iconst (v := (-1)) hx hb dX6_init_46 (by decide) ?_
  refine va_put (D := D) (ci := 6) (v := .int (-1)) (ty := .int) (C := RX6) (T := TX6) (N := 5) hx hb hts (am_uws (ci := 6) (by decide)) tyX6 tyX6_ok nmX6 hown hK hP hD hS 0 rfl rfl 4 (by decide) (hts _ cw_335) (fun _ h9 => h9) rfl (by decide +kernel) rfl rfl (Nat.le_of_ble_eq_true rfl) dX6_init_47 (fun H locs hP hD hS => ?_)
  have hP : va_P D vwCl [(h0, .inr (6, [.ref q7, .ref q16, .ref q24, .int 0, .int (-1)])), (q24, .inl (cs.1, 90, .inl (fun _ => 0))), (q7, .inl (cs.1, 9, .inl (ct_fl 9 (-1) (fun _ => 0)))), (q16, .inl (cs.1, 324, .inl (ct_fl 324 (-1) (fun _ => 0))))] H := hP
  have hD : va_D A [(h0, .inr (6, [.ref q7, .ref q16, .ref q24, .int 0, .int (-1)])), (q24, .inl (cs.1, 90, .inl (fun _ => 0))), (q7, .inl (cs.1, 9, .inl (ct_fl 9 (-1) (fun _ => 0)))), (q16, .inl (cs.1, 324, .inl (ct_fl 324 (-1) (fun _ => 0))))] := hD
  exact W.vret hx hb hr (fun t ht hW => ⟨⟨(), rfl, trivial, q24, q7, q16, by rw [ht]; exact hP, hD⟩, hS.F ht⟩) hS.2.2 dX6_init_50
