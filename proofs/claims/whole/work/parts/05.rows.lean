theorem d_Ro_degreeOf_0 : decode prog_7_method_2_code 0 = .ok (.aload_n 0, 1) := by decide +kernel
theorem d_Ro_degreeOf_1 : decode prog_7_method_2_code 1 = .ok (.arraylength, 1) := by decide +kernel
theorem d_Ro_degreeOf_2 : decode prog_7_method_2_code 2 = .ok (.iconst 1, 1) := by decide +kernel
theorem d_Ro_degreeOf_3 : decode prog_7_method_2_code 3 = .ok (.isub, 1) := by decide +kernel
theorem d_Ro_degreeOf_4 : decode prog_7_method_2_code 4 = .ok (.istore_n 1, 1) := by decide +kernel
theorem d_Ro_degreeOf_5 : decode prog_7_method_2_code 5 = .ok (.iload_n 1, 1) := by decide +kernel
theorem d_Ro_degreeOf_6 : decode prog_7_method_2_code 6 = .ok (.ifCond .lt 19, 3) := by decide +kernel
theorem d_Ro_degreeOf_9 : decode prog_7_method_2_code 9 = .ok (.aload_n 0, 1) := by decide +kernel
theorem d_Ro_degreeOf_10 : decode prog_7_method_2_code 10 = .ok (.iload_n 1, 1) := by decide +kernel
theorem d_Ro_degreeOf_11 : decode prog_7_method_2_code 11 = .ok (.laload, 1) := by decide +kernel
theorem d_Ro_degreeOf_12 : decode prog_7_method_2_code 12 = .ok (.lconst 0, 1) := by decide +kernel
theorem d_Ro_degreeOf_13 : decode prog_7_method_2_code 13 = .ok (.lcmp, 1) := by decide +kernel
theorem d_Ro_degreeOf_14 : decode prog_7_method_2_code 14 = .ok (.ifCond .eq 5, 3) := by decide +kernel
theorem d_Ro_degreeOf_17 : decode prog_7_method_2_code 17 = .ok (.iload_n 1, 1) := by decide +kernel
theorem d_Ro_degreeOf_18 : decode prog_7_method_2_code 18 = .ok (.ireturn, 1) := by decide +kernel
theorem d_Ro_degreeOf_19 : decode prog_7_method_2_code 19 = .ok (.iinc 1 (-1), 3) := by decide +kernel
theorem d_Ro_degreeOf_22 : decode prog_7_method_2_code 22 = .ok (.goto (-17), 3) := by decide +kernel
theorem d_Ro_degreeOf_25 : decode prog_7_method_2_code 25 = .ok (.iconst (-1), 1) := by decide +kernel
theorem d_Ro_degreeOf_26 : decode prog_7_method_2_code 26 = .ok (.ireturn, 1) := by decide +kernel
def B_Ro_degreeOf_5 (P : Int32 → Prop) (a0 : Nat) (M : zM) (k5 : Int32 → Prop) (v1 : Int32) : Prop := (v1 < 0 → P (-1 : Int32)) ∧ (¬ v1 < 0 → vp_in v1 (zlong a0) ∧ ((M a0 v1.toNatClampNeg) = (0 : Int64) → k5 (v1 + (-1 : Int32))) ∧ (¬ (M a0 v1.toNatClampNeg) = (0 : Int64) → P v1))
def L_Ro_degreeOf_5 (P : Int32 → Prop) (a0 : Nat) (M : zM) (n : Nat) : Int32 → Prop := Nat.rec (fun _ => False) (fun _ k => B_Ro_degreeOf_5 P a0 M k) n
def w_Ro_degreeOf (a0 : Nat) (M : zM) (P : Int32 → Prop) : Prop := 0 < zlong a0 ∧ ∀ x1 : Int32, x1 = (Int32.ofNat (zlong a0)) - (1 : Int32) → ∃ n, L_Ro_degreeOf_5 P a0 M n x1
def ws_Ro_degreeOf : List Cond := .code y_Ro_degreeOf prog_7_method_2_code 2 (Option.some Jvm.ClassFile.FieldType.int) :: zall
def rm_Ro_degreeOf : Room := { frames := 0, cells := 0, slots := 0, locals := 0 }
theorem hd_Ro_degreeOf : y_Ro_degreeOf.cls ≠ "java/lang/invoke/MethodHandle" ∧ y_Ro_degreeOf.cls ≠ "java/lang/invoke/VarHandle" ∧ (parseMethodDescriptor y_Ro_degreeOf.desc).map (fun d => d.parameters.length) = some 1 := by decide +kernel
set_option maxHeartbeats 4000000 in
set_option maxRecDepth 100000 in
theorem c_Ro_degreeOf (l : Launch) (G : zG) (b : Nat) (a0 : Nat) (M : zM) (N : zN) {P : Int32 → Prop} (hw : w_Ro_degreeOf a0 M P) : Met l y_Ro_degreeOf ws_Ro_degreeOf rm_Ro_degreeOf (zPc G b M N [.ref (b + a0)]) (zQi G b (fun r M' N' => P r ∧ M' = M ∧ N' = N)) 0 0 (zA b) := by
  refine Met.ofW (cc := prog_7_method_2_code) (maxL := 2) (ret := (Option.some Jvm.ClassFile.FieldType.int)) (by decide) rfl ?_
  intro p e s m args below meth c s₁ B hml hv
  obtain ⟨rfl, hZ, hK, hT⟩ := hv
  have hx := B.exec
  have hb := B.bytes
  have hr := B.returns
  have hts := atoms_spec (ws := ws_Ro_degreeOf) B.pre
  have hta : ∀ w ∈ zall, w.before ([.ref (b + a0)] : List Value).toArray s = true := fun w h => hts w (List.mem_cons_of_mem _ h)
  have hown : s.vm.findClass R_Ro = some m.cls := findClass_of_methodNamed B.named
  have hlocks := B.notSynchronized
  have hS : va_S (zA b) s.heap s.heap [] := va_S.rf
  have hl := lv_entry ([.ref (b + a0)]) (n := 2) (Nat.le_of_ble_eq_true rfl)
  rw [lg_entry_eq]
  generalize (lg_sl ([.ref (b + a0)]) ++ List.replicate (2 - (lg_sl ([.ref (b + a0)])).length) Slot.unset).toArray = ls at hl ⊢
  have hl : lv_has ls 2 [(0, .ref (b + a0))] := hl
  have lp5 : ∀ (n : Nat) (v1 : Int32) (H : Heap) (ls : Array Slot) (locs : List Loc), va_P G.1 zCl (zws G b M N) H → va_S (zA b) s.heap H locs → lv_has ls 2 [(0, .ref (b + a0)), (1, .int v1)] → L_Ro_degreeOf_5 P a0 M n v1 → W p l e (headSpec ws_Ro_degreeOf rm_Ro_degreeOf).room s m ([.ref (b + a0)] : List Value).toArray below meth c H locs 0 0 (MQ below (zQi G b (fun r M' N' => P r ∧ M' = M ∧ N' = N)) ([.ref (b + a0)] : List Value).toArray s 0 0 (zA b)) (F0 m 5 ls []) := by
    intro  n
    induction n with
    | zero => intro v1 H ls locs hZ hS hl hw; exact False.elim hw
    | succ n5 ih5 =>
      intro v1 H ls locs hZ hS hl hw
      have hw : B_Ro_degreeOf_5 P a0 M (L_Ro_degreeOf_5 P a0 M n5) v1 := hw
      unfold B_Ro_degreeOf_5 at hw
      refine lv_iload_n (pc := 5) hx hb d_Ro_degreeOf_5 rfl (lv_at hl 1 rfl) ?_
      refine lv_if_lt (pc := 6) (tgt := 25) hx hb d_Ro_degreeOf_6 (by decide) (fun hc => ?_) (fun hc => ?_)
      · have hw := hw.1 hc
        refine lv_iconst (pc := 25) (v := -1) hx hb d_Ro_degreeOf_25 (by decide) ?_
        exact z_iret hx hb hr hlocks hK hT hZ hS ⟨hw, rfl, rfl⟩ d_Ro_degreeOf_26
      · have hw := hw.2 hc
        refine lv_aload_n (pc := 9) hx hb d_Ro_degreeOf_9 rfl (lv_at hl 0 rfl) ?_
        refine lv_iload_n (pc := 10) hx hb d_Ro_degreeOf_10 rfl (lv_at hl 1 rfl) ?_
        obtain ⟨hc, hw⟩ := hw
        refine z_lald (pc := 11) hx hb hK hZ hc d_Ro_degreeOf_11 ?_
        refine lv_lconst (pc := 12) (v := 0) hx hb d_Ro_degreeOf_12 (by decide) ?_
        refine z_lc_eq (pc := 13) (tgt := 19) hx hb d_Ro_degreeOf_13 d_Ro_degreeOf_14 (by decide) (fun hc => ?_) (fun hc => ?_)
        · have hw := hw.1 hc
          refine lv_iinc (pc := 19) (k := 1) (v := v1 + (-1 : Int32)) (lv' := [(1, .int (v1 + (-1 : Int32))), (0, .ref (b + a0))]) hx hb d_Ro_degreeOf_19 hl rfl (by rfl) (by decide) rfl (fun ls hl => ?_)
          refine lv_goto (pc := 22) (tgt := 5) hx hb d_Ro_degreeOf_22 (by decide) ?_
          exact ih5 (v1 + (-1 : Int32)) _ _ _ hZ hS (lv_sub hl [1, 0] rfl) hw
        · have hw := hw.2 hc
          refine lv_iload_n (pc := 17) hx hb d_Ro_degreeOf_17 rfl (lv_at hl 1 rfl) ?_
          exact z_iret hx hb hr hlocks hK hT hZ hS ⟨hw, rfl, rfl⟩ d_Ro_degreeOf_18
  unfold w_Ro_degreeOf at hw
  refine lv_aload_n (pc := 0) hx hb d_Ro_degreeOf_0 rfl (lv_at hl 0 rfl) ?_
  obtain ⟨hc, hw⟩ := hw
  refine z_alen (pc := 1) hx hb hK hZ hc d_Ro_degreeOf_1 ?_
  refine lv_iconst (pc := 2) (v := 1) hx hb d_Ro_degreeOf_2 (by decide) ?_
  refine lv_isub (pc := 3) hx hb d_Ro_degreeOf_3 ?_
  refine lv_topi (fun x1 hx1 => ?_)
  have hw := hw x1 hx1
  refine lv_istore_n (pc := 4) (lv' := [(1, .int x1), (0, .ref (b + a0))]) hx hb d_Ro_degreeOf_4 rfl hl (by decide) rfl (fun ls hl => ?_)
  obtain ⟨n, hw⟩ := hw
  exact lp5  n x1 _ _ _ hZ hS (lv_sub hl [1, 0] rfl) hw
theorem d_Ro_leadingOf_0 : decode prog_7_method_3_code 0 = .ok (.aload_n 0, 1) := by decide +kernel
theorem d_Ro_leadingOf_1 : decode prog_7_method_3_code 1 = .ok (.invokestatic 9, 3) := by decide +kernel
theorem d_Ro_leadingOf_4 : decode prog_7_method_3_code 4 = .ok (.istore_n 1, 1) := by decide +kernel
theorem d_Ro_leadingOf_5 : decode prog_7_method_3_code 5 = .ok (.iload_n 1, 1) := by decide +kernel
theorem d_Ro_leadingOf_6 : decode prog_7_method_3_code 6 = .ok (.ifCond .ge 7, 3) := by decide +kernel
theorem d_Ro_leadingOf_9 : decode prog_7_method_3_code 9 = .ok (.lconst 0, 1) := by decide +kernel
theorem d_Ro_leadingOf_10 : decode prog_7_method_3_code 10 = .ok (.goto 6, 3) := by decide +kernel
theorem d_Ro_leadingOf_13 : decode prog_7_method_3_code 13 = .ok (.aload_n 0, 1) := by decide +kernel
theorem d_Ro_leadingOf_14 : decode prog_7_method_3_code 14 = .ok (.iload_n 1, 1) := by decide +kernel
theorem d_Ro_leadingOf_15 : decode prog_7_method_3_code 15 = .ok (.laload, 1) := by decide +kernel
theorem d_Ro_leadingOf_16 : decode prog_7_method_3_code 16 = .ok (.lreturn, 1) := by decide +kernel
def w_Ro_leadingOf (a0 : Nat) (M : zM) (P : Int64 → Prop) : Prop := w_Ro_degreeOf a0 M (fun r1 => (0 ≤ r1 → vp_in r1 (zlong a0) ∧ P (M a0 r1.toNatClampNeg)) ∧ (¬ 0 ≤ r1 → P (0 : Int64)))
def ws_Ro_leadingOf : List Cond := .code y_Ro_leadingOf prog_7_method_3_code 2 (Option.some Jvm.ClassFile.FieldType.long) :: zall
def rm_Ro_leadingOf : Room := { frames := 1, cells := 0, slots := 0, locals := 21 }
theorem hd_Ro_leadingOf : y_Ro_leadingOf.cls ≠ "java/lang/invoke/MethodHandle" ∧ y_Ro_leadingOf.cls ≠ "java/lang/invoke/VarHandle" ∧ (parseMethodDescriptor y_Ro_leadingOf.desc).map (fun d => d.parameters.length) = some 1 := by decide +kernel
set_option maxHeartbeats 4000000 in
set_option maxRecDepth 100000 in
theorem c_Ro_leadingOf (l : Launch) (G : zG) (b : Nat) (a0 : Nat) (M : zM) (N : zN) {P : Int64 → Prop} (hw : w_Ro_leadingOf a0 M P) : Met l y_Ro_leadingOf ws_Ro_leadingOf rm_Ro_leadingOf (zPc G b M N [.ref (b + a0)]) (zQl G b (fun r M' N' => P r ∧ M' = M ∧ N' = N)) 0 0 (zA b) := by
  refine Met.ofW (cc := prog_7_method_3_code) (maxL := 2) (ret := (Option.some Jvm.ClassFile.FieldType.long)) (by decide) rfl ?_
  intro p e s m args below meth c s₁ B hml hv
  obtain ⟨rfl, hZ, hK, hT⟩ := hv
  have hx := B.exec
  have hb := B.bytes
  have hr := B.returns
  have hts := atoms_spec (ws := ws_Ro_leadingOf) B.pre
  have hta : ∀ w ∈ zall, w.before ([.ref (b + a0)] : List Value).toArray s = true := fun w h => hts w (List.mem_cons_of_mem _ h)
  have hown : s.vm.findClass R_Ro = some m.cls := findClass_of_methodNamed B.named
  have hlocks := B.notSynchronized
  have hS : va_S (zA b) s.heap s.heap [] := va_S.rf
  have hl := lv_entry ([.ref (b + a0)]) (n := 2) (Nat.le_of_ble_eq_true rfl)
  rw [lg_entry_eq]
  generalize (lg_sl ([.ref (b + a0)]) ++ List.replicate (2 - (lg_sl ([.ref (b + a0)])).length) Slot.unset).toArray = ls at hl ⊢
  have hl : lv_has ls 2 [(0, .ref (b + a0))] := hl
  unfold w_Ro_leadingOf at hw
  refine lv_aload_n (pc := 0) hx hb d_Ro_leadingOf_0 rfl (lv_at hl 0 rfl) ?_
  refine z_calli (pc := 1) (va_runS (As := [.ref (b + a0)]) (rest := []) ⟨hx, hb, hml, hown, hts⟩ (c_Ro_degreeOf l G b a0 M N hw) (va_cwS 1 hts (z_good (zgS wd406 wd312 wd13 wd313)) rfl rfl rfl hd_Ro_degreeOf ⟨Nat.le_of_ble_eq_true rfl, Nat.le_of_ble_eq_true rfl⟩) (z_preS hZ hK hT hS) rfl rfl hl.1 rfl (lv_room (Nat.le_of_ble_eq_true rfl)) d_Ro_leadingOf_1 ⟨Nat.le_of_ble_eq_true rfl, Nat.le_of_ble_eq_true rfl⟩) hS (fun r1 M2 N3 H locs hw hZ hS => ?_)
  obtain ⟨hw, eM2, eN3⟩ := hw
  rw [eM2, eN3] at hZ
  refine lv_istore_n (pc := 4) (lv' := [(1, .int r1), (0, .ref (b + a0))]) hx hb d_Ro_leadingOf_4 rfl hl (by decide) rfl (fun ls hl => ?_)
  refine lv_iload_n (pc := 5) hx hb d_Ro_leadingOf_5 rfl (lv_at hl 0 rfl) ?_
  refine lv_if_ge (pc := 6) (tgt := 13) hx hb d_Ro_leadingOf_6 (by decide) (fun hc => ?_) (fun hc => ?_)
  · have hw := hw.1 hc
    refine lv_aload_n (pc := 13) hx hb d_Ro_leadingOf_13 rfl (lv_at hl 1 rfl) ?_
    refine lv_iload_n (pc := 14) hx hb d_Ro_leadingOf_14 rfl (lv_at hl 0 rfl) ?_
    obtain ⟨hc, hw⟩ := hw
    refine z_lald (pc := 15) hx hb hK hZ hc d_Ro_leadingOf_15 ?_
    exact z_lret hx hb hr hlocks hK hT hZ hS ⟨hw, rfl, rfl⟩ d_Ro_leadingOf_16
  · have hw := hw.2 hc
    refine lv_lconst (pc := 9) (v := 0) hx hb d_Ro_leadingOf_9 (by decide) ?_
    refine lv_goto (pc := 10) (tgt := 16) hx hb d_Ro_leadingOf_10 (by decide) ?_
    exact z_lret hx hb hr hlocks hK hT hZ hS ⟨hw, rfl, rfl⟩ d_Ro_leadingOf_16
theorem d_Ro_copyInto_0 : decode prog_7_method_4_code 0 = .ok (.aload_n 0, 1) := by decide +kernel
theorem d_Ro_copyInto_1 : decode prog_7_method_4_code 1 = .ok (.iconst 0, 1) := by decide +kernel
theorem d_Ro_copyInto_2 : decode prog_7_method_4_code 2 = .ok (.aload_n 1, 1) := by decide +kernel
theorem d_Ro_copyInto_3 : decode prog_7_method_4_code 3 = .ok (.iconst 0, 1) := by decide +kernel
theorem d_Ro_copyInto_4 : decode prog_7_method_4_code 4 = .ok (.bipush 8, 2) := by decide +kernel
theorem d_Ro_copyInto_6 : decode prog_7_method_4_code 6 = .ok (.invokestatic 15, 3) := by decide +kernel
theorem d_Ro_copyInto_9 : decode prog_7_method_4_code 9 = .ok (.return_, 1) := by decide +kernel
def w_Ro_copyInto (a0 : Nat) (a1 : Nat) (M : zM) (P : zM → Prop) : Prop := 8 ≤ zlong a0 ∧ 8 ≤ zlong a1 ∧ ∀ M1 : zM, M1 = zcpy M a0 a1 0 0 8 → P M1
def ws_Ro_copyInto : List Cond := .code y_Ro_copyInto prog_7_method_4_code 2 (Option.none : Option Jvm.ClassFile.FieldType) :: zall
def rm_Ro_copyInto : Room := { frames := 1, cells := 0, slots := 0, locals := 38 }
theorem hd_Ro_copyInto : y_Ro_copyInto.cls ≠ "java/lang/invoke/MethodHandle" ∧ y_Ro_copyInto.cls ≠ "java/lang/invoke/VarHandle" ∧ (parseMethodDescriptor y_Ro_copyInto.desc).map (fun d => d.parameters.length) = some 2 := by decide +kernel
set_option maxHeartbeats 4000000 in
set_option maxRecDepth 100000 in
theorem c_Ro_copyInto (l : Launch) (G : zG) (b : Nat) (a0 : Nat) (a1 : Nat) (M : zM) (N : zN) {P : zM → Prop} (hw : w_Ro_copyInto a0 a1 M P) : Met l y_Ro_copyInto ws_Ro_copyInto rm_Ro_copyInto (zPc G b M N [.ref (b + a0), .ref (b + a1)]) (zQv G b (fun M' N' => P M' ∧ N' = N)) 0 0 (zA b) := by
  refine Met.ofW (cc := prog_7_method_4_code) (maxL := 2) (ret := (Option.none : Option Jvm.ClassFile.FieldType)) (by decide) rfl ?_
  intro p e s m args below meth c s₁ B hml hv
  obtain ⟨rfl, hZ, hK, hT⟩ := hv
  have hx := B.exec
  have hb := B.bytes
  have hr := B.returns
  have hts := atoms_spec (ws := ws_Ro_copyInto) B.pre
  have hta : ∀ w ∈ zall, w.before ([.ref (b + a0), .ref (b + a1)] : List Value).toArray s = true := fun w h => hts w (List.mem_cons_of_mem _ h)
  have hown : s.vm.findClass R_Ro = some m.cls := findClass_of_methodNamed B.named
  have hlocks := B.notSynchronized
  have hS : va_S (zA b) s.heap s.heap [] := va_S.rf
  have hl := lv_entry ([.ref (b + a0), .ref (b + a1)]) (n := 2) (Nat.le_of_ble_eq_true rfl)
  rw [lg_entry_eq]
  generalize (lg_sl ([.ref (b + a0), .ref (b + a1)]) ++ List.replicate (2 - (lg_sl ([.ref (b + a0), .ref (b + a1)])).length) Slot.unset).toArray = ls at hl ⊢
  have hl : lv_has ls 2 [(0, .ref (b + a0)), (1, .ref (b + a1))] := hl
  unfold w_Ro_copyInto at hw
  refine lv_aload_n (pc := 0) hx hb d_Ro_copyInto_0 rfl (lv_at hl 0 rfl) ?_
  refine lv_iconst (pc := 1) (v := 0) hx hb d_Ro_copyInto_1 (by decide) ?_
  refine lv_aload_n (pc := 2) hx hb d_Ro_copyInto_2 rfl (lv_at hl 1 rfl) ?_
  refine lv_iconst (pc := 3) (v := 0) hx hb d_Ro_copyInto_3 (by decide) ?_
  refine lv_bipush (pc := 4) (v := 8) hx hb d_Ro_copyInto_4 (by decide) ?_
  obtain ⟨hc1, hc2, hw⟩ := hw
  refine z_copy8 (pc := 6) hx hb (hml.trans hl.1.symm) hta hown (hta _ wd365) hK hZ hS hc1 hc2 (Nat.le_of_ble_eq_true rfl) (Nat.le_of_ble_eq_true rfl) d_Ro_copyInto_6 (fun M1 H locs hM1 hZ hS => ?_)
  have hw := hw M1 hM1
  exact z_vret hx hb hr hlocks hK hT hZ hS ⟨hw, rfl⟩ d_Ro_copyInto_9
