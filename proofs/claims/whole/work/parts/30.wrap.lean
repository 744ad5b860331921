theorem d_La_put_0 : decode method_3_code 0 = .ok (.aload 4, 2) := by decide +kernel
theorem d_La_put_2 : decode method_3_code 2 = .ok (.iconst 0, 1) := by decide +kernel
theorem d_La_put_3 : decode method_3_code 3 = .ok (.aload_n 0, 1) := by decide +kernel
theorem d_La_put_4 : decode method_3_code 4 = .ok (.iload_n 1, 1) := by decide +kernel
theorem d_La_put_5 : decode method_3_code 5 = .ok (.iload_n 2, 1) := by decide +kernel
theorem d_La_put_6 : decode method_3_code 6 = .ok (.iload_n 3, 1) := by decide +kernel
theorem d_La_put_7 : decode method_3_code 7 = .ok (.invokevirtual 7, 3) := by decide +kernel
theorem d_La_put_10 : decode method_3_code 10 = .ok (.i2l, 1) := by decide +kernel
theorem d_La_put_11 : decode method_3_code 11 = .ok (.lastore, 1) := by decide +kernel
theorem d_La_put_12 : decode method_3_code 12 = .ok (.goto 11, 3) := by decide +kernel
theorem d_La_put_15 : decode method_3_code 15 = .ok (.astore 5, 2) := by decide +kernel
theorem d_La_put_17 : decode method_3_code 17 = .ok (.iconst 1, 1) := by decide +kernel
theorem d_La_put_18 : decode method_3_code 18 = .ok (.ireturn, 1) := by decide +kernel
theorem d_La_put_19 : decode method_3_code 19 = .ok (.astore 5, 2) := by decide +kernel
theorem d_La_put_21 : decode method_3_code 21 = .ok (.iconst 2, 1) := by decide +kernel
theorem d_La_put_22 : decode method_3_code 22 = .ok (.ireturn, 1) := by decide +kernel
theorem d_La_put_23 : decode method_3_code 23 = .ok (.iconst 0, 1) := by decide +kernel
theorem d_La_put_24 : decode method_3_code 24 = .ok (.ireturn, 1) := by decide +kernel
def w_La_put (a1 : Int32) (a2 : Int32) (a3 : Int32) (M : zM) (P : Int32 → zM → Prop) : Prop := w_IS_put a1 a2 a3 M (fun r1 M2 => vp_in (0 : Int32) (zlong 119) ∧ ∀ M4 : zM, M4 = zput M2 119 (0 : Int32).toNatClampNeg r1.toInt64 → P (0 : Int32) M4) (fun k M5 => (k = 1 → P (1 : Int32) M5) ∧ (k = 2 → P (2 : Int32) M5) ∧ (k = 1 ∨ k = 2))
def ws_La_put : List Cond := .codeWith y_La_put method_3_code 6 (Option.some Jvm.ClassFile.FieldType.int) [((0 : Nat), (12 : Nat), (15 : Nat), (13 : Nat)), ((0 : Nat), (12 : Nat), (19 : Nat), (15 : Nat))] :: zall
def rm_La_put : Room := { frames := 8, cells := 3, slots := 18, locals := 132 }
theorem hd_La_put : y_La_put.cls ≠ "java/lang/invoke/MethodHandle" ∧ y_La_put.cls ≠ "java/lang/invoke/VarHandle" ∧ (parseMethodDescriptor y_La_put.desc).map (fun d => d.parameters.length) = some 5 := by decide +kernel
set_option maxHeartbeats 4000000 in
set_option maxRecDepth 100000 in
theorem c_La_put (l : Launch) (hst : l.stackTraces = false) (G : zG) (b : Nat) (a1 : Int32) (a2 : Int32) (a3 : Int32) (M : zM) (N : zN) {P : Int32 → zM → Prop} (hw : w_La_put a1 a2 a3 M P) : Met l y_La_put ws_La_put rm_La_put (zPc G b M N [.ref (b + 0), .int a1, .int a2, .int a3, .ref (b + 119)]) (zQi G b (fun r M' N' => P r M' ∧ N' = N)) 3 18 (zA b) := by
  refine va_MetW (cc := method_3_code) (maxL := 6) (ret := (Option.some Jvm.ClassFile.FieldType.int)) (hh := [((0 : Nat), (12 : Nat), (15 : Nat), (13 : Nat)), ((0 : Nat), (12 : Nat), (19 : Nat), (15 : Nat))]) (by decide) rfl ?_
  intro p e s m args below meth c s₁ B hml hv
  obtain ⟨rfl, hZ, hK, hT⟩ := hv
  have hx := B.exec
  have hb := B.bytes
  have hr := B.returns
  have hts := atoms_spec (ws := ws_La_put) B.pre
  have hta : ∀ w ∈ zall, w.before ([.ref (b + 0), .int a1, .int a2, .int a3, .ref (b + 119)] : List Value).toArray s = true := fun w h => hts w (List.mem_cons_of_mem _ h)
  have hown : s.vm.findClass R_La = some m.cls := findClass_of_methodNamed B.named
  have hlocks := B.notSynchronized
  have hS : va_S (zA b) s.heap s.heap [] := va_S.rf
  have hl := lv_entry ([.ref (b + 0), .int a1, .int a2, .int a3, .ref (b + 119)]) (n := 6) (Nat.le_of_ble_eq_true rfl)
  rw [lg_entry_eq]
  generalize (lg_sl ([.ref (b + 0), .int a1, .int a2, .int a3, .ref (b + 119)]) ++ List.replicate (6 - (lg_sl ([.ref (b + 0), .int a1, .int a2, .int a3, .ref (b + 119)])).length) Slot.unset).toArray = ls at hl ⊢
  have hl : lv_has ls 6 [(0, .ref (b + 0)), (1, .int a1), (2, .int a2), (3, .int a3), (4, .ref (b + 119))] := hl
  have htab : c.exceptionTable.toList = tableOf [((0 : Nat), (12 : Nat), (15 : Nat), (13 : Nat)), ((0 : Nat), (12 : Nat), (19 : Nat), (15 : Nat))] := vx_table (x := y_La_put) B (hts _ List.mem_cons_self)
  unfold w_La_put at hw
  refine lv_aload (pc := 0) hx hb d_La_put_0 (lv_at hl 4 rfl) ?_
  refine lv_iconst (pc := 2) (v := 0) hx hb d_La_put_2 (by decide) ?_
  refine lv_aload_n (pc := 3) hx hb d_La_put_3 rfl (lv_at hl 0 rfl) ?_
  refine lv_iload_n (pc := 4) hx hb d_La_put_4 rfl (lv_at hl 1 rfl) ?_
  refine lv_iload_n (pc := 5) hx hb d_La_put_5 rfl (lv_at hl 2 rfl) ?_
  refine lv_iload_n (pc := 6) hx hb d_La_put_6 rfl (lv_at hl 3 rfl) ?_
  refine z_xcalli (pc := 7) (vx_runV (C := R_IS) (b := b + 0) (As := [.int a1, .int a2, .int a3]) (rest := [.int (0 : Int32), .ref (b + 119)]) ⟨hx, hb, hml, hown, hts⟩ (c_IS_put l hst G b a1 a2 a3 M N hw) (cwV 3 hts (z_good (zgV wd219 wd220 wd221 wd1 wd222)) rfl rfl rfl ⟨rfl, hd_IS_put⟩ ⟨Nat.le_of_ble_eq_true rfl, Nat.le_of_ble_eq_true rfl⟩) (z_preV zo_IS rfl rfl hZ hK hT hS) rfl rfl hl.1 rfl (lv_room (Nat.le_of_ble_eq_true rfl)) d_La_put_7 ⟨Nat.le_of_ble_eq_true rfl, Nat.le_of_ble_eq_true rfl⟩) hS (fun k q ce M5 N6 H locs hw hZ hS h1 h2 h3 => ?_) (fun r1 M2 N3 H locs hw hZ hS => ?_)
  · obtain ⟨hw, eN6⟩ := hw
    rw [eN6] at hZ
    obtain ⟨hw0, hw1, hk⟩ := hw
    rcases hk with rfl | rfl
    · have hw := hw0 rfl
      refine vx_catch (own := R_La) (name := zxn 1) (E := zxn 1) hown [] ⟨0, 12, 15, 13⟩ [⟨0, 12, 19, 15⟩] (htab.trans rfl) (fun _ h => absurd h List.not_mem_nil) (by decide) (by decide) (hta _ wd217) (va_Nw.use rfl (hT.1.1 1 (by decide) (by decide))) h1 h2 h3 ?_
      refine lv_astore (pc := 15) (lv' := [(5, .ref q), (0, .ref (b + 0)), (1, .int a1), (2, .int a2), (3, .int a3), (4, .ref (b + 119))]) hx hb d_La_put_15 hl (by decide) rfl (fun ls hl => ?_)
      refine lv_iconst (pc := 17) (v := 1) hx hb d_La_put_17 (by decide) ?_
      exact z_iret hx hb hr hlocks hK hT hZ hS ⟨hw, rfl⟩ d_La_put_18
    · have hw := hw1 rfl
      refine vx_catch (own := R_La) (name := zxn 2) (E := zxn 2) hown [⟨0, 12, 15, 13⟩] ⟨0, 12, 19, 15⟩ [] (htab.trans rfl) (List.forall_mem_cons.mpr ⟨Or.inr ⟨by decide, zxn 1, hta _ wd217, hT.1.2.2 2 1 (by decide) (by decide) (by decide) (by decide) (by decide)⟩, fun _ h => absurd h List.not_mem_nil⟩) (by decide) (by decide) (hta _ wd218) (va_Nw.use rfl (hT.1.1 2 (by decide) (by decide))) h1 h2 h3 ?_
      refine lv_astore (pc := 19) (lv' := [(5, .ref q), (0, .ref (b + 0)), (1, .int a1), (2, .int a2), (3, .int a3), (4, .ref (b + 119))]) hx hb d_La_put_19 hl (by decide) rfl (fun ls hl => ?_)
      refine lv_iconst (pc := 21) (v := 2) hx hb d_La_put_21 (by decide) ?_
      exact z_iret hx hb hr hlocks hK hT hZ hS ⟨hw, rfl⟩ d_La_put_22
  · obtain ⟨hw, eN3⟩ := hw
    rw [eN3] at hZ
    refine lv_i2l (pc := 10) (v := r1.toInt64) hx hb d_La_put_10 rfl ?_
    obtain ⟨hc, hw⟩ := hw
    refine z_last (pc := 11) hx hb hK hZ hS hc d_La_put_11 (fun M4 H locs hM4 hZ hS => ?_)
    have hw := hw M4 hM4
    refine lv_goto (pc := 12) (tgt := 23) hx hb d_La_put_12 (by decide) ?_
    refine lv_iconst (pc := 23) (v := 0) hx hb d_La_put_23 (by decide) ?_
    exact z_iret hx hb hr hlocks hK hT hZ hS ⟨hw, rfl⟩ d_La_put_24
theorem d_La_coefficient_0 : decode method_4_code 0 = .ok (.aload_n 3, 1) := by decide +kernel
theorem d_La_coefficient_1 : decode method_4_code 1 = .ok (.iconst 0, 1) := by decide +kernel
theorem d_La_coefficient_2 : decode method_4_code 2 = .ok (.aload_n 0, 1) := by decide +kernel
theorem d_La_coefficient_3 : decode method_4_code 3 = .ok (.iload_n 1, 1) := by decide +kernel
theorem d_La_coefficient_4 : decode method_4_code 4 = .ok (.iload_n 2, 1) := by decide +kernel
theorem d_La_coefficient_5 : decode method_4_code 5 = .ok (.invokevirtual 17, 3) := by decide +kernel
theorem d_La_coefficient_8 : decode method_4_code 8 = .ok (.i2l, 1) := by decide +kernel
theorem d_La_coefficient_9 : decode method_4_code 9 = .ok (.lastore, 1) := by decide +kernel
theorem d_La_coefficient_10 : decode method_4_code 10 = .ok (.goto 7, 3) := by decide +kernel
theorem d_La_coefficient_13 : decode method_4_code 13 = .ok (.astore 4, 2) := by decide +kernel
theorem d_La_coefficient_15 : decode method_4_code 15 = .ok (.iconst 1, 1) := by decide +kernel
theorem d_La_coefficient_16 : decode method_4_code 16 = .ok (.ireturn, 1) := by decide +kernel
theorem d_La_coefficient_17 : decode method_4_code 17 = .ok (.iconst 0, 1) := by decide +kernel
theorem d_La_coefficient_18 : decode method_4_code 18 = .ok (.ireturn, 1) := by decide +kernel
def w_La_coefficient (a1 : Int32) (a2 : Int32) (M : zM) (P : Int32 → zM → Prop) : Prop := w_IS_coefficient a1 a2 M (fun r1 => vp_in (0 : Int32) (zlong 119) ∧ ∀ M4 : zM, M4 = zput M 119 (0 : Int32).toNatClampNeg r1.toInt64 → P (0 : Int32) M4) (fun k => (k = 1 → P (1 : Int32) M) ∧ (k = 1))
def ws_La_coefficient : List Cond := .codeWith y_La_coefficient method_4_code 5 (Option.some Jvm.ClassFile.FieldType.int) [((0 : Nat), (10 : Nat), (13 : Nat), (13 : Nat))] :: zall
def rm_La_coefficient : Room := { frames := 8, cells := 2, slots := 12, locals := 131 }
theorem hd_La_coefficient : y_La_coefficient.cls ≠ "java/lang/invoke/MethodHandle" ∧ y_La_coefficient.cls ≠ "java/lang/invoke/VarHandle" ∧ (parseMethodDescriptor y_La_coefficient.desc).map (fun d => d.parameters.length) = some 4 := by decide +kernel
set_option maxHeartbeats 4000000 in
set_option maxRecDepth 100000 in
theorem c_La_coefficient (l : Launch) (hst : l.stackTraces = false) (G : zG) (b : Nat) (a1 : Int32) (a2 : Int32) (M : zM) (N : zN) {P : Int32 → zM → Prop} (hw : w_La_coefficient a1 a2 M P) : Met l y_La_coefficient ws_La_coefficient rm_La_coefficient (zPc G b M N [.ref (b + 0), .int a1, .int a2, .ref (b + 119)]) (zQi G b (fun r M' N' => P r M' ∧ N' = N)) 2 12 (zA b) := by
  refine va_MetW (cc := method_4_code) (maxL := 5) (ret := (Option.some Jvm.ClassFile.FieldType.int)) (hh := [((0 : Nat), (10 : Nat), (13 : Nat), (13 : Nat))]) (by decide) rfl ?_
  intro p e s m args below meth c s₁ B hml hv
  obtain ⟨rfl, hZ, hK, hT⟩ := hv
  have hx := B.exec
  have hb := B.bytes
  have hr := B.returns
  have hts := atoms_spec (ws := ws_La_coefficient) B.pre
  have hta : ∀ w ∈ zall, w.before ([.ref (b + 0), .int a1, .int a2, .ref (b + 119)] : List Value).toArray s = true := fun w h => hts w (List.mem_cons_of_mem _ h)
  have hown : s.vm.findClass R_La = some m.cls := findClass_of_methodNamed B.named
  have hlocks := B.notSynchronized
  have hS : va_S (zA b) s.heap s.heap [] := va_S.rf
  have hl := lv_entry ([.ref (b + 0), .int a1, .int a2, .ref (b + 119)]) (n := 5) (Nat.le_of_ble_eq_true rfl)
  rw [lg_entry_eq]
  generalize (lg_sl ([.ref (b + 0), .int a1, .int a2, .ref (b + 119)]) ++ List.replicate (5 - (lg_sl ([.ref (b + 0), .int a1, .int a2, .ref (b + 119)])).length) Slot.unset).toArray = ls at hl ⊢
  have hl : lv_has ls 5 [(0, .ref (b + 0)), (1, .int a1), (2, .int a2), (3, .ref (b + 119))] := hl
  have htab : c.exceptionTable.toList = tableOf [((0 : Nat), (10 : Nat), (13 : Nat), (13 : Nat))] := vx_table (x := y_La_coefficient) B (hts _ List.mem_cons_self)
  unfold w_La_coefficient at hw
  refine lv_aload_n (pc := 0) hx hb d_La_coefficient_0 rfl (lv_at hl 3 rfl) ?_
  refine lv_iconst (pc := 1) (v := 0) hx hb d_La_coefficient_1 (by decide) ?_
  refine lv_aload_n (pc := 2) hx hb d_La_coefficient_2 rfl (lv_at hl 0 rfl) ?_
  refine lv_iload_n (pc := 3) hx hb d_La_coefficient_3 rfl (lv_at hl 1 rfl) ?_
  refine lv_iload_n (pc := 4) hx hb d_La_coefficient_4 rfl (lv_at hl 2 rfl) ?_
  refine z_xcalli (pc := 5) (vx_runV (C := R_IS) (b := b + 0) (As := [.int a1, .int a2]) (rest := [.int (0 : Int32), .ref (b + 119)]) ⟨hx, hb, hml, hown, hts⟩ (c_IS_coefficient l hst G b a1 a2 M N hw) (cwV 2 hts (z_good (zgV wd317 wd318 wd319 wd1 wd320)) rfl rfl rfl ⟨rfl, hd_IS_coefficient⟩ ⟨Nat.le_of_ble_eq_true rfl, Nat.le_of_ble_eq_true rfl⟩) (z_preV zo_IS rfl rfl hZ hK hT hS) rfl rfl hl.1 rfl (lv_room (Nat.le_of_ble_eq_true rfl)) d_La_coefficient_5 ⟨Nat.le_of_ble_eq_true rfl, Nat.le_of_ble_eq_true rfl⟩) hS (fun k q ce M5 N6 H locs hw hZ hS h1 h2 h3 => ?_) (fun r1 M2 N3 H locs hw hZ hS => ?_)
  · obtain ⟨hw, eM5, eN6⟩ := hw
    rw [eM5, eN6] at hZ
    obtain ⟨hw0, hk⟩ := hw
    subst hk
    have hw := hw0 rfl
    refine vx_catch (own := R_La) (name := zxn 1) (E := zxn 1) hown [] ⟨0, 10, 13, 13⟩ [] (htab.trans rfl) (fun _ h => absurd h List.not_mem_nil) (by decide) (by decide) (hta _ wd217) (va_Nw.use rfl (hT.1.1 1 (by decide) (by decide))) h1 h2 h3 ?_
    refine lv_astore (pc := 13) (lv' := [(4, .ref q), (0, .ref (b + 0)), (1, .int a1), (2, .int a2), (3, .ref (b + 119))]) hx hb d_La_coefficient_13 hl (by decide) rfl (fun ls hl => ?_)
    refine lv_iconst (pc := 15) (v := 1) hx hb d_La_coefficient_15 (by decide) ?_
    exact z_iret hx hb hr hlocks hK hT hZ hS ⟨hw, rfl⟩ d_La_coefficient_16
  · obtain ⟨hw, eM2, eN3⟩ := hw
    rw [eM2, eN3] at hZ
    refine lv_i2l (pc := 8) (v := r1.toInt64) hx hb d_La_coefficient_8 rfl ?_
    obtain ⟨hc, hw⟩ := hw
    refine z_last (pc := 9) hx hb hK hZ hS hc d_La_coefficient_9 (fun M4 H locs hM4 hZ hS => ?_)
    have hw := hw M4 hM4
    refine lv_goto (pc := 10) (tgt := 17) hx hb d_La_coefficient_10 (by decide) ?_
    refine lv_iconst (pc := 17) (v := 0) hx hb d_La_coefficient_17 (by decide) ?_
    exact z_iret hx hb hr hlocks hK hT hZ hS ⟨hw, rfl⟩ d_La_coefficient_18
theorem d_La_degree_0 : decode method_5_code 0 = .ok (.aload_n 2, 1) := by decide +kernel
theorem d_La_degree_1 : decode method_5_code 1 = .ok (.iconst 0, 1) := by decide +kernel
theorem d_La_degree_2 : decode method_5_code 2 = .ok (.aload_n 0, 1) := by decide +kernel
theorem d_La_degree_3 : decode method_5_code 3 = .ok (.iload_n 1, 1) := by decide +kernel
theorem d_La_degree_4 : decode method_5_code 4 = .ok (.invokevirtual 21, 3) := by decide +kernel
theorem d_La_degree_7 : decode method_5_code 7 = .ok (.i2l, 1) := by decide +kernel
theorem d_La_degree_8 : decode method_5_code 8 = .ok (.lastore, 1) := by decide +kernel
theorem d_La_degree_9 : decode method_5_code 9 = .ok (.goto 6, 3) := by decide +kernel
theorem d_La_degree_12 : decode method_5_code 12 = .ok (.astore_n 3, 1) := by decide +kernel
theorem d_La_degree_13 : decode method_5_code 13 = .ok (.iconst 1, 1) := by decide +kernel
theorem d_La_degree_14 : decode method_5_code 14 = .ok (.ireturn, 1) := by decide +kernel
theorem d_La_degree_15 : decode method_5_code 15 = .ok (.iconst 0, 1) := by decide +kernel
theorem d_La_degree_16 : decode method_5_code 16 = .ok (.ireturn, 1) := by decide +kernel
def w_La_degree (a1 : Int32) (M : zM) (P : Int32 → zM → Prop) : Prop := w_IS_degree a1 M (fun r1 => vp_in (0 : Int32) (zlong 119) ∧ ∀ M4 : zM, M4 = zput M 119 (0 : Int32).toNatClampNeg r1.toInt64 → P (0 : Int32) M4) (fun k => (k = 1 → P (1 : Int32) M) ∧ (k = 1))
def ws_La_degree : List Cond := .codeWith y_La_degree method_5_code 4 (Option.some Jvm.ClassFile.FieldType.int) [((0 : Nat), (9 : Nat), (12 : Nat), (13 : Nat))] :: zall
def rm_La_degree : Room := { frames := 8, cells := 1, slots := 6, locals := 130 }
theorem hd_La_degree : y_La_degree.cls ≠ "java/lang/invoke/MethodHandle" ∧ y_La_degree.cls ≠ "java/lang/invoke/VarHandle" ∧ (parseMethodDescriptor y_La_degree.desc).map (fun d => d.parameters.length) = some 3 := by decide +kernel
set_option maxHeartbeats 4000000 in
set_option maxRecDepth 100000 in
theorem c_La_degree (l : Launch) (hst : l.stackTraces = false) (G : zG) (b : Nat) (a1 : Int32) (M : zM) (N : zN) {P : Int32 → zM → Prop} (hw : w_La_degree a1 M P) : Met l y_La_degree ws_La_degree rm_La_degree (zPc G b M N [.ref (b + 0), .int a1, .ref (b + 119)]) (zQi G b (fun r M' N' => P r M' ∧ N' = N)) 1 6 (zA b) := by
  refine va_MetW (cc := method_5_code) (maxL := 4) (ret := (Option.some Jvm.ClassFile.FieldType.int)) (hh := [((0 : Nat), (9 : Nat), (12 : Nat), (13 : Nat))]) (by decide) rfl ?_
  intro p e s m args below meth c s₁ B hml hv
  obtain ⟨rfl, hZ, hK, hT⟩ := hv
  have hx := B.exec
  have hb := B.bytes
  have hr := B.returns
  have hts := atoms_spec (ws := ws_La_degree) B.pre
  have hta : ∀ w ∈ zall, w.before ([.ref (b + 0), .int a1, .ref (b + 119)] : List Value).toArray s = true := fun w h => hts w (List.mem_cons_of_mem _ h)
  have hown : s.vm.findClass R_La = some m.cls := findClass_of_methodNamed B.named
  have hlocks := B.notSynchronized
  have hS : va_S (zA b) s.heap s.heap [] := va_S.rf
  have hl := lv_entry ([.ref (b + 0), .int a1, .ref (b + 119)]) (n := 4) (Nat.le_of_ble_eq_true rfl)
  rw [lg_entry_eq]
  generalize (lg_sl ([.ref (b + 0), .int a1, .ref (b + 119)]) ++ List.replicate (4 - (lg_sl ([.ref (b + 0), .int a1, .ref (b + 119)])).length) Slot.unset).toArray = ls at hl ⊢
  have hl : lv_has ls 4 [(0, .ref (b + 0)), (1, .int a1), (2, .ref (b + 119))] := hl
  have htab : c.exceptionTable.toList = tableOf [((0 : Nat), (9 : Nat), (12 : Nat), (13 : Nat))] := vx_table (x := y_La_degree) B (hts _ List.mem_cons_self)
  unfold w_La_degree at hw
  refine lv_aload_n (pc := 0) hx hb d_La_degree_0 rfl (lv_at hl 2 rfl) ?_
  refine lv_iconst (pc := 1) (v := 0) hx hb d_La_degree_1 (by decide) ?_
  refine lv_aload_n (pc := 2) hx hb d_La_degree_2 rfl (lv_at hl 0 rfl) ?_
  refine lv_iload_n (pc := 3) hx hb d_La_degree_3 rfl (lv_at hl 1 rfl) ?_
  refine z_xcalli (pc := 4) (vx_runV (C := R_IS) (b := b + 0) (As := [.int a1]) (rest := [.int (0 : Int32), .ref (b + 119)]) ⟨hx, hb, hml, hown, hts⟩ (c_IS_degree l hst G b a1 M N hw) (cwV 1 hts (z_good (zgV wd324 wd325 wd326 wd1 wd327)) rfl rfl rfl ⟨rfl, hd_IS_degree⟩ ⟨Nat.le_of_ble_eq_true rfl, Nat.le_of_ble_eq_true rfl⟩) (z_preV zo_IS rfl rfl hZ hK hT hS) rfl rfl hl.1 rfl (lv_room (Nat.le_of_ble_eq_true rfl)) d_La_degree_4 ⟨Nat.le_of_ble_eq_true rfl, Nat.le_of_ble_eq_true rfl⟩) hS (fun k q ce M5 N6 H locs hw hZ hS h1 h2 h3 => ?_) (fun r1 M2 N3 H locs hw hZ hS => ?_)
  · obtain ⟨hw, eM5, eN6⟩ := hw
    rw [eM5, eN6] at hZ
    obtain ⟨hw0, hk⟩ := hw
    subst hk
    have hw := hw0 rfl
    refine vx_catch (own := R_La) (name := zxn 1) (E := zxn 1) hown [] ⟨0, 9, 12, 13⟩ [] (htab.trans rfl) (fun _ h => absurd h List.not_mem_nil) (by decide) (by decide) (hta _ wd217) (va_Nw.use rfl (hT.1.1 1 (by decide) (by decide))) h1 h2 h3 ?_
    refine lv_astore_n (pc := 12) (lv' := [(3, .ref q), (0, .ref (b + 0)), (1, .int a1), (2, .ref (b + 119))]) hx hb d_La_degree_12 rfl hl (by decide) rfl (fun ls hl => ?_)
    refine lv_iconst (pc := 13) (v := 1) hx hb d_La_degree_13 (by decide) ?_
    exact z_iret hx hb hr hlocks hK hT hZ hS ⟨hw, rfl⟩ d_La_degree_14
  · obtain ⟨hw, eM2, eN3⟩ := hw
    rw [eM2, eN3] at hZ
    refine lv_i2l (pc := 7) (v := r1.toInt64) hx hb d_La_degree_7 rfl ?_
    obtain ⟨hc, hw⟩ := hw
    refine z_last (pc := 8) hx hb hK hZ hS hc d_La_degree_8 (fun M4 H locs hM4 hZ hS => ?_)
    have hw := hw M4 hM4
    refine lv_goto (pc := 9) (tgt := 15) hx hb d_La_degree_9 (by decide) ?_
    refine lv_iconst (pc := 15) (v := 0) hx hb d_La_degree_15 (by decide) ?_
    exact z_iret hx hb hr hlocks hK hT hZ hS ⟨hw, rfl⟩ d_La_degree_16
theorem d_La_add_0 : decode method_6_code 0 = .ok (.aload 5, 2) := by decide +kernel
theorem d_La_add_2 : decode method_6_code 2 = .ok (.iconst 0, 1) := by decide +kernel
theorem d_La_add_3 : decode method_6_code 3 = .ok (.aload_n 0, 1) := by decide +kernel
theorem d_La_add_4 : decode method_6_code 4 = .ok (.iload_n 1, 1) := by decide +kernel
theorem d_La_add_5 : decode method_6_code 5 = .ok (.iload_n 2, 1) := by decide +kernel
theorem d_La_add_6 : decode method_6_code 6 = .ok (.iload_n 3, 1) := by decide +kernel
theorem d_La_add_7 : decode method_6_code 7 = .ok (.iload 4, 2) := by decide +kernel
theorem d_La_add_9 : decode method_6_code 9 = .ok (.invokevirtual 25, 3) := by decide +kernel
theorem d_La_add_12 : decode method_6_code 12 = .ok (.i2l, 1) := by decide +kernel
theorem d_La_add_13 : decode method_6_code 13 = .ok (.lastore, 1) := by decide +kernel
theorem d_La_add_14 : decode method_6_code 14 = .ok (.goto 11, 3) := by decide +kernel
theorem d_La_add_17 : decode method_6_code 17 = .ok (.astore 6, 2) := by decide +kernel
theorem d_La_add_19 : decode method_6_code 19 = .ok (.iconst 1, 1) := by decide +kernel
theorem d_La_add_20 : decode method_6_code 20 = .ok (.ireturn, 1) := by decide +kernel
theorem d_La_add_21 : decode method_6_code 21 = .ok (.astore 6, 2) := by decide +kernel
theorem d_La_add_23 : decode method_6_code 23 = .ok (.iconst 2, 1) := by decide +kernel
theorem d_La_add_24 : decode method_6_code 24 = .ok (.ireturn, 1) := by decide +kernel
theorem d_La_add_25 : decode method_6_code 25 = .ok (.iconst 0, 1) := by decide +kernel
theorem d_La_add_26 : decode method_6_code 26 = .ok (.ireturn, 1) := by decide +kernel
def w_La_add (a1 : Int32) (a2 : Int32) (a3 : Int32) (a4 : Int32) (M : zM) (P : Int32 → zM → Prop) : Prop := w_IS_add a1 a2 a3 a4 M (fun r1 M2 => vp_in (0 : Int32) (zlong 119) ∧ ∀ M4 : zM, M4 = zput M2 119 (0 : Int32).toNatClampNeg r1.toInt64 → P (0 : Int32) M4) (fun k M5 => (k = 1 → P (1 : Int32) M5) ∧ (k = 3 → P (2 : Int32) M5) ∧ (k = 1 ∨ k = 3))
def ws_La_add : List Cond := .codeWith y_La_add method_6_code 7 (Option.some Jvm.ClassFile.FieldType.int) [((0 : Nat), (14 : Nat), (17 : Nat), (13 : Nat)), ((0 : Nat), (14 : Nat), (21 : Nat), (29 : Nat))] :: zall
def rm_La_add : Room := { frames := 8, cells := 4, slots := 24, locals := 136 }
theorem hd_La_add : y_La_add.cls ≠ "java/lang/invoke/MethodHandle" ∧ y_La_add.cls ≠ "java/lang/invoke/VarHandle" ∧ (parseMethodDescriptor y_La_add.desc).map (fun d => d.parameters.length) = some 6 := by decide +kernel
set_option maxHeartbeats 4000000 in
set_option maxRecDepth 100000 in
theorem c_La_add (l : Launch) (hst : l.stackTraces = false) (G : zG) (b : Nat) (a1 : Int32) (a2 : Int32) (a3 : Int32) (a4 : Int32) (M : zM) (N : zN) {P : Int32 → zM → Prop} (hw : w_La_add a1 a2 a3 a4 M P) : Met l y_La_add ws_La_add rm_La_add (zPc G b M N [.ref (b + 0), .int a1, .int a2, .int a3, .int a4, .ref (b + 119)]) (zQi G b (fun r M' N' => P r M' ∧ N' = N)) 4 24 (zA b) := by
  refine va_MetW (cc := method_6_code) (maxL := 7) (ret := (Option.some Jvm.ClassFile.FieldType.int)) (hh := [((0 : Nat), (14 : Nat), (17 : Nat), (13 : Nat)), ((0 : Nat), (14 : Nat), (21 : Nat), (29 : Nat))]) (by decide) rfl ?_
  intro p e s m args below meth c s₁ B hml hv
  obtain ⟨rfl, hZ, hK, hT⟩ := hv
  have hx := B.exec
  have hb := B.bytes
  have hr := B.returns
  have hts := atoms_spec (ws := ws_La_add) B.pre
  have hta : ∀ w ∈ zall, w.before ([.ref (b + 0), .int a1, .int a2, .int a3, .int a4, .ref (b + 119)] : List Value).toArray s = true := fun w h => hts w (List.mem_cons_of_mem _ h)
  have hown : s.vm.findClass R_La = some m.cls := findClass_of_methodNamed B.named
  have hlocks := B.notSynchronized
  have hS : va_S (zA b) s.heap s.heap [] := va_S.rf
  have hl := lv_entry ([.ref (b + 0), .int a1, .int a2, .int a3, .int a4, .ref (b + 119)]) (n := 7) (Nat.le_of_ble_eq_true rfl)
  rw [lg_entry_eq]
  generalize (lg_sl ([.ref (b + 0), .int a1, .int a2, .int a3, .int a4, .ref (b + 119)]) ++ List.replicate (7 - (lg_sl ([.ref (b + 0), .int a1, .int a2, .int a3, .int a4, .ref (b + 119)])).length) Slot.unset).toArray = ls at hl ⊢
  have hl : lv_has ls 7 [(0, .ref (b + 0)), (1, .int a1), (2, .int a2), (3, .int a3), (4, .int a4), (5, .ref (b + 119))] := hl
  have htab : c.exceptionTable.toList = tableOf [((0 : Nat), (14 : Nat), (17 : Nat), (13 : Nat)), ((0 : Nat), (14 : Nat), (21 : Nat), (29 : Nat))] := vx_table (x := y_La_add) B (hts _ List.mem_cons_self)
  unfold w_La_add at hw
  refine lv_aload (pc := 0) hx hb d_La_add_0 (lv_at hl 5 rfl) ?_
  refine lv_iconst (pc := 2) (v := 0) hx hb d_La_add_2 (by decide) ?_
  refine lv_aload_n (pc := 3) hx hb d_La_add_3 rfl (lv_at hl 0 rfl) ?_
  refine lv_iload_n (pc := 4) hx hb d_La_add_4 rfl (lv_at hl 1 rfl) ?_
  refine lv_iload_n (pc := 5) hx hb d_La_add_5 rfl (lv_at hl 2 rfl) ?_
  refine lv_iload_n (pc := 6) hx hb d_La_add_6 rfl (lv_at hl 3 rfl) ?_
  refine lv_iload (pc := 7) hx hb d_La_add_7 (lv_at hl 4 rfl) ?_
  refine z_xcalli (pc := 9) (vx_runV (C := R_IS) (b := b + 0) (As := [.int a1, .int a2, .int a3, .int a4]) (rest := [.int (0 : Int32), .ref (b + 119)]) ⟨hx, hb, hml, hown, hts⟩ (c_IS_add l hst G b a1 a2 a3 a4 M N hw) (cwV 4 hts (z_good (zgV wd332 wd333 wd334 wd1 wd335)) rfl rfl rfl ⟨rfl, hd_IS_add⟩ ⟨Nat.le_of_ble_eq_true rfl, Nat.le_of_ble_eq_true rfl⟩) (z_preV zo_IS rfl rfl hZ hK hT hS) rfl rfl hl.1 rfl (lv_room (Nat.le_of_ble_eq_true rfl)) d_La_add_9 ⟨Nat.le_of_ble_eq_true rfl, Nat.le_of_ble_eq_true rfl⟩) hS (fun k q ce M5 N6 H locs hw hZ hS h1 h2 h3 => ?_) (fun r1 M2 N3 H locs hw hZ hS => ?_)
  · obtain ⟨hw, eN6⟩ := hw
    rw [eN6] at hZ
    obtain ⟨hw0, hw1, hk⟩ := hw
    rcases hk with rfl | rfl
    · have hw := hw0 rfl
      refine vx_catch (own := R_La) (name := zxn 1) (E := zxn 1) hown [] ⟨0, 14, 17, 13⟩ [⟨0, 14, 21, 29⟩] (htab.trans rfl) (fun _ h => absurd h List.not_mem_nil) (by decide) (by decide) (hta _ wd217) (va_Nw.use rfl (hT.1.1 1 (by decide) (by decide))) h1 h2 h3 ?_
      refine lv_astore (pc := 17) (lv' := [(6, .ref q), (0, .ref (b + 0)), (1, .int a1), (2, .int a2), (3, .int a3), (4, .int a4), (5, .ref (b + 119))]) hx hb d_La_add_17 hl (by decide) rfl (fun ls hl => ?_)
      refine lv_iconst (pc := 19) (v := 1) hx hb d_La_add_19 (by decide) ?_
      exact z_iret hx hb hr hlocks hK hT hZ hS ⟨hw, rfl⟩ d_La_add_20
    · have hw := hw1 rfl
      refine vx_catch (own := R_La) (name := zxn 3) (E := zxn 3) hown [⟨0, 14, 17, 13⟩] ⟨0, 14, 21, 29⟩ [] (htab.trans rfl) (List.forall_mem_cons.mpr ⟨Or.inr ⟨by decide, zxn 1, hta _ wd217, hT.1.2.2 3 1 (by decide) (by decide) (by decide) (by decide) (by decide)⟩, fun _ h => absurd h List.not_mem_nil⟩) (by decide) (by decide) (hta _ wd331) (va_Nw.use rfl (hT.1.1 3 (by decide) (by decide))) h1 h2 h3 ?_
      refine lv_astore (pc := 21) (lv' := [(6, .ref q), (0, .ref (b + 0)), (1, .int a1), (2, .int a2), (3, .int a3), (4, .int a4), (5, .ref (b + 119))]) hx hb d_La_add_21 hl (by decide) rfl (fun ls hl => ?_)
      refine lv_iconst (pc := 23) (v := 2) hx hb d_La_add_23 (by decide) ?_
      exact z_iret hx hb hr hlocks hK hT hZ hS ⟨hw, rfl⟩ d_La_add_24
  · obtain ⟨hw, eN3⟩ := hw
    rw [eN3] at hZ
    refine lv_i2l (pc := 12) (v := r1.toInt64) hx hb d_La_add_12 rfl ?_
    obtain ⟨hc, hw⟩ := hw
    refine z_last (pc := 13) hx hb hK hZ hS hc d_La_add_13 (fun M4 H locs hM4 hZ hS => ?_)
    have hw := hw M4 hM4
    refine lv_goto (pc := 14) (tgt := 25) hx hb d_La_add_14 (by decide) ?_
    refine lv_iconst (pc := 25) (v := 0) hx hb d_La_add_25 (by decide) ?_
    exact z_iret hx hb hr hlocks hK hT hZ hS ⟨hw, rfl⟩ d_La_add_26
theorem d_La_multiply_0 : decode method_7_code 0 = .ok (.aload 4, 2) := by decide +kernel
theorem d_La_multiply_2 : decode method_7_code 2 = .ok (.iconst 0, 1) := by decide +kernel
theorem d_La_multiply_3 : decode method_7_code 3 = .ok (.aload_n 0, 1) := by decide +kernel
theorem d_La_multiply_4 : decode method_7_code 4 = .ok (.iload_n 1, 1) := by decide +kernel
theorem d_La_multiply_5 : decode method_7_code 5 = .ok (.iload_n 2, 1) := by decide +kernel
theorem d_La_multiply_6 : decode method_7_code 6 = .ok (.iload_n 3, 1) := by decide +kernel
theorem d_La_multiply_7 : decode method_7_code 7 = .ok (.invokevirtual 31, 3) := by decide +kernel
theorem d_La_multiply_10 : decode method_7_code 10 = .ok (.i2l, 1) := by decide +kernel
theorem d_La_multiply_11 : decode method_7_code 11 = .ok (.lastore, 1) := by decide +kernel
theorem d_La_multiply_12 : decode method_7_code 12 = .ok (.goto 11, 3) := by decide +kernel
theorem d_La_multiply_15 : decode method_7_code 15 = .ok (.astore 5, 2) := by decide +kernel
theorem d_La_multiply_17 : decode method_7_code 17 = .ok (.iconst 1, 1) := by decide +kernel
theorem d_La_multiply_18 : decode method_7_code 18 = .ok (.ireturn, 1) := by decide +kernel
theorem d_La_multiply_19 : decode method_7_code 19 = .ok (.astore 5, 2) := by decide +kernel
theorem d_La_multiply_21 : decode method_7_code 21 = .ok (.iconst 2, 1) := by decide +kernel
theorem d_La_multiply_22 : decode method_7_code 22 = .ok (.ireturn, 1) := by decide +kernel
theorem d_La_multiply_23 : decode method_7_code 23 = .ok (.iconst 0, 1) := by decide +kernel
theorem d_La_multiply_24 : decode method_7_code 24 = .ok (.ireturn, 1) := by decide +kernel
def w_La_multiply (a1 : Int32) (a2 : Int32) (a3 : Int32) (M : zM) (P : Int32 → zM → Prop) : Prop := w_IS_multiply a1 a2 a3 M (fun r1 M2 => vp_in (0 : Int32) (zlong 119) ∧ ∀ M4 : zM, M4 = zput M2 119 (0 : Int32).toNatClampNeg r1.toInt64 → P (0 : Int32) M4) (fun k M5 => (k = 1 → P (1 : Int32) M5) ∧ (k = 3 → P (2 : Int32) M5) ∧ (k = 1 ∨ k = 3))
def ws_La_multiply : List Cond := .codeWith y_La_multiply method_7_code 6 (Option.some Jvm.ClassFile.FieldType.int) [((0 : Nat), (12 : Nat), (15 : Nat), (13 : Nat)), ((0 : Nat), (12 : Nat), (19 : Nat), (29 : Nat))] :: zall
def rm_La_multiply : Room := { frames := 8, cells := 4, slots := 24, locals := 136 }
theorem hd_La_multiply : y_La_multiply.cls ≠ "java/lang/invoke/MethodHandle" ∧ y_La_multiply.cls ≠ "java/lang/invoke/VarHandle" ∧ (parseMethodDescriptor y_La_multiply.desc).map (fun d => d.parameters.length) = some 5 := by decide +kernel
set_option maxHeartbeats 4000000 in
set_option maxRecDepth 100000 in
theorem c_La_multiply (l : Launch) (hst : l.stackTraces = false) (G : zG) (b : Nat) (a1 : Int32) (a2 : Int32) (a3 : Int32) (M : zM) (N : zN) {P : Int32 → zM → Prop} (hw : w_La_multiply a1 a2 a3 M P) : Met l y_La_multiply ws_La_multiply rm_La_multiply (zPc G b M N [.ref (b + 0), .int a1, .int a2, .int a3, .ref (b + 119)]) (zQi G b (fun r M' N' => P r M' ∧ N' = N)) 4 24 (zA b) := by
  refine va_MetW (cc := method_7_code) (maxL := 6) (ret := (Option.some Jvm.ClassFile.FieldType.int)) (hh := [((0 : Nat), (12 : Nat), (15 : Nat), (13 : Nat)), ((0 : Nat), (12 : Nat), (19 : Nat), (29 : Nat))]) (by decide) rfl ?_
  intro p e s m args below meth c s₁ B hml hv
  obtain ⟨rfl, hZ, hK, hT⟩ := hv
  have hx := B.exec
  have hb := B.bytes
  have hr := B.returns
  have hts := atoms_spec (ws := ws_La_multiply) B.pre
  have hta : ∀ w ∈ zall, w.before ([.ref (b + 0), .int a1, .int a2, .int a3, .ref (b + 119)] : List Value).toArray s = true := fun w h => hts w (List.mem_cons_of_mem _ h)
  have hown : s.vm.findClass R_La = some m.cls := findClass_of_methodNamed B.named
  have hlocks := B.notSynchronized
  have hS : va_S (zA b) s.heap s.heap [] := va_S.rf
  have hl := lv_entry ([.ref (b + 0), .int a1, .int a2, .int a3, .ref (b + 119)]) (n := 6) (Nat.le_of_ble_eq_true rfl)
  rw [lg_entry_eq]
  generalize (lg_sl ([.ref (b + 0), .int a1, .int a2, .int a3, .ref (b + 119)]) ++ List.replicate (6 - (lg_sl ([.ref (b + 0), .int a1, .int a2, .int a3, .ref (b + 119)])).length) Slot.unset).toArray = ls at hl ⊢
  have hl : lv_has ls 6 [(0, .ref (b + 0)), (1, .int a1), (2, .int a2), (3, .int a3), (4, .ref (b + 119))] := hl
  have htab : c.exceptionTable.toList = tableOf [((0 : Nat), (12 : Nat), (15 : Nat), (13 : Nat)), ((0 : Nat), (12 : Nat), (19 : Nat), (29 : Nat))] := vx_table (x := y_La_multiply) B (hts _ List.mem_cons_self)
  unfold w_La_multiply at hw
  refine lv_aload (pc := 0) hx hb d_La_multiply_0 (lv_at hl 4 rfl) ?_
  refine lv_iconst (pc := 2) (v := 0) hx hb d_La_multiply_2 (by decide) ?_
  refine lv_aload_n (pc := 3) hx hb d_La_multiply_3 rfl (lv_at hl 0 rfl) ?_
  refine lv_iload_n (pc := 4) hx hb d_La_multiply_4 rfl (lv_at hl 1 rfl) ?_
  refine lv_iload_n (pc := 5) hx hb d_La_multiply_5 rfl (lv_at hl 2 rfl) ?_
  refine lv_iload_n (pc := 6) hx hb d_La_multiply_6 rfl (lv_at hl 3 rfl) ?_
  refine z_xcalli (pc := 7) (vx_runV (C := R_IS) (b := b + 0) (As := [.int a1, .int a2, .int a3]) (rest := [.int (0 : Int32), .ref (b + 119)]) ⟨hx, hb, hml, hown, hts⟩ (c_IS_multiply l hst G b a1 a2 a3 M N hw) (cwV 3 hts (z_good (zgV wd371 wd372 wd373 wd1 wd374)) rfl rfl rfl ⟨rfl, hd_IS_multiply⟩ ⟨Nat.le_of_ble_eq_true rfl, Nat.le_of_ble_eq_true rfl⟩) (z_preV zo_IS rfl rfl hZ hK hT hS) rfl rfl hl.1 rfl (lv_room (Nat.le_of_ble_eq_true rfl)) d_La_multiply_7 ⟨Nat.le_of_ble_eq_true rfl, Nat.le_of_ble_eq_true rfl⟩) hS (fun k q ce M5 N6 H locs hw hZ hS h1 h2 h3 => ?_) (fun r1 M2 N3 H locs hw hZ hS => ?_)
  · obtain ⟨hw, eN6⟩ := hw
    rw [eN6] at hZ
    obtain ⟨hw0, hw1, hk⟩ := hw
    rcases hk with rfl | rfl
    · have hw := hw0 rfl
      refine vx_catch (own := R_La) (name := zxn 1) (E := zxn 1) hown [] ⟨0, 12, 15, 13⟩ [⟨0, 12, 19, 29⟩] (htab.trans rfl) (fun _ h => absurd h List.not_mem_nil) (by decide) (by decide) (hta _ wd217) (va_Nw.use rfl (hT.1.1 1 (by decide) (by decide))) h1 h2 h3 ?_
      refine lv_astore (pc := 15) (lv' := [(5, .ref q), (0, .ref (b + 0)), (1, .int a1), (2, .int a2), (3, .int a3), (4, .ref (b + 119))]) hx hb d_La_multiply_15 hl (by decide) rfl (fun ls hl => ?_)
      refine lv_iconst (pc := 17) (v := 1) hx hb d_La_multiply_17 (by decide) ?_
      exact z_iret hx hb hr hlocks hK hT hZ hS ⟨hw, rfl⟩ d_La_multiply_18
    · have hw := hw1 rfl
      refine vx_catch (own := R_La) (name := zxn 3) (E := zxn 3) hown [⟨0, 12, 15, 13⟩] ⟨0, 12, 19, 29⟩ [] (htab.trans rfl) (List.forall_mem_cons.mpr ⟨Or.inr ⟨by decide, zxn 1, hta _ wd217, hT.1.2.2 3 1 (by decide) (by decide) (by decide) (by decide) (by decide)⟩, fun _ h => absurd h List.not_mem_nil⟩) (by decide) (by decide) (hta _ wd331) (va_Nw.use rfl (hT.1.1 3 (by decide) (by decide))) h1 h2 h3 ?_
      refine lv_astore (pc := 19) (lv' := [(5, .ref q), (0, .ref (b + 0)), (1, .int a1), (2, .int a2), (3, .int a3), (4, .ref (b + 119))]) hx hb d_La_multiply_19 hl (by decide) rfl (fun ls hl => ?_)
      refine lv_iconst (pc := 21) (v := 2) hx hb d_La_multiply_21 (by decide) ?_
      exact z_iret hx hb hr hlocks hK hT hZ hS ⟨hw, rfl⟩ d_La_multiply_22
  · obtain ⟨hw, eN3⟩ := hw
    rw [eN3] at hZ
    refine lv_i2l (pc := 10) (v := r1.toInt64) hx hb d_La_multiply_10 rfl ?_
    obtain ⟨hc, hw⟩ := hw
    refine z_last (pc := 11) hx hb hK hZ hS hc d_La_multiply_11 (fun M4 H locs hM4 hZ hS => ?_)
    have hw := hw M4 hM4
    refine lv_goto (pc := 12) (tgt := 23) hx hb d_La_multiply_12 (by decide) ?_
    refine lv_iconst (pc := 23) (v := 0) hx hb d_La_multiply_23 (by decide) ?_
    exact z_iret hx hb hr hlocks hK hT hZ hS ⟨hw, rfl⟩ d_La_multiply_24
theorem d_La_derive_0 : decode method_8_code 0 = .ok (.aload_n 3, 1) := by decide +kernel
theorem d_La_derive_1 : decode method_8_code 1 = .ok (.iconst 0, 1) := by decide +kernel
theorem d_La_derive_2 : decode method_8_code 2 = .ok (.aload_n 0, 1) := by decide +kernel
theorem d_La_derive_3 : decode method_8_code 3 = .ok (.iload_n 1, 1) := by decide +kernel
theorem d_La_derive_4 : decode method_8_code 4 = .ok (.iload_n 2, 1) := by decide +kernel
theorem d_La_derive_5 : decode method_8_code 5 = .ok (.invokevirtual 34, 3) := by decide +kernel
theorem d_La_derive_8 : decode method_8_code 8 = .ok (.i2l, 1) := by decide +kernel
theorem d_La_derive_9 : decode method_8_code 9 = .ok (.lastore, 1) := by decide +kernel
theorem d_La_derive_10 : decode method_8_code 10 = .ok (.goto 11, 3) := by decide +kernel
theorem d_La_derive_13 : decode method_8_code 13 = .ok (.astore 4, 2) := by decide +kernel
theorem d_La_derive_15 : decode method_8_code 15 = .ok (.iconst 1, 1) := by decide +kernel
theorem d_La_derive_16 : decode method_8_code 16 = .ok (.ireturn, 1) := by decide +kernel
theorem d_La_derive_17 : decode method_8_code 17 = .ok (.astore 4, 2) := by decide +kernel
theorem d_La_derive_19 : decode method_8_code 19 = .ok (.iconst 2, 1) := by decide +kernel
theorem d_La_derive_20 : decode method_8_code 20 = .ok (.ireturn, 1) := by decide +kernel
theorem d_La_derive_21 : decode method_8_code 21 = .ok (.iconst 0, 1) := by decide +kernel
theorem d_La_derive_22 : decode method_8_code 22 = .ok (.ireturn, 1) := by decide +kernel
def w_La_derive (a1 : Int32) (a2 : Int32) (M : zM) (P : Int32 → zM → Prop) : Prop := w_IS_derive a1 a2 M (fun r1 M2 => vp_in (0 : Int32) (zlong 119) ∧ ∀ M4 : zM, M4 = zput M2 119 (0 : Int32).toNatClampNeg r1.toInt64 → P (0 : Int32) M4) (fun k M5 => (k = 1 → P (1 : Int32) M5) ∧ (k = 3 → P (2 : Int32) M5) ∧ (k = 1 ∨ k = 3))
def ws_La_derive : List Cond := .codeWith y_La_derive method_8_code 5 (Option.some Jvm.ClassFile.FieldType.int) [((0 : Nat), (10 : Nat), (13 : Nat), (13 : Nat)), ((0 : Nat), (10 : Nat), (17 : Nat), (29 : Nat))] :: zall
def rm_La_derive : Room := { frames := 8, cells := 3, slots := 18, locals := 133 }
theorem hd_La_derive : y_La_derive.cls ≠ "java/lang/invoke/MethodHandle" ∧ y_La_derive.cls ≠ "java/lang/invoke/VarHandle" ∧ (parseMethodDescriptor y_La_derive.desc).map (fun d => d.parameters.length) = some 4 := by decide +kernel
set_option maxHeartbeats 4000000 in
set_option maxRecDepth 100000 in
theorem c_La_derive (l : Launch) (hst : l.stackTraces = false) (G : zG) (b : Nat) (a1 : Int32) (a2 : Int32) (M : zM) (N : zN) {P : Int32 → zM → Prop} (hw : w_La_derive a1 a2 M P) : Met l y_La_derive ws_La_derive rm_La_derive (zPc G b M N [.ref (b + 0), .int a1, .int a2, .ref (b + 119)]) (zQi G b (fun r M' N' => P r M' ∧ N' = N)) 3 18 (zA b) := by
  refine va_MetW (cc := method_8_code) (maxL := 5) (ret := (Option.some Jvm.ClassFile.FieldType.int)) (hh := [((0 : Nat), (10 : Nat), (13 : Nat), (13 : Nat)), ((0 : Nat), (10 : Nat), (17 : Nat), (29 : Nat))]) (by decide) rfl ?_
  intro p e s m args below meth c s₁ B hml hv
  obtain ⟨rfl, hZ, hK, hT⟩ := hv
  have hx := B.exec
  have hb := B.bytes
  have hr := B.returns
  have hts := atoms_spec (ws := ws_La_derive) B.pre
  have hta : ∀ w ∈ zall, w.before ([.ref (b + 0), .int a1, .int a2, .ref (b + 119)] : List Value).toArray s = true := fun w h => hts w (List.mem_cons_of_mem _ h)
  have hown : s.vm.findClass R_La = some m.cls := findClass_of_methodNamed B.named
  have hlocks := B.notSynchronized
  have hS : va_S (zA b) s.heap s.heap [] := va_S.rf
  have hl := lv_entry ([.ref (b + 0), .int a1, .int a2, .ref (b + 119)]) (n := 5) (Nat.le_of_ble_eq_true rfl)
  rw [lg_entry_eq]
  generalize (lg_sl ([.ref (b + 0), .int a1, .int a2, .ref (b + 119)]) ++ List.replicate (5 - (lg_sl ([.ref (b + 0), .int a1, .int a2, .ref (b + 119)])).length) Slot.unset).toArray = ls at hl ⊢
  have hl : lv_has ls 5 [(0, .ref (b + 0)), (1, .int a1), (2, .int a2), (3, .ref (b + 119))] := hl
  have htab : c.exceptionTable.toList = tableOf [((0 : Nat), (10 : Nat), (13 : Nat), (13 : Nat)), ((0 : Nat), (10 : Nat), (17 : Nat), (29 : Nat))] := vx_table (x := y_La_derive) B (hts _ List.mem_cons_self)
  unfold w_La_derive at hw
  refine lv_aload_n (pc := 0) hx hb d_La_derive_0 rfl (lv_at hl 3 rfl) ?_
  refine lv_iconst (pc := 1) (v := 0) hx hb d_La_derive_1 (by decide) ?_
  refine lv_aload_n (pc := 2) hx hb d_La_derive_2 rfl (lv_at hl 0 rfl) ?_
  refine lv_iload_n (pc := 3) hx hb d_La_derive_3 rfl (lv_at hl 1 rfl) ?_
  refine lv_iload_n (pc := 4) hx hb d_La_derive_4 rfl (lv_at hl 2 rfl) ?_
  refine z_xcalli (pc := 5) (vx_runV (C := R_IS) (b := b + 0) (As := [.int a1, .int a2]) (rest := [.int (0 : Int32), .ref (b + 119)]) ⟨hx, hb, hml, hown, hts⟩ (c_IS_derive l hst G b a1 a2 M N hw) (cwV 2 hts (z_good (zgV wd378 wd379 wd380 wd1 wd381)) rfl rfl rfl ⟨rfl, hd_IS_derive⟩ ⟨Nat.le_of_ble_eq_true rfl, Nat.le_of_ble_eq_true rfl⟩) (z_preV zo_IS rfl rfl hZ hK hT hS) rfl rfl hl.1 rfl (lv_room (Nat.le_of_ble_eq_true rfl)) d_La_derive_5 ⟨Nat.le_of_ble_eq_true rfl, Nat.le_of_ble_eq_true rfl⟩) hS (fun k q ce M5 N6 H locs hw hZ hS h1 h2 h3 => ?_) (fun r1 M2 N3 H locs hw hZ hS => ?_)
  · obtain ⟨hw, eN6⟩ := hw
    rw [eN6] at hZ
    obtain ⟨hw0, hw1, hk⟩ := hw
    rcases hk with rfl | rfl
    · have hw := hw0 rfl
      refine vx_catch (own := R_La) (name := zxn 1) (E := zxn 1) hown [] ⟨0, 10, 13, 13⟩ [⟨0, 10, 17, 29⟩] (htab.trans rfl) (fun _ h => absurd h List.not_mem_nil) (by decide) (by decide) (hta _ wd217) (va_Nw.use rfl (hT.1.1 1 (by decide) (by decide))) h1 h2 h3 ?_
      refine lv_astore (pc := 13) (lv' := [(4, .ref q), (0, .ref (b + 0)), (1, .int a1), (2, .int a2), (3, .ref (b + 119))]) hx hb d_La_derive_13 hl (by decide) rfl (fun ls hl => ?_)
      refine lv_iconst (pc := 15) (v := 1) hx hb d_La_derive_15 (by decide) ?_
      exact z_iret hx hb hr hlocks hK hT hZ hS ⟨hw, rfl⟩ d_La_derive_16
    · have hw := hw1 rfl
      refine vx_catch (own := R_La) (name := zxn 3) (E := zxn 3) hown [⟨0, 10, 13, 13⟩] ⟨0, 10, 17, 29⟩ [] (htab.trans rfl) (List.forall_mem_cons.mpr ⟨Or.inr ⟨by decide, zxn 1, hta _ wd217, hT.1.2.2 3 1 (by decide) (by decide) (by decide) (by decide) (by decide)⟩, fun _ h => absurd h List.not_mem_nil⟩) (by decide) (by decide) (hta _ wd331) (va_Nw.use rfl (hT.1.1 3 (by decide) (by decide))) h1 h2 h3 ?_
      refine lv_astore (pc := 17) (lv' := [(4, .ref q), (0, .ref (b + 0)), (1, .int a1), (2, .int a2), (3, .ref (b + 119))]) hx hb d_La_derive_17 hl (by decide) rfl (fun ls hl => ?_)
      refine lv_iconst (pc := 19) (v := 2) hx hb d_La_derive_19 (by decide) ?_
      exact z_iret hx hb hr hlocks hK hT hZ hS ⟨hw, rfl⟩ d_La_derive_20
  · obtain ⟨hw, eN3⟩ := hw
    rw [eN3] at hZ
    refine lv_i2l (pc := 8) (v := r1.toInt64) hx hb d_La_derive_8 rfl ?_
    obtain ⟨hc, hw⟩ := hw
    refine z_last (pc := 9) hx hb hK hZ hS hc d_La_derive_9 (fun M4 H locs hM4 hZ hS => ?_)
    have hw := hw M4 hM4
    refine lv_goto (pc := 10) (tgt := 21) hx hb d_La_derive_10 (by decide) ?_
    refine lv_iconst (pc := 21) (v := 0) hx hb d_La_derive_21 (by decide) ?_
    exact z_iret hx hb hr hlocks hK hT hZ hS ⟨hw, rfl⟩ d_La_derive_22
theorem d_La_shift_0 : decode method_9_code 0 = .ok (.aload 4, 2) := by decide +kernel
theorem d_La_shift_2 : decode method_9_code 2 = .ok (.iconst 0, 1) := by decide +kernel
theorem d_La_shift_3 : decode method_9_code 3 = .ok (.aload_n 0, 1) := by decide +kernel
theorem d_La_shift_4 : decode method_9_code 4 = .ok (.iload_n 1, 1) := by decide +kernel
theorem d_La_shift_5 : decode method_9_code 5 = .ok (.iload_n 2, 1) := by decide +kernel
theorem d_La_shift_6 : decode method_9_code 6 = .ok (.iload_n 3, 1) := by decide +kernel
theorem d_La_shift_7 : decode method_9_code 7 = .ok (.invokevirtual 37, 3) := by decide +kernel
theorem d_La_shift_10 : decode method_9_code 10 = .ok (.i2l, 1) := by decide +kernel
theorem d_La_shift_11 : decode method_9_code 11 = .ok (.lastore, 1) := by decide +kernel
theorem d_La_shift_12 : decode method_9_code 12 = .ok (.goto 15, 3) := by decide +kernel
theorem d_La_shift_15 : decode method_9_code 15 = .ok (.astore 5, 2) := by decide +kernel
theorem d_La_shift_17 : decode method_9_code 17 = .ok (.iconst 1, 1) := by decide +kernel
theorem d_La_shift_18 : decode method_9_code 18 = .ok (.ireturn, 1) := by decide +kernel
theorem d_La_shift_19 : decode method_9_code 19 = .ok (.astore 5, 2) := by decide +kernel
theorem d_La_shift_21 : decode method_9_code 21 = .ok (.iconst 2, 1) := by decide +kernel
theorem d_La_shift_22 : decode method_9_code 22 = .ok (.ireturn, 1) := by decide +kernel
theorem d_La_shift_23 : decode method_9_code 23 = .ok (.astore 5, 2) := by decide +kernel
theorem d_La_shift_25 : decode method_9_code 25 = .ok (.iconst 3, 1) := by decide +kernel
theorem d_La_shift_26 : decode method_9_code 26 = .ok (.ireturn, 1) := by decide +kernel
theorem d_La_shift_27 : decode method_9_code 27 = .ok (.iconst 0, 1) := by decide +kernel
theorem d_La_shift_28 : decode method_9_code 28 = .ok (.ireturn, 1) := by decide +kernel
def w_La_shift (a1 : Int32) (a2 : Int32) (a3 : Int32) (M : zM) (P : Int32 → zM → Prop) : Prop := w_IS_shift a1 a2 a3 M (fun r1 M2 => vp_in (0 : Int32) (zlong 119) ∧ ∀ M4 : zM, M4 = zput M2 119 (0 : Int32).toNatClampNeg r1.toInt64 → P (0 : Int32) M4) (fun k M5 => (k = 1 → P (1 : Int32) M5) ∧ (k = 2 → P (2 : Int32) M5) ∧ (k = 3 → P (3 : Int32) M5) ∧ (k = 1 ∨ k = 2 ∨ k = 3))
def ws_La_shift : List Cond := .codeWith y_La_shift method_9_code 6 (Option.some Jvm.ClassFile.FieldType.int) [((0 : Nat), (12 : Nat), (15 : Nat), (13 : Nat)), ((0 : Nat), (12 : Nat), (19 : Nat), (15 : Nat)), ((0 : Nat), (12 : Nat), (23 : Nat), (29 : Nat))] :: zall
def rm_La_shift : Room := { frames := 8, cells := 4, slots := 24, locals := 136 }
theorem hd_La_shift : y_La_shift.cls ≠ "java/lang/invoke/MethodHandle" ∧ y_La_shift.cls ≠ "java/lang/invoke/VarHandle" ∧ (parseMethodDescriptor y_La_shift.desc).map (fun d => d.parameters.length) = some 5 := by decide +kernel
set_option maxHeartbeats 4000000 in
set_option maxRecDepth 100000 in
theorem c_La_shift (l : Launch) (hst : l.stackTraces = false) (G : zG) (b : Nat) (a1 : Int32) (a2 : Int32) (a3 : Int32) (M : zM) (N : zN) {P : Int32 → zM → Prop} (hw : w_La_shift a1 a2 a3 M P) : Met l y_La_shift ws_La_shift rm_La_shift (zPc G b M N [.ref (b + 0), .int a1, .int a2, .int a3, .ref (b + 119)]) (zQi G b (fun r M' N' => P r M' ∧ N' = N)) 4 24 (zA b) := by
  refine va_MetW (cc := method_9_code) (maxL := 6) (ret := (Option.some Jvm.ClassFile.FieldType.int)) (hh := [((0 : Nat), (12 : Nat), (15 : Nat), (13 : Nat)), ((0 : Nat), (12 : Nat), (19 : Nat), (15 : Nat)), ((0 : Nat), (12 : Nat), (23 : Nat), (29 : Nat))]) (by decide) rfl ?_
  intro p e s m args below meth c s₁ B hml hv
  obtain ⟨rfl, hZ, hK, hT⟩ := hv
  have hx := B.exec
  have hb := B.bytes
  have hr := B.returns
  have hts := atoms_spec (ws := ws_La_shift) B.pre
  have hta : ∀ w ∈ zall, w.before ([.ref (b + 0), .int a1, .int a2, .int a3, .ref (b + 119)] : List Value).toArray s = true := fun w h => hts w (List.mem_cons_of_mem _ h)
  have hown : s.vm.findClass R_La = some m.cls := findClass_of_methodNamed B.named
  have hlocks := B.notSynchronized
  have hS : va_S (zA b) s.heap s.heap [] := va_S.rf
  have hl := lv_entry ([.ref (b + 0), .int a1, .int a2, .int a3, .ref (b + 119)]) (n := 6) (Nat.le_of_ble_eq_true rfl)
  rw [lg_entry_eq]
  generalize (lg_sl ([.ref (b + 0), .int a1, .int a2, .int a3, .ref (b + 119)]) ++ List.replicate (6 - (lg_sl ([.ref (b + 0), .int a1, .int a2, .int a3, .ref (b + 119)])).length) Slot.unset).toArray = ls at hl ⊢
  have hl : lv_has ls 6 [(0, .ref (b + 0)), (1, .int a1), (2, .int a2), (3, .int a3), (4, .ref (b + 119))] := hl
  have htab : c.exceptionTable.toList = tableOf [((0 : Nat), (12 : Nat), (15 : Nat), (13 : Nat)), ((0 : Nat), (12 : Nat), (19 : Nat), (15 : Nat)), ((0 : Nat), (12 : Nat), (23 : Nat), (29 : Nat))] := vx_table (x := y_La_shift) B (hts _ List.mem_cons_self)
  unfold w_La_shift at hw
  refine lv_aload (pc := 0) hx hb d_La_shift_0 (lv_at hl 4 rfl) ?_
  refine lv_iconst (pc := 2) (v := 0) hx hb d_La_shift_2 (by decide) ?_
  refine lv_aload_n (pc := 3) hx hb d_La_shift_3 rfl (lv_at hl 0 rfl) ?_
  refine lv_iload_n (pc := 4) hx hb d_La_shift_4 rfl (lv_at hl 1 rfl) ?_
  refine lv_iload_n (pc := 5) hx hb d_La_shift_5 rfl (lv_at hl 2 rfl) ?_
  refine lv_iload_n (pc := 6) hx hb d_La_shift_6 rfl (lv_at hl 3 rfl) ?_
  refine z_xcalli (pc := 7) (vx_runV (C := R_IS) (b := b + 0) (As := [.int a1, .int a2, .int a3]) (rest := [.int (0 : Int32), .ref (b + 119)]) ⟨hx, hb, hml, hown, hts⟩ (c_IS_shift l hst G b a1 a2 a3 M N hw) (cwV 3 hts (z_good (zgV wd388 wd389 wd390 wd1 wd391)) rfl rfl rfl ⟨rfl, hd_IS_shift⟩ ⟨Nat.le_of_ble_eq_true rfl, Nat.le_of_ble_eq_true rfl⟩) (z_preV zo_IS rfl rfl hZ hK hT hS) rfl rfl hl.1 rfl (lv_room (Nat.le_of_ble_eq_true rfl)) d_La_shift_7 ⟨Nat.le_of_ble_eq_true rfl, Nat.le_of_ble_eq_true rfl⟩) hS (fun k q ce M5 N6 H locs hw hZ hS h1 h2 h3 => ?_) (fun r1 M2 N3 H locs hw hZ hS => ?_)
  · obtain ⟨hw, eN6⟩ := hw
    rw [eN6] at hZ
    obtain ⟨hw0, hw1, hw2, hk⟩ := hw
    rcases hk with rfl | rfl | rfl
    · have hw := hw0 rfl
      refine vx_catch (own := R_La) (name := zxn 1) (E := zxn 1) hown [] ⟨0, 12, 15, 13⟩ [⟨0, 12, 19, 15⟩, ⟨0, 12, 23, 29⟩] (htab.trans rfl) (fun _ h => absurd h List.not_mem_nil) (by decide) (by decide) (hta _ wd217) (va_Nw.use rfl (hT.1.1 1 (by decide) (by decide))) h1 h2 h3 ?_
      refine lv_astore (pc := 15) (lv' := [(5, .ref q), (0, .ref (b + 0)), (1, .int a1), (2, .int a2), (3, .int a3), (4, .ref (b + 119))]) hx hb d_La_shift_15 hl (by decide) rfl (fun ls hl => ?_)
      refine lv_iconst (pc := 17) (v := 1) hx hb d_La_shift_17 (by decide) ?_
      exact z_iret hx hb hr hlocks hK hT hZ hS ⟨hw, rfl⟩ d_La_shift_18
    · have hw := hw1 rfl
      refine vx_catch (own := R_La) (name := zxn 2) (E := zxn 2) hown [⟨0, 12, 15, 13⟩] ⟨0, 12, 19, 15⟩ [⟨0, 12, 23, 29⟩] (htab.trans rfl) (List.forall_mem_cons.mpr ⟨Or.inr ⟨by decide, zxn 1, hta _ wd217, hT.1.2.2 2 1 (by decide) (by decide) (by decide) (by decide) (by decide)⟩, fun _ h => absurd h List.not_mem_nil⟩) (by decide) (by decide) (hta _ wd218) (va_Nw.use rfl (hT.1.1 2 (by decide) (by decide))) h1 h2 h3 ?_
      refine lv_astore (pc := 19) (lv' := [(5, .ref q), (0, .ref (b + 0)), (1, .int a1), (2, .int a2), (3, .int a3), (4, .ref (b + 119))]) hx hb d_La_shift_19 hl (by decide) rfl (fun ls hl => ?_)
      refine lv_iconst (pc := 21) (v := 2) hx hb d_La_shift_21 (by decide) ?_
      exact z_iret hx hb hr hlocks hK hT hZ hS ⟨hw, rfl⟩ d_La_shift_22
    · have hw := hw2 rfl
      refine vx_catch (own := R_La) (name := zxn 3) (E := zxn 3) hown [⟨0, 12, 15, 13⟩, ⟨0, 12, 19, 15⟩] ⟨0, 12, 23, 29⟩ [] (htab.trans rfl) (List.forall_mem_cons.mpr ⟨Or.inr ⟨by decide, zxn 1, hta _ wd217, hT.1.2.2 3 1 (by decide) (by decide) (by decide) (by decide) (by decide)⟩, List.forall_mem_cons.mpr ⟨Or.inr ⟨by decide, zxn 2, hta _ wd218, hT.1.2.2 3 2 (by decide) (by decide) (by decide) (by decide) (by decide)⟩, fun _ h => absurd h List.not_mem_nil⟩⟩) (by decide) (by decide) (hta _ wd331) (va_Nw.use rfl (hT.1.1 3 (by decide) (by decide))) h1 h2 h3 ?_
      refine lv_astore (pc := 23) (lv' := [(5, .ref q), (0, .ref (b + 0)), (1, .int a1), (2, .int a2), (3, .int a3), (4, .ref (b + 119))]) hx hb d_La_shift_23 hl (by decide) rfl (fun ls hl => ?_)
      refine lv_iconst (pc := 25) (v := 3) hx hb d_La_shift_25 (by decide) ?_
      exact z_iret hx hb hr hlocks hK hT hZ hS ⟨hw, rfl⟩ d_La_shift_26
  · obtain ⟨hw, eN3⟩ := hw
    rw [eN3] at hZ
    refine lv_i2l (pc := 10) (v := r1.toInt64) hx hb d_La_shift_10 rfl ?_
    obtain ⟨hc, hw⟩ := hw
    refine z_last (pc := 11) hx hb hK hZ hS hc d_La_shift_11 (fun M4 H locs hM4 hZ hS => ?_)
    have hw := hw M4 hM4
    refine lv_goto (pc := 12) (tgt := 27) hx hb d_La_shift_12 (by decide) ?_
    refine lv_iconst (pc := 27) (v := 0) hx hb d_La_shift_27 (by decide) ?_
    exact z_iret hx hb hr hlocks hK hT hZ hS ⟨hw, rfl⟩ d_La_shift_28
theorem d_La_divide_0 : decode method_10_code 0 = .ok (.aload 4, 2) := by decide +kernel
theorem d_La_divide_2 : decode method_10_code 2 = .ok (.iconst 0, 1) := by decide +kernel
theorem d_La_divide_3 : decode method_10_code 3 = .ok (.aload_n 0, 1) := by decide +kernel
theorem d_La_divide_4 : decode method_10_code 4 = .ok (.iload_n 1, 1) := by decide +kernel
theorem d_La_divide_5 : decode method_10_code 5 = .ok (.iload_n 2, 1) := by decide +kernel
theorem d_La_divide_6 : decode method_10_code 6 = .ok (.iload_n 3, 1) := by decide +kernel
theorem d_La_divide_7 : decode method_10_code 7 = .ok (.invokevirtual 40, 3) := by decide +kernel
theorem d_La_divide_10 : decode method_10_code 10 = .ok (.i2l, 1) := by decide +kernel
theorem d_La_divide_11 : decode method_10_code 11 = .ok (.lastore, 1) := by decide +kernel
theorem d_La_divide_12 : decode method_10_code 12 = .ok (.goto 15, 3) := by decide +kernel
theorem d_La_divide_15 : decode method_10_code 15 = .ok (.astore 5, 2) := by decide +kernel
theorem d_La_divide_17 : decode method_10_code 17 = .ok (.iconst 1, 1) := by decide +kernel
theorem d_La_divide_18 : decode method_10_code 18 = .ok (.ireturn, 1) := by decide +kernel
theorem d_La_divide_19 : decode method_10_code 19 = .ok (.astore 5, 2) := by decide +kernel
theorem d_La_divide_21 : decode method_10_code 21 = .ok (.iconst 2, 1) := by decide +kernel
theorem d_La_divide_22 : decode method_10_code 22 = .ok (.ireturn, 1) := by decide +kernel
theorem d_La_divide_23 : decode method_10_code 23 = .ok (.astore 5, 2) := by decide +kernel
theorem d_La_divide_25 : decode method_10_code 25 = .ok (.iconst 3, 1) := by decide +kernel
theorem d_La_divide_26 : decode method_10_code 26 = .ok (.ireturn, 1) := by decide +kernel
theorem d_La_divide_27 : decode method_10_code 27 = .ok (.iconst 0, 1) := by decide +kernel
theorem d_La_divide_28 : decode method_10_code 28 = .ok (.ireturn, 1) := by decide +kernel
def w_La_divide (a1 : Int32) (a2 : Int32) (a3 : Int32) (M : zM) (P : Int32 → zM → Prop) : Prop := w_IS_divide a1 a2 a3 M (fun r1 M2 => vp_in (0 : Int32) (zlong 119) ∧ ∀ M4 : zM, M4 = zput M2 119 (0 : Int32).toNatClampNeg r1.toInt64 → P (0 : Int32) M4) (fun k M5 => (k = 1 → P (1 : Int32) M5) ∧ (k = 4 → P (2 : Int32) M5) ∧ (k = 3 → P (3 : Int32) M5) ∧ (k = 1 ∨ k = 4 ∨ k = 3))
def ws_La_divide : List Cond := .codeWith y_La_divide method_10_code 6 (Option.some Jvm.ClassFile.FieldType.int) [((0 : Nat), (12 : Nat), (15 : Nat), (13 : Nat)), ((0 : Nat), (12 : Nat), (19 : Nat), (43 : Nat)), ((0 : Nat), (12 : Nat), (23 : Nat), (29 : Nat))] :: zall
def rm_La_divide : Room := { frames := 8, cells := 5, slots := 30, locals := 134 }
theorem hd_La_divide : y_La_divide.cls ≠ "java/lang/invoke/MethodHandle" ∧ y_La_divide.cls ≠ "java/lang/invoke/VarHandle" ∧ (parseMethodDescriptor y_La_divide.desc).map (fun d => d.parameters.length) = some 5 := by decide +kernel
set_option maxHeartbeats 4000000 in
set_option maxRecDepth 100000 in
theorem c_La_divide (l : Launch) (hst : l.stackTraces = false) (G : zG) (b : Nat) (a1 : Int32) (a2 : Int32) (a3 : Int32) (M : zM) (N : zN) {P : Int32 → zM → Prop} (hw : w_La_divide a1 a2 a3 M P) : Met l y_La_divide ws_La_divide rm_La_divide (zPc G b M N [.ref (b + 0), .int a1, .int a2, .int a3, .ref (b + 119)]) (zQi G b (fun r M' N' => P r M' ∧ N' = N)) 5 30 (zA b) := by
  refine va_MetW (cc := method_10_code) (maxL := 6) (ret := (Option.some Jvm.ClassFile.FieldType.int)) (hh := [((0 : Nat), (12 : Nat), (15 : Nat), (13 : Nat)), ((0 : Nat), (12 : Nat), (19 : Nat), (43 : Nat)), ((0 : Nat), (12 : Nat), (23 : Nat), (29 : Nat))]) (by decide) rfl ?_
  intro p e s m args below meth c s₁ B hml hv
  obtain ⟨rfl, hZ, hK, hT⟩ := hv
  have hx := B.exec
  have hb := B.bytes
  have hr := B.returns
  have hts := atoms_spec (ws := ws_La_divide) B.pre
  have hta : ∀ w ∈ zall, w.before ([.ref (b + 0), .int a1, .int a2, .int a3, .ref (b + 119)] : List Value).toArray s = true := fun w h => hts w (List.mem_cons_of_mem _ h)
  have hown : s.vm.findClass R_La = some m.cls := findClass_of_methodNamed B.named
  have hlocks := B.notSynchronized
  have hS : va_S (zA b) s.heap s.heap [] := va_S.rf
  have hl := lv_entry ([.ref (b + 0), .int a1, .int a2, .int a3, .ref (b + 119)]) (n := 6) (Nat.le_of_ble_eq_true rfl)
  rw [lg_entry_eq]
  generalize (lg_sl ([.ref (b + 0), .int a1, .int a2, .int a3, .ref (b + 119)]) ++ List.replicate (6 - (lg_sl ([.ref (b + 0), .int a1, .int a2, .int a3, .ref (b + 119)])).length) Slot.unset).toArray = ls at hl ⊢
  have hl : lv_has ls 6 [(0, .ref (b + 0)), (1, .int a1), (2, .int a2), (3, .int a3), (4, .ref (b + 119))] := hl
  have htab : c.exceptionTable.toList = tableOf [((0 : Nat), (12 : Nat), (15 : Nat), (13 : Nat)), ((0 : Nat), (12 : Nat), (19 : Nat), (43 : Nat)), ((0 : Nat), (12 : Nat), (23 : Nat), (29 : Nat))] := vx_table (x := y_La_divide) B (hts _ List.mem_cons_self)
  unfold w_La_divide at hw
  refine lv_aload (pc := 0) hx hb d_La_divide_0 (lv_at hl 4 rfl) ?_
  refine lv_iconst (pc := 2) (v := 0) hx hb d_La_divide_2 (by decide) ?_
  refine lv_aload_n (pc := 3) hx hb d_La_divide_3 rfl (lv_at hl 0 rfl) ?_
  refine lv_iload_n (pc := 4) hx hb d_La_divide_4 rfl (lv_at hl 1 rfl) ?_
  refine lv_iload_n (pc := 5) hx hb d_La_divide_5 rfl (lv_at hl 2 rfl) ?_
  refine lv_iload_n (pc := 6) hx hb d_La_divide_6 rfl (lv_at hl 3 rfl) ?_
  refine z_xcalli (pc := 7) (vx_runV (C := R_IS) (b := b + 0) (As := [.int a1, .int a2, .int a3]) (rest := [.int (0 : Int32), .ref (b + 119)]) ⟨hx, hb, hml, hown, hts⟩ (c_IS_divide l hst G b a1 a2 a3 M N hw) (cwV 3 hts (z_good (zgV wd399 wd400 wd401 wd1 wd402)) rfl rfl rfl ⟨rfl, hd_IS_divide⟩ ⟨Nat.le_of_ble_eq_true rfl, Nat.le_of_ble_eq_true rfl⟩) (z_preV zo_IS rfl rfl hZ hK hT hS) rfl rfl hl.1 rfl (lv_room (Nat.le_of_ble_eq_true rfl)) d_La_divide_7 ⟨Nat.le_of_ble_eq_true rfl, Nat.le_of_ble_eq_true rfl⟩) hS (fun k q ce M5 N6 H locs hw hZ hS h1 h2 h3 => ?_) (fun r1 M2 N3 H locs hw hZ hS => ?_)
  · obtain ⟨hw, eN6⟩ := hw
    rw [eN6] at hZ
    obtain ⟨hw0, hw1, hw2, hk⟩ := hw
    rcases hk with rfl | rfl | rfl
    · have hw := hw0 rfl
      refine vx_catch (own := R_La) (name := zxn 1) (E := zxn 1) hown [] ⟨0, 12, 15, 13⟩ [⟨0, 12, 19, 43⟩, ⟨0, 12, 23, 29⟩] (htab.trans rfl) (fun _ h => absurd h List.not_mem_nil) (by decide) (by decide) (hta _ wd217) (va_Nw.use rfl (hT.1.1 1 (by decide) (by decide))) h1 h2 h3 ?_
      refine lv_astore (pc := 15) (lv' := [(5, .ref q), (0, .ref (b + 0)), (1, .int a1), (2, .int a2), (3, .int a3), (4, .ref (b + 119))]) hx hb d_La_divide_15 hl (by decide) rfl (fun ls hl => ?_)
      refine lv_iconst (pc := 17) (v := 1) hx hb d_La_divide_17 (by decide) ?_
      exact z_iret hx hb hr hlocks hK hT hZ hS ⟨hw, rfl⟩ d_La_divide_18
    · have hw := hw1 rfl
      refine vx_catch (own := R_La) (name := zxn 4) (E := zxn 4) hown [⟨0, 12, 15, 13⟩] ⟨0, 12, 19, 43⟩ [⟨0, 12, 23, 29⟩] (htab.trans rfl) (List.forall_mem_cons.mpr ⟨Or.inr ⟨by decide, zxn 1, hta _ wd217, hT.1.2.2 4 1 (by decide) (by decide) (by decide) (by decide) (by decide)⟩, fun _ h => absurd h List.not_mem_nil⟩) (by decide) (by decide) (hta _ wd398) (va_Nw.use rfl (hT.1.1 4 (by decide) (by decide))) h1 h2 h3 ?_
      refine lv_astore (pc := 19) (lv' := [(5, .ref q), (0, .ref (b + 0)), (1, .int a1), (2, .int a2), (3, .int a3), (4, .ref (b + 119))]) hx hb d_La_divide_19 hl (by decide) rfl (fun ls hl => ?_)
      refine lv_iconst (pc := 21) (v := 2) hx hb d_La_divide_21 (by decide) ?_
      exact z_iret hx hb hr hlocks hK hT hZ hS ⟨hw, rfl⟩ d_La_divide_22
    · have hw := hw2 rfl
      refine vx_catch (own := R_La) (name := zxn 3) (E := zxn 3) hown [⟨0, 12, 15, 13⟩, ⟨0, 12, 19, 43⟩] ⟨0, 12, 23, 29⟩ [] (htab.trans rfl) (List.forall_mem_cons.mpr ⟨Or.inr ⟨by decide, zxn 1, hta _ wd217, hT.1.2.2 3 1 (by decide) (by decide) (by decide) (by decide) (by decide)⟩, List.forall_mem_cons.mpr ⟨Or.inr ⟨by decide, zxn 4, hta _ wd398, hT.1.2.2 3 4 (by decide) (by decide) (by decide) (by decide) (by decide)⟩, fun _ h => absurd h List.not_mem_nil⟩⟩) (by decide) (by decide) (hta _ wd331) (va_Nw.use rfl (hT.1.1 3 (by decide) (by decide))) h1 h2 h3 ?_
      refine lv_astore (pc := 23) (lv' := [(5, .ref q), (0, .ref (b + 0)), (1, .int a1), (2, .int a2), (3, .int a3), (4, .ref (b + 119))]) hx hb d_La_divide_23 hl (by decide) rfl (fun ls hl => ?_)
      refine lv_iconst (pc := 25) (v := 3) hx hb d_La_divide_25 (by decide) ?_
      exact z_iret hx hb hr hlocks hK hT hZ hS ⟨hw, rfl⟩ d_La_divide_26
  · obtain ⟨hw, eN3⟩ := hw
    rw [eN3] at hZ
    refine lv_i2l (pc := 10) (v := r1.toInt64) hx hb d_La_divide_10 rfl ?_
    obtain ⟨hc, hw⟩ := hw
    refine z_last (pc := 11) hx hb hK hZ hS hc d_La_divide_11 (fun M4 H locs hM4 hZ hS => ?_)
    have hw := hw M4 hM4
    refine lv_goto (pc := 12) (tgt := 27) hx hb d_La_divide_12 (by decide) ?_
    refine lv_iconst (pc := 27) (v := 0) hx hb d_La_divide_27 (by decide) ?_
    exact z_iret hx hb hr hlocks hK hT hZ hS ⟨hw, rfl⟩ d_La_divide_28
theorem d_La_common_0 : decode method_11_code 0 = .ok (.aload 4, 2) := by decide +kernel
theorem d_La_common_2 : decode method_11_code 2 = .ok (.iconst 0, 1) := by decide +kernel
theorem d_La_common_3 : decode method_11_code 3 = .ok (.aload_n 0, 1) := by decide +kernel
theorem d_La_common_4 : decode method_11_code 4 = .ok (.iload_n 1, 1) := by decide +kernel
theorem d_La_common_5 : decode method_11_code 5 = .ok (.iload_n 2, 1) := by decide +kernel
theorem d_La_common_6 : decode method_11_code 6 = .ok (.iload_n 3, 1) := by decide +kernel
theorem d_La_common_7 : decode method_11_code 7 = .ok (.invokevirtual 45, 3) := by decide +kernel
theorem d_La_common_10 : decode method_11_code 10 = .ok (.i2l, 1) := by decide +kernel
theorem d_La_common_11 : decode method_11_code 11 = .ok (.lastore, 1) := by decide +kernel
theorem d_La_common_12 : decode method_11_code 12 = .ok (.goto 11, 3) := by decide +kernel
theorem d_La_common_15 : decode method_11_code 15 = .ok (.astore 5, 2) := by decide +kernel
theorem d_La_common_17 : decode method_11_code 17 = .ok (.iconst 1, 1) := by decide +kernel
theorem d_La_common_18 : decode method_11_code 18 = .ok (.ireturn, 1) := by decide +kernel
theorem d_La_common_19 : decode method_11_code 19 = .ok (.astore 5, 2) := by decide +kernel
theorem d_La_common_21 : decode method_11_code 21 = .ok (.iconst 2, 1) := by decide +kernel
theorem d_La_common_22 : decode method_11_code 22 = .ok (.ireturn, 1) := by decide +kernel
theorem d_La_common_23 : decode method_11_code 23 = .ok (.iconst 0, 1) := by decide +kernel
theorem d_La_common_24 : decode method_11_code 24 = .ok (.ireturn, 1) := by decide +kernel
def w_La_common (a1 : Int32) (a2 : Int32) (a3 : Int32) (M : zM) (P : Int32 → zM → Prop) : Prop := w_IS_common a1 a2 a3 M (fun r1 M2 => vp_in (0 : Int32) (zlong 119) ∧ ∀ M4 : zM, M4 = zput M2 119 (0 : Int32).toNatClampNeg r1.toInt64 → P (0 : Int32) M4) (fun k M5 => (k = 1 → P (1 : Int32) M5) ∧ (k = 3 → P (2 : Int32) M5) ∧ (k = 1 ∨ k = 3))
def ws_La_common : List Cond := .codeWith y_La_common method_11_code 6 (Option.some Jvm.ClassFile.FieldType.int) [((0 : Nat), (12 : Nat), (15 : Nat), (13 : Nat)), ((0 : Nat), (12 : Nat), (19 : Nat), (29 : Nat))] :: zall
def rm_La_common : Room := { frames := 8, cells := 4, slots := 24, locals := 163 }
theorem hd_La_common : y_La_common.cls ≠ "java/lang/invoke/MethodHandle" ∧ y_La_common.cls ≠ "java/lang/invoke/VarHandle" ∧ (parseMethodDescriptor y_La_common.desc).map (fun d => d.parameters.length) = some 5 := by decide +kernel
set_option maxHeartbeats 4000000 in
set_option maxRecDepth 100000 in
theorem c_La_common (l : Launch) (hst : l.stackTraces = false) (G : zG) (b : Nat) (a1 : Int32) (a2 : Int32) (a3 : Int32) (M : zM) (N : zN) {P : Int32 → zM → Prop} (hw : w_La_common a1 a2 a3 M P) : Met l y_La_common ws_La_common rm_La_common (zPc G b M N [.ref (b + 0), .int a1, .int a2, .int a3, .ref (b + 119)]) (zQi G b (fun r M' N' => P r M' ∧ N' = N)) 4 24 (zA b) := by
  refine va_MetW (cc := method_11_code) (maxL := 6) (ret := (Option.some Jvm.ClassFile.FieldType.int)) (hh := [((0 : Nat), (12 : Nat), (15 : Nat), (13 : Nat)), ((0 : Nat), (12 : Nat), (19 : Nat), (29 : Nat))]) (by decide) rfl ?_
  intro p e s m args below meth c s₁ B hml hv
  obtain ⟨rfl, hZ, hK, hT⟩ := hv
  have hx := B.exec
  have hb := B.bytes
  have hr := B.returns
  have hts := atoms_spec (ws := ws_La_common) B.pre
  have hta : ∀ w ∈ zall, w.before ([.ref (b + 0), .int a1, .int a2, .int a3, .ref (b + 119)] : List Value).toArray s = true := fun w h => hts w (List.mem_cons_of_mem _ h)
  have hown : s.vm.findClass R_La = some m.cls := findClass_of_methodNamed B.named
  have hlocks := B.notSynchronized
  have hS : va_S (zA b) s.heap s.heap [] := va_S.rf
  have hl := lv_entry ([.ref (b + 0), .int a1, .int a2, .int a3, .ref (b + 119)]) (n := 6) (Nat.le_of_ble_eq_true rfl)
  rw [lg_entry_eq]
  generalize (lg_sl ([.ref (b + 0), .int a1, .int a2, .int a3, .ref (b + 119)]) ++ List.replicate (6 - (lg_sl ([.ref (b + 0), .int a1, .int a2, .int a3, .ref (b + 119)])).length) Slot.unset).toArray = ls at hl ⊢
  have hl : lv_has ls 6 [(0, .ref (b + 0)), (1, .int a1), (2, .int a2), (3, .int a3), (4, .ref (b + 119))] := hl
  have htab : c.exceptionTable.toList = tableOf [((0 : Nat), (12 : Nat), (15 : Nat), (13 : Nat)), ((0 : Nat), (12 : Nat), (19 : Nat), (29 : Nat))] := vx_table (x := y_La_common) B (hts _ List.mem_cons_self)
  unfold w_La_common at hw
  refine lv_aload (pc := 0) hx hb d_La_common_0 (lv_at hl 4 rfl) ?_
  refine lv_iconst (pc := 2) (v := 0) hx hb d_La_common_2 (by decide) ?_
  refine lv_aload_n (pc := 3) hx hb d_La_common_3 rfl (lv_at hl 0 rfl) ?_
  refine lv_iload_n (pc := 4) hx hb d_La_common_4 rfl (lv_at hl 1 rfl) ?_
  refine lv_iload_n (pc := 5) hx hb d_La_common_5 rfl (lv_at hl 2 rfl) ?_
  refine lv_iload_n (pc := 6) hx hb d_La_common_6 rfl (lv_at hl 3 rfl) ?_
  refine z_xcalli (pc := 7) (vx_runV (C := R_IS) (b := b + 0) (As := [.int a1, .int a2, .int a3]) (rest := [.int (0 : Int32), .ref (b + 119)]) ⟨hx, hb, hml, hown, hts⟩ (c_IS_common l hst G b a1 a2 a3 M N hw) (cwV 3 hts (z_good (zgV wd432 wd433 wd434 wd1 wd435)) rfl rfl rfl ⟨rfl, hd_IS_common⟩ ⟨Nat.le_of_ble_eq_true rfl, Nat.le_of_ble_eq_true rfl⟩) (z_preV zo_IS rfl rfl hZ hK hT hS) rfl rfl hl.1 rfl (lv_room (Nat.le_of_ble_eq_true rfl)) d_La_common_7 ⟨Nat.le_of_ble_eq_true rfl, Nat.le_of_ble_eq_true rfl⟩) hS (fun k q ce M5 N6 H locs hw hZ hS h1 h2 h3 => ?_) (fun r1 M2 N3 H locs hw hZ hS => ?_)
  · obtain ⟨hw, eN6⟩ := hw
    rw [eN6] at hZ
    obtain ⟨hw0, hw1, hk⟩ := hw
    rcases hk with rfl | rfl
    · have hw := hw0 rfl
      refine vx_catch (own := R_La) (name := zxn 1) (E := zxn 1) hown [] ⟨0, 12, 15, 13⟩ [⟨0, 12, 19, 29⟩] (htab.trans rfl) (fun _ h => absurd h List.not_mem_nil) (by decide) (by decide) (hta _ wd217) (va_Nw.use rfl (hT.1.1 1 (by decide) (by decide))) h1 h2 h3 ?_
      refine lv_astore (pc := 15) (lv' := [(5, .ref q), (0, .ref (b + 0)), (1, .int a1), (2, .int a2), (3, .int a3), (4, .ref (b + 119))]) hx hb d_La_common_15 hl (by decide) rfl (fun ls hl => ?_)
      refine lv_iconst (pc := 17) (v := 1) hx hb d_La_common_17 (by decide) ?_
      exact z_iret hx hb hr hlocks hK hT hZ hS ⟨hw, rfl⟩ d_La_common_18
    · have hw := hw1 rfl
      refine vx_catch (own := R_La) (name := zxn 3) (E := zxn 3) hown [⟨0, 12, 15, 13⟩] ⟨0, 12, 19, 29⟩ [] (htab.trans rfl) (List.forall_mem_cons.mpr ⟨Or.inr ⟨by decide, zxn 1, hta _ wd217, hT.1.2.2 3 1 (by decide) (by decide) (by decide) (by decide) (by decide)⟩, fun _ h => absurd h List.not_mem_nil⟩) (by decide) (by decide) (hta _ wd331) (va_Nw.use rfl (hT.1.1 3 (by decide) (by decide))) h1 h2 h3 ?_
      refine lv_astore (pc := 19) (lv' := [(5, .ref q), (0, .ref (b + 0)), (1, .int a1), (2, .int a2), (3, .int a3), (4, .ref (b + 119))]) hx hb d_La_common_19 hl (by decide) rfl (fun ls hl => ?_)
      refine lv_iconst (pc := 21) (v := 2) hx hb d_La_common_21 (by decide) ?_
      exact z_iret hx hb hr hlocks hK hT hZ hS ⟨hw, rfl⟩ d_La_common_22
  · obtain ⟨hw, eN3⟩ := hw
    rw [eN3] at hZ
    refine lv_i2l (pc := 10) (v := r1.toInt64) hx hb d_La_common_10 rfl ?_
    obtain ⟨hc, hw⟩ := hw
    refine z_last (pc := 11) hx hb hK hZ hS hc d_La_common_11 (fun M4 H locs hM4 hZ hS => ?_)
    have hw := hw M4 hM4
    refine lv_goto (pc := 12) (tgt := 23) hx hb d_La_common_12 (by decide) ?_
    refine lv_iconst (pc := 23) (v := 0) hx hb d_La_common_23 (by decide) ?_
    exact z_iret hx hb hr hlocks hK hT hZ hS ⟨hw, rfl⟩ d_La_common_24
theorem d_La_value_0 : decode method_12_code 0 = .ok (.aload_n 3, 1) := by decide +kernel
theorem d_La_value_1 : decode method_12_code 1 = .ok (.iconst 0, 1) := by decide +kernel
theorem d_La_value_2 : decode method_12_code 2 = .ok (.aload_n 0, 1) := by decide +kernel
theorem d_La_value_3 : decode method_12_code 3 = .ok (.iload_n 1, 1) := by decide +kernel
theorem d_La_value_4 : decode method_12_code 4 = .ok (.iload_n 2, 1) := by decide +kernel
theorem d_La_value_5 : decode method_12_code 5 = .ok (.invokevirtual 48, 3) := by decide +kernel
theorem d_La_value_8 : decode method_12_code 8 = .ok (.lastore, 1) := by decide +kernel
theorem d_La_value_9 : decode method_12_code 9 = .ok (.goto 11, 3) := by decide +kernel
theorem d_La_value_12 : decode method_12_code 12 = .ok (.astore 4, 2) := by decide +kernel
theorem d_La_value_14 : decode method_12_code 14 = .ok (.iconst 1, 1) := by decide +kernel
theorem d_La_value_15 : decode method_12_code 15 = .ok (.ireturn, 1) := by decide +kernel
theorem d_La_value_16 : decode method_12_code 16 = .ok (.astore 4, 2) := by decide +kernel
theorem d_La_value_18 : decode method_12_code 18 = .ok (.iconst 2, 1) := by decide +kernel
theorem d_La_value_19 : decode method_12_code 19 = .ok (.ireturn, 1) := by decide +kernel
theorem d_La_value_20 : decode method_12_code 20 = .ok (.iconst 0, 1) := by decide +kernel
theorem d_La_value_21 : decode method_12_code 21 = .ok (.ireturn, 1) := by decide +kernel
def w_La_value (a1 : Int32) (a2 : Int32) (M : zM) (P : Int32 → zM → Prop) : Prop := w_IS_value a1 a2 M (fun r1 => vp_in (0 : Int32) (zlong 119) ∧ ∀ M4 : zM, M4 = zput M 119 (0 : Int32).toNatClampNeg r1 → P (0 : Int32) M4) (fun k => (k = 1 → P (1 : Int32) M) ∧ (k = 2 → P (2 : Int32) M) ∧ (k = 1 ∨ k = 2))
def ws_La_value : List Cond := .codeWith y_La_value method_12_code 5 (Option.some Jvm.ClassFile.FieldType.int) [((0 : Nat), (9 : Nat), (12 : Nat), (13 : Nat)), ((0 : Nat), (9 : Nat), (16 : Nat), (15 : Nat))] :: zall
def rm_La_value : Room := { frames := 8, cells := 2, slots := 12, locals := 134 }
theorem hd_La_value : y_La_value.cls ≠ "java/lang/invoke/MethodHandle" ∧ y_La_value.cls ≠ "java/lang/invoke/VarHandle" ∧ (parseMethodDescriptor y_La_value.desc).map (fun d => d.parameters.length) = some 4 := by decide +kernel
set_option maxHeartbeats 4000000 in
set_option maxRecDepth 100000 in
theorem c_La_value (l : Launch) (hst : l.stackTraces = false) (G : zG) (b : Nat) (a1 : Int32) (a2 : Int32) (M : zM) (N : zN) {P : Int32 → zM → Prop} (hw : w_La_value a1 a2 M P) : Met l y_La_value ws_La_value rm_La_value (zPc G b M N [.ref (b + 0), .int a1, .int a2, .ref (b + 119)]) (zQi G b (fun r M' N' => P r M' ∧ N' = N)) 2 12 (zA b) := by
  refine va_MetW (cc := method_12_code) (maxL := 5) (ret := (Option.some Jvm.ClassFile.FieldType.int)) (hh := [((0 : Nat), (9 : Nat), (12 : Nat), (13 : Nat)), ((0 : Nat), (9 : Nat), (16 : Nat), (15 : Nat))]) (by decide) rfl ?_
  intro p e s m args below meth c s₁ B hml hv
  obtain ⟨rfl, hZ, hK, hT⟩ := hv
  have hx := B.exec
  have hb := B.bytes
  have hr := B.returns
  have hts := atoms_spec (ws := ws_La_value) B.pre
  have hta : ∀ w ∈ zall, w.before ([.ref (b + 0), .int a1, .int a2, .ref (b + 119)] : List Value).toArray s = true := fun w h => hts w (List.mem_cons_of_mem _ h)
  have hown : s.vm.findClass R_La = some m.cls := findClass_of_methodNamed B.named
  have hlocks := B.notSynchronized
  have hS : va_S (zA b) s.heap s.heap [] := va_S.rf
  have hl := lv_entry ([.ref (b + 0), .int a1, .int a2, .ref (b + 119)]) (n := 5) (Nat.le_of_ble_eq_true rfl)
  rw [lg_entry_eq]
  generalize (lg_sl ([.ref (b + 0), .int a1, .int a2, .ref (b + 119)]) ++ List.replicate (5 - (lg_sl ([.ref (b + 0), .int a1, .int a2, .ref (b + 119)])).length) Slot.unset).toArray = ls at hl ⊢
  have hl : lv_has ls 5 [(0, .ref (b + 0)), (1, .int a1), (2, .int a2), (3, .ref (b + 119))] := hl
  have htab : c.exceptionTable.toList = tableOf [((0 : Nat), (9 : Nat), (12 : Nat), (13 : Nat)), ((0 : Nat), (9 : Nat), (16 : Nat), (15 : Nat))] := vx_table (x := y_La_value) B (hts _ List.mem_cons_self)
  unfold w_La_value at hw
  refine lv_aload_n (pc := 0) hx hb d_La_value_0 rfl (lv_at hl 3 rfl) ?_
  refine lv_iconst (pc := 1) (v := 0) hx hb d_La_value_1 (by decide) ?_
  refine lv_aload_n (pc := 2) hx hb d_La_value_2 rfl (lv_at hl 0 rfl) ?_
  refine lv_iload_n (pc := 3) hx hb d_La_value_3 rfl (lv_at hl 1 rfl) ?_
  refine lv_iload_n (pc := 4) hx hb d_La_value_4 rfl (lv_at hl 2 rfl) ?_
  refine z_xcalll (pc := 5) (vx_runV (C := R_IS) (b := b + 0) (As := [.int a1, .int a2]) (rest := [.int (0 : Int32), .ref (b + 119)]) ⟨hx, hb, hml, hown, hts⟩ (c_IS_value l hst G b a1 a2 M N hw) (cwV 2 hts (z_good (zgV wd490 wd491 wd492 wd1 wd493)) rfl rfl rfl ⟨rfl, hd_IS_value⟩ ⟨Nat.le_of_ble_eq_true rfl, Nat.le_of_ble_eq_true rfl⟩) (z_preV zo_IS rfl rfl hZ hK hT hS) rfl rfl hl.1 rfl (lv_room (Nat.le_of_ble_eq_true rfl)) d_La_value_5 ⟨Nat.le_of_ble_eq_true rfl, Nat.le_of_ble_eq_true rfl⟩) hS (fun k q ce M5 N6 H locs hw hZ hS h1 h2 h3 => ?_) (fun r1 M2 N3 H locs hw hZ hS => ?_)
  · obtain ⟨hw, eM5, eN6⟩ := hw
    rw [eM5, eN6] at hZ
    obtain ⟨hw0, hw1, hk⟩ := hw
    rcases hk with rfl | rfl
    · have hw := hw0 rfl
      refine vx_catch (own := R_La) (name := zxn 1) (E := zxn 1) hown [] ⟨0, 9, 12, 13⟩ [⟨0, 9, 16, 15⟩] (htab.trans rfl) (fun _ h => absurd h List.not_mem_nil) (by decide) (by decide) (hta _ wd217) (va_Nw.use rfl (hT.1.1 1 (by decide) (by decide))) h1 h2 h3 ?_
      refine lv_astore (pc := 12) (lv' := [(4, .ref q), (0, .ref (b + 0)), (1, .int a1), (2, .int a2), (3, .ref (b + 119))]) hx hb d_La_value_12 hl (by decide) rfl (fun ls hl => ?_)
      refine lv_iconst (pc := 14) (v := 1) hx hb d_La_value_14 (by decide) ?_
      exact z_iret hx hb hr hlocks hK hT hZ hS ⟨hw, rfl⟩ d_La_value_15
    · have hw := hw1 rfl
      refine vx_catch (own := R_La) (name := zxn 2) (E := zxn 2) hown [⟨0, 9, 12, 13⟩] ⟨0, 9, 16, 15⟩ [] (htab.trans rfl) (List.forall_mem_cons.mpr ⟨Or.inr ⟨by decide, zxn 1, hta _ wd217, hT.1.2.2 2 1 (by decide) (by decide) (by decide) (by decide) (by decide)⟩, fun _ h => absurd h List.not_mem_nil⟩) (by decide) (by decide) (hta _ wd218) (va_Nw.use rfl (hT.1.1 2 (by decide) (by decide))) h1 h2 h3 ?_
      refine lv_astore (pc := 16) (lv' := [(4, .ref q), (0, .ref (b + 0)), (1, .int a1), (2, .int a2), (3, .ref (b + 119))]) hx hb d_La_value_16 hl (by decide) rfl (fun ls hl => ?_)
      refine lv_iconst (pc := 18) (v := 2) hx hb d_La_value_18 (by decide) ?_
      exact z_iret hx hb hr hlocks hK hT hZ hS ⟨hw, rfl⟩ d_La_value_19
  · obtain ⟨hw, eM2, eN3⟩ := hw
    rw [eM2, eN3] at hZ
    obtain ⟨hc, hw⟩ := hw
    refine z_last (pc := 8) hx hb hK hZ hS hc d_La_value_8 (fun M4 H locs hM4 hZ hS => ?_)
    have hw := hw M4 hM4
    refine lv_goto (pc := 9) (tgt := 20) hx hb d_La_value_9 (by decide) ?_
    refine lv_iconst (pc := 20) (v := 0) hx hb d_La_value_20 (by decide) ?_
    exact z_iret hx hb hr hlocks hK hT hZ hS ⟨hw, rfl⟩ d_La_value_21
theorem d_La_content_0 : decode method_13_code 0 = .ok (.aload_n 2, 1) := by decide +kernel
theorem d_La_content_1 : decode method_13_code 1 = .ok (.iconst 0, 1) := by decide +kernel
theorem d_La_content_2 : decode method_13_code 2 = .ok (.aload_n 0, 1) := by decide +kernel
theorem d_La_content_3 : decode method_13_code 3 = .ok (.iload_n 1, 1) := by decide +kernel
theorem d_La_content_4 : decode method_13_code 4 = .ok (.invokevirtual 52, 3) := by decide +kernel
theorem d_La_content_7 : decode method_13_code 7 = .ok (.i2l, 1) := by decide +kernel
theorem d_La_content_8 : decode method_13_code 8 = .ok (.lastore, 1) := by decide +kernel
theorem d_La_content_9 : decode method_13_code 9 = .ok (.goto 6, 3) := by decide +kernel
theorem d_La_content_12 : decode method_13_code 12 = .ok (.astore_n 3, 1) := by decide +kernel
theorem d_La_content_13 : decode method_13_code 13 = .ok (.iconst 1, 1) := by decide +kernel
theorem d_La_content_14 : decode method_13_code 14 = .ok (.ireturn, 1) := by decide +kernel
theorem d_La_content_15 : decode method_13_code 15 = .ok (.iconst 0, 1) := by decide +kernel
theorem d_La_content_16 : decode method_13_code 16 = .ok (.ireturn, 1) := by decide +kernel
def w_La_content (a1 : Int32) (M : zM) (P : Int32 → zM → Prop) : Prop := w_IS_content a1 M (fun r1 => vp_in (0 : Int32) (zlong 119) ∧ ∀ M4 : zM, M4 = zput M 119 (0 : Int32).toNatClampNeg r1.toInt64 → P (0 : Int32) M4) (fun k => (k = 1 → P (1 : Int32) M) ∧ (k = 1))
def ws_La_content : List Cond := .codeWith y_La_content method_13_code 4 (Option.some Jvm.ClassFile.FieldType.int) [((0 : Nat), (9 : Nat), (12 : Nat), (13 : Nat))] :: zall
def rm_La_content : Room := { frames := 8, cells := 1, slots := 6, locals := 130 }
theorem hd_La_content : y_La_content.cls ≠ "java/lang/invoke/MethodHandle" ∧ y_La_content.cls ≠ "java/lang/invoke/VarHandle" ∧ (parseMethodDescriptor y_La_content.desc).map (fun d => d.parameters.length) = some 3 := by decide +kernel
set_option maxHeartbeats 4000000 in
set_option maxRecDepth 100000 in
theorem c_La_content (l : Launch) (hst : l.stackTraces = false) (G : zG) (b : Nat) (a1 : Int32) (M : zM) (N : zN) {P : Int32 → zM → Prop} (hw : w_La_content a1 M P) : Met l y_La_content ws_La_content rm_La_content (zPc G b M N [.ref (b + 0), .int a1, .ref (b + 119)]) (zQi G b (fun r M' N' => P r M' ∧ N' = N)) 1 6 (zA b) := by
  refine va_MetW (cc := method_13_code) (maxL := 4) (ret := (Option.some Jvm.ClassFile.FieldType.int)) (hh := [((0 : Nat), (9 : Nat), (12 : Nat), (13 : Nat))]) (by decide) rfl ?_
  intro p e s m args below meth c s₁ B hml hv
  obtain ⟨rfl, hZ, hK, hT⟩ := hv
  have hx := B.exec
  have hb := B.bytes
  have hr := B.returns
  have hts := atoms_spec (ws := ws_La_content) B.pre
  have hta : ∀ w ∈ zall, w.before ([.ref (b + 0), .int a1, .ref (b + 119)] : List Value).toArray s = true := fun w h => hts w (List.mem_cons_of_mem _ h)
  have hown : s.vm.findClass R_La = some m.cls := findClass_of_methodNamed B.named
  have hlocks := B.notSynchronized
  have hS : va_S (zA b) s.heap s.heap [] := va_S.rf
  have hl := lv_entry ([.ref (b + 0), .int a1, .ref (b + 119)]) (n := 4) (Nat.le_of_ble_eq_true rfl)
  rw [lg_entry_eq]
  generalize (lg_sl ([.ref (b + 0), .int a1, .ref (b + 119)]) ++ List.replicate (4 - (lg_sl ([.ref (b + 0), .int a1, .ref (b + 119)])).length) Slot.unset).toArray = ls at hl ⊢
  have hl : lv_has ls 4 [(0, .ref (b + 0)), (1, .int a1), (2, .ref (b + 119))] := hl
  have htab : c.exceptionTable.toList = tableOf [((0 : Nat), (9 : Nat), (12 : Nat), (13 : Nat))] := vx_table (x := y_La_content) B (hts _ List.mem_cons_self)
  unfold w_La_content at hw
  refine lv_aload_n (pc := 0) hx hb d_La_content_0 rfl (lv_at hl 2 rfl) ?_
  refine lv_iconst (pc := 1) (v := 0) hx hb d_La_content_1 (by decide) ?_
  refine lv_aload_n (pc := 2) hx hb d_La_content_2 rfl (lv_at hl 0 rfl) ?_
  refine lv_iload_n (pc := 3) hx hb d_La_content_3 rfl (lv_at hl 1 rfl) ?_
  refine z_xcalli (pc := 4) (vx_runV (C := R_IS) (b := b + 0) (As := [.int a1]) (rest := [.int (0 : Int32), .ref (b + 119)]) ⟨hx, hb, hml, hown, hts⟩ (c_IS_content l hst G b a1 M N hw) (cwV 1 hts (z_good (zgV wd497 wd498 wd499 wd1 wd500)) rfl rfl rfl ⟨rfl, hd_IS_content⟩ ⟨Nat.le_of_ble_eq_true rfl, Nat.le_of_ble_eq_true rfl⟩) (z_preV zo_IS rfl rfl hZ hK hT hS) rfl rfl hl.1 rfl (lv_room (Nat.le_of_ble_eq_true rfl)) d_La_content_4 ⟨Nat.le_of_ble_eq_true rfl, Nat.le_of_ble_eq_true rfl⟩) hS (fun k q ce M5 N6 H locs hw hZ hS h1 h2 h3 => ?_) (fun r1 M2 N3 H locs hw hZ hS => ?_)
  · obtain ⟨hw, eM5, eN6⟩ := hw
    rw [eM5, eN6] at hZ
    obtain ⟨hw0, hk⟩ := hw
    subst hk
    have hw := hw0 rfl
    refine vx_catch (own := R_La) (name := zxn 1) (E := zxn 1) hown [] ⟨0, 9, 12, 13⟩ [] (htab.trans rfl) (fun _ h => absurd h List.not_mem_nil) (by decide) (by decide) (hta _ wd217) (va_Nw.use rfl (hT.1.1 1 (by decide) (by decide))) h1 h2 h3 ?_
    refine lv_astore_n (pc := 12) (lv' := [(3, .ref q), (0, .ref (b + 0)), (1, .int a1), (2, .ref (b + 119))]) hx hb d_La_content_12 rfl hl (by decide) rfl (fun ls hl => ?_)
    refine lv_iconst (pc := 13) (v := 1) hx hb d_La_content_13 (by decide) ?_
    exact z_iret hx hb hr hlocks hK hT hZ hS ⟨hw, rfl⟩ d_La_content_14
  · obtain ⟨hw, eM2, eN3⟩ := hw
    rw [eM2, eN3] at hZ
    refine lv_i2l (pc := 7) (v := r1.toInt64) hx hb d_La_content_7 rfl ?_
    obtain ⟨hc, hw⟩ := hw
    refine z_last (pc := 8) hx hb hK hZ hS hc d_La_content_8 (fun M4 H locs hM4 hZ hS => ?_)
    have hw := hw M4 hM4
    refine lv_goto (pc := 9) (tgt := 15) hx hb d_La_content_9 (by decide) ?_
    refine lv_iconst (pc := 15) (v := 0) hx hb d_La_content_15 (by decide) ?_
    exact z_iret hx hb hr hlocks hK hT hZ hS ⟨hw, rfl⟩ d_La_content_16
theorem d_La_factor_0 : decode method_14_code 0 = .ok (.aload_n 2, 1) := by decide +kernel
theorem d_La_factor_1 : decode method_14_code 1 = .ok (.iconst 0, 1) := by decide +kernel
theorem d_La_factor_2 : decode method_14_code 2 = .ok (.aload_n 0, 1) := by decide +kernel
theorem d_La_factor_3 : decode method_14_code 3 = .ok (.iload_n 1, 1) := by decide +kernel
theorem d_La_factor_4 : decode method_14_code 4 = .ok (.invokevirtual 55, 3) := by decide +kernel
theorem d_La_factor_7 : decode method_14_code 7 = .ok (.i2l, 1) := by decide +kernel
theorem d_La_factor_8 : decode method_14_code 8 = .ok (.lastore, 1) := by decide +kernel
theorem d_La_factor_9 : decode method_14_code 9 = .ok (.goto 9, 3) := by decide +kernel
theorem d_La_factor_12 : decode method_14_code 12 = .ok (.astore_n 3, 1) := by decide +kernel
theorem d_La_factor_13 : decode method_14_code 13 = .ok (.iconst 1, 1) := by decide +kernel
theorem d_La_factor_14 : decode method_14_code 14 = .ok (.ireturn, 1) := by decide +kernel
theorem d_La_factor_15 : decode method_14_code 15 = .ok (.astore_n 3, 1) := by decide +kernel
theorem d_La_factor_16 : decode method_14_code 16 = .ok (.iconst 2, 1) := by decide +kernel
theorem d_La_factor_17 : decode method_14_code 17 = .ok (.ireturn, 1) := by decide +kernel
theorem d_La_factor_18 : decode method_14_code 18 = .ok (.iconst 0, 1) := by decide +kernel
theorem d_La_factor_19 : decode method_14_code 19 = .ok (.ireturn, 1) := by decide +kernel
def w_La_factor (a1 : Int32) (M : zM) (N : zN) (P : Int32 → zM → zN → Prop) : Prop := w_IS_factor a1 M N (fun r1 M2 N3 => vp_in (0 : Int32) (zlong 119) ∧ ∀ M4 : zM, M4 = zput M2 119 (0 : Int32).toNatClampNeg r1.toInt64 → P (0 : Int32) M4 N3) (fun k M5 N6 => (k = 1 → P (1 : Int32) M5 N6) ∧ (k = 4 → P (2 : Int32) M5 N6) ∧ (k = 1 ∨ k = 4))
def ws_La_factor : List Cond := .codeWith y_La_factor method_14_code 4 (Option.some Jvm.ClassFile.FieldType.int) [((0 : Nat), (9 : Nat), (12 : Nat), (13 : Nat)), ((0 : Nat), (9 : Nat), (15 : Nat), (43 : Nat))] :: zall
def rm_La_factor : Room := { frames := 8, cells := 2, slots := 12, locals := 188 }
theorem hd_La_factor : y_La_factor.cls ≠ "java/lang/invoke/MethodHandle" ∧ y_La_factor.cls ≠ "java/lang/invoke/VarHandle" ∧ (parseMethodDescriptor y_La_factor.desc).map (fun d => d.parameters.length) = some 3 := by decide +kernel
set_option maxHeartbeats 4000000 in
set_option maxRecDepth 100000 in
theorem c_La_factor (l : Launch) (hst : l.stackTraces = false) (G : zG) (b : Nat) (a1 : Int32) (M : zM) (N : zN) {P : Int32 → zM → zN → Prop} (hw : w_La_factor a1 M N P) : Met l y_La_factor ws_La_factor rm_La_factor (zPc G b M N [.ref (b + 0), .int a1, .ref (b + 119)]) (zQi G b (fun r M' N' => P r M' N')) 2 12 (zA b) := by
  refine va_MetW (cc := method_14_code) (maxL := 4) (ret := (Option.some Jvm.ClassFile.FieldType.int)) (hh := [((0 : Nat), (9 : Nat), (12 : Nat), (13 : Nat)), ((0 : Nat), (9 : Nat), (15 : Nat), (43 : Nat))]) (by decide) rfl ?_
  intro p e s m args below meth c s₁ B hml hv
  obtain ⟨rfl, hZ, hK, hT⟩ := hv
  have hx := B.exec
  have hb := B.bytes
  have hr := B.returns
  have hts := atoms_spec (ws := ws_La_factor) B.pre
  have hta : ∀ w ∈ zall, w.before ([.ref (b + 0), .int a1, .ref (b + 119)] : List Value).toArray s = true := fun w h => hts w (List.mem_cons_of_mem _ h)
  have hown : s.vm.findClass R_La = some m.cls := findClass_of_methodNamed B.named
  have hlocks := B.notSynchronized
  have hS : va_S (zA b) s.heap s.heap [] := va_S.rf
  have hl := lv_entry ([.ref (b + 0), .int a1, .ref (b + 119)]) (n := 4) (Nat.le_of_ble_eq_true rfl)
  rw [lg_entry_eq]
  generalize (lg_sl ([.ref (b + 0), .int a1, .ref (b + 119)]) ++ List.replicate (4 - (lg_sl ([.ref (b + 0), .int a1, .ref (b + 119)])).length) Slot.unset).toArray = ls at hl ⊢
  have hl : lv_has ls 4 [(0, .ref (b + 0)), (1, .int a1), (2, .ref (b + 119))] := hl
  have htab : c.exceptionTable.toList = tableOf [((0 : Nat), (9 : Nat), (12 : Nat), (13 : Nat)), ((0 : Nat), (9 : Nat), (15 : Nat), (43 : Nat))] := vx_table (x := y_La_factor) B (hts _ List.mem_cons_self)
  unfold w_La_factor at hw
  refine lv_aload_n (pc := 0) hx hb d_La_factor_0 rfl (lv_at hl 2 rfl) ?_
  refine lv_iconst (pc := 1) (v := 0) hx hb d_La_factor_1 (by decide) ?_
  refine lv_aload_n (pc := 2) hx hb d_La_factor_2 rfl (lv_at hl 0 rfl) ?_
  refine lv_iload_n (pc := 3) hx hb d_La_factor_3 rfl (lv_at hl 1 rfl) ?_
  refine z_xcalli (pc := 4) (vx_runV (C := R_IS) (b := b + 0) (As := [.int a1]) (rest := [.int (0 : Int32), .ref (b + 119)]) ⟨hx, hb, hml, hown, hts⟩ (c_IS_factor l hst G b a1 M N hw) (cwV 1 hts (z_good (zgV wd505 wd506 wd507 wd1 wd508)) rfl rfl rfl ⟨rfl, hd_IS_factor⟩ ⟨Nat.le_of_ble_eq_true rfl, Nat.le_of_ble_eq_true rfl⟩) (z_preV zo_IS rfl rfl hZ hK hT hS) rfl rfl hl.1 rfl (lv_room (Nat.le_of_ble_eq_true rfl)) d_La_factor_4 ⟨Nat.le_of_ble_eq_true rfl, Nat.le_of_ble_eq_true rfl⟩) hS (fun k q ce M5 N6 H locs hw hZ hS h1 h2 h3 => ?_) (fun r1 M2 N3 H locs hw hZ hS => ?_)
  · obtain ⟨hw0, hw1, hk⟩ := hw
    rcases hk with rfl | rfl
    · have hw := hw0 rfl
      refine vx_catch (own := R_La) (name := zxn 1) (E := zxn 1) hown [] ⟨0, 9, 12, 13⟩ [⟨0, 9, 15, 43⟩] (htab.trans rfl) (fun _ h => absurd h List.not_mem_nil) (by decide) (by decide) (hta _ wd217) (va_Nw.use rfl (hT.1.1 1 (by decide) (by decide))) h1 h2 h3 ?_
      refine lv_astore_n (pc := 12) (lv' := [(3, .ref q), (0, .ref (b + 0)), (1, .int a1), (2, .ref (b + 119))]) hx hb d_La_factor_12 rfl hl (by decide) rfl (fun ls hl => ?_)
      refine lv_iconst (pc := 13) (v := 1) hx hb d_La_factor_13 (by decide) ?_
      exact z_iret hx hb hr hlocks hK hT hZ hS hw d_La_factor_14
    · have hw := hw1 rfl
      refine vx_catch (own := R_La) (name := zxn 4) (E := zxn 4) hown [⟨0, 9, 12, 13⟩] ⟨0, 9, 15, 43⟩ [] (htab.trans rfl) (List.forall_mem_cons.mpr ⟨Or.inr ⟨by decide, zxn 1, hta _ wd217, hT.1.2.2 4 1 (by decide) (by decide) (by decide) (by decide) (by decide)⟩, fun _ h => absurd h List.not_mem_nil⟩) (by decide) (by decide) (hta _ wd398) (va_Nw.use rfl (hT.1.1 4 (by decide) (by decide))) h1 h2 h3 ?_
      refine lv_astore_n (pc := 15) (lv' := [(3, .ref q), (0, .ref (b + 0)), (1, .int a1), (2, .ref (b + 119))]) hx hb d_La_factor_15 rfl hl (by decide) rfl (fun ls hl => ?_)
      refine lv_iconst (pc := 16) (v := 2) hx hb d_La_factor_16 (by decide) ?_
      exact z_iret hx hb hr hlocks hK hT hZ hS hw d_La_factor_17
  · refine lv_i2l (pc := 7) (v := r1.toInt64) hx hb d_La_factor_7 rfl ?_
    obtain ⟨hc, hw⟩ := hw
    refine z_last (pc := 8) hx hb hK hZ hS hc d_La_factor_8 (fun M4 H locs hM4 hZ hS => ?_)
    have hw := hw M4 hM4
    refine lv_goto (pc := 9) (tgt := 18) hx hb d_La_factor_9 (by decide) ?_
    refine lv_iconst (pc := 18) (v := 0) hx hb d_La_factor_18 (by decide) ?_
    exact z_iret hx hb hr hlocks hK hT hZ hS hw d_La_factor_19
theorem d_La_multiplicity_0 : decode method_15_code 0 = .ok (.aload_n 2, 1) := by decide +kernel
theorem d_La_multiplicity_1 : decode method_15_code 1 = .ok (.iconst 0, 1) := by decide +kernel
theorem d_La_multiplicity_2 : decode method_15_code 2 = .ok (.aload_n 0, 1) := by decide +kernel
theorem d_La_multiplicity_3 : decode method_15_code 3 = .ok (.iload_n 1, 1) := by decide +kernel
theorem d_La_multiplicity_4 : decode method_15_code 4 = .ok (.invokevirtual 58, 3) := by decide +kernel
theorem d_La_multiplicity_7 : decode method_15_code 7 = .ok (.i2l, 1) := by decide +kernel
theorem d_La_multiplicity_8 : decode method_15_code 8 = .ok (.lastore, 1) := by decide +kernel
theorem d_La_multiplicity_9 : decode method_15_code 9 = .ok (.goto 6, 3) := by decide +kernel
theorem d_La_multiplicity_12 : decode method_15_code 12 = .ok (.astore_n 3, 1) := by decide +kernel
theorem d_La_multiplicity_13 : decode method_15_code 13 = .ok (.iconst 1, 1) := by decide +kernel
theorem d_La_multiplicity_14 : decode method_15_code 14 = .ok (.ireturn, 1) := by decide +kernel
theorem d_La_multiplicity_15 : decode method_15_code 15 = .ok (.iconst 0, 1) := by decide +kernel
theorem d_La_multiplicity_16 : decode method_15_code 16 = .ok (.ireturn, 1) := by decide +kernel
def w_La_multiplicity (a1 : Int32) (M : zM) (N : zN) (P : Int32 → zM → Prop) : Prop := w_IS_multiplicity a1 N (fun r1 => vp_in (0 : Int32) (zlong 119) ∧ ∀ M4 : zM, M4 = zput M 119 (0 : Int32).toNatClampNeg r1.toInt64 → P (0 : Int32) M4) (fun k => (k = 5 → P (1 : Int32) M) ∧ (k = 5))
def ws_La_multiplicity : List Cond := .codeWith y_La_multiplicity method_15_code 4 (Option.some Jvm.ClassFile.FieldType.int) [((0 : Nat), (9 : Nat), (12 : Nat), (61 : Nat))] :: zall
def rm_La_multiplicity : Room := { frames := 8, cells := 1, slots := 6, locals := 131 }
theorem hd_La_multiplicity : y_La_multiplicity.cls ≠ "java/lang/invoke/MethodHandle" ∧ y_La_multiplicity.cls ≠ "java/lang/invoke/VarHandle" ∧ (parseMethodDescriptor y_La_multiplicity.desc).map (fun d => d.parameters.length) = some 3 := by decide +kernel
set_option maxHeartbeats 4000000 in
set_option maxRecDepth 100000 in
theorem c_La_multiplicity (l : Launch) (hst : l.stackTraces = false) (G : zG) (b : Nat) (a1 : Int32) (M : zM) (N : zN) {P : Int32 → zM → Prop} (hw : w_La_multiplicity a1 M N P) : Met l y_La_multiplicity ws_La_multiplicity rm_La_multiplicity (zPc G b M N [.ref (b + 0), .int a1, .ref (b + 119)]) (zQi G b (fun r M' N' => P r M' ∧ N' = N)) 1 6 (zA b) := by
  refine va_MetW (cc := method_15_code) (maxL := 4) (ret := (Option.some Jvm.ClassFile.FieldType.int)) (hh := [((0 : Nat), (9 : Nat), (12 : Nat), (61 : Nat))]) (by decide) rfl ?_
  intro p e s m args below meth c s₁ B hml hv
  obtain ⟨rfl, hZ, hK, hT⟩ := hv
  have hx := B.exec
  have hb := B.bytes
  have hr := B.returns
  have hts := atoms_spec (ws := ws_La_multiplicity) B.pre
  have hta : ∀ w ∈ zall, w.before ([.ref (b + 0), .int a1, .ref (b + 119)] : List Value).toArray s = true := fun w h => hts w (List.mem_cons_of_mem _ h)
  have hown : s.vm.findClass R_La = some m.cls := findClass_of_methodNamed B.named
  have hlocks := B.notSynchronized
  have hS : va_S (zA b) s.heap s.heap [] := va_S.rf
  have hl := lv_entry ([.ref (b + 0), .int a1, .ref (b + 119)]) (n := 4) (Nat.le_of_ble_eq_true rfl)
  rw [lg_entry_eq]
  generalize (lg_sl ([.ref (b + 0), .int a1, .ref (b + 119)]) ++ List.replicate (4 - (lg_sl ([.ref (b + 0), .int a1, .ref (b + 119)])).length) Slot.unset).toArray = ls at hl ⊢
  have hl : lv_has ls 4 [(0, .ref (b + 0)), (1, .int a1), (2, .ref (b + 119))] := hl
  have htab : c.exceptionTable.toList = tableOf [((0 : Nat), (9 : Nat), (12 : Nat), (61 : Nat))] := vx_table (x := y_La_multiplicity) B (hts _ List.mem_cons_self)
  unfold w_La_multiplicity at hw
  refine lv_aload_n (pc := 0) hx hb d_La_multiplicity_0 rfl (lv_at hl 2 rfl) ?_
  refine lv_iconst (pc := 1) (v := 0) hx hb d_La_multiplicity_1 (by decide) ?_
  refine lv_aload_n (pc := 2) hx hb d_La_multiplicity_2 rfl (lv_at hl 0 rfl) ?_
  refine lv_iload_n (pc := 3) hx hb d_La_multiplicity_3 rfl (lv_at hl 1 rfl) ?_
  refine z_xcalli (pc := 4) (vx_runV (C := R_IS) (b := b + 0) (As := [.int a1]) (rest := [.int (0 : Int32), .ref (b + 119)]) ⟨hx, hb, hml, hown, hts⟩ (c_IS_multiplicity l hst G b a1 M N hw) (cwV 1 hts (z_good (zgV wd644 wd645 wd646 wd1 wd647)) rfl rfl rfl ⟨rfl, hd_IS_multiplicity⟩ ⟨Nat.le_of_ble_eq_true rfl, Nat.le_of_ble_eq_true rfl⟩) (z_preV zo_IS rfl rfl hZ hK hT hS) rfl rfl hl.1 rfl (lv_room (Nat.le_of_ble_eq_true rfl)) d_La_multiplicity_4 ⟨Nat.le_of_ble_eq_true rfl, Nat.le_of_ble_eq_true rfl⟩) hS (fun k q ce M5 N6 H locs hw hZ hS h1 h2 h3 => ?_) (fun r1 M2 N3 H locs hw hZ hS => ?_)
  · obtain ⟨hw, eM5, eN6⟩ := hw
    rw [eM5, eN6] at hZ
    obtain ⟨hw0, hk⟩ := hw
    subst hk
    have hw := hw0 rfl
    refine vx_catch (own := R_La) (name := zxn 5) (E := zxn 5) hown [] ⟨0, 9, 12, 61⟩ [] (htab.trans rfl) (fun _ h => absurd h List.not_mem_nil) (by decide) (by decide) (hta _ wd643) (va_Nw.use rfl (hT.1.1 5 (by decide) (by decide))) h1 h2 h3 ?_
    refine lv_astore_n (pc := 12) (lv' := [(3, .ref q), (0, .ref (b + 0)), (1, .int a1), (2, .ref (b + 119))]) hx hb d_La_multiplicity_12 rfl hl (by decide) rfl (fun ls hl => ?_)
    refine lv_iconst (pc := 13) (v := 1) hx hb d_La_multiplicity_13 (by decide) ?_
    exact z_iret hx hb hr hlocks hK hT hZ hS ⟨hw, rfl⟩ d_La_multiplicity_14
  · obtain ⟨hw, eM2, eN3⟩ := hw
    rw [eM2, eN3] at hZ
    refine lv_i2l (pc := 7) (v := r1.toInt64) hx hb d_La_multiplicity_7 rfl ?_
    obtain ⟨hc, hw⟩ := hw
    refine z_last (pc := 8) hx hb hK hZ hS hc d_La_multiplicity_8 (fun M4 H locs hM4 hZ hS => ?_)
    have hw := hw M4 hM4
    refine lv_goto (pc := 9) (tgt := 15) hx hb d_La_multiplicity_9 (by decide) ?_
    refine lv_iconst (pc := 15) (v := 0) hx hb d_La_multiplicity_15 (by decide) ?_
    exact z_iret hx hb hr hlocks hK hT hZ hS ⟨hw, rfl⟩ d_La_multiplicity_16
theorem d_La_factorAt_0 : decode method_16_code 0 = .ok (.aload_n 3, 1) := by decide +kernel
theorem d_La_factorAt_1 : decode method_16_code 1 = .ok (.iconst 0, 1) := by decide +kernel
theorem d_La_factorAt_2 : decode method_16_code 2 = .ok (.aload_n 0, 1) := by decide +kernel
theorem d_La_factorAt_3 : decode method_16_code 3 = .ok (.iload_n 1, 1) := by decide +kernel
theorem d_La_factorAt_4 : decode method_16_code 4 = .ok (.iload_n 2, 1) := by decide +kernel
theorem d_La_factorAt_5 : decode method_16_code 5 = .ok (.invokevirtual 63, 3) := by decide +kernel
theorem d_La_factorAt_8 : decode method_16_code 8 = .ok (.i2l, 1) := by decide +kernel
theorem d_La_factorAt_9 : decode method_16_code 9 = .ok (.lastore, 1) := by decide +kernel
theorem d_La_factorAt_10 : decode method_16_code 10 = .ok (.goto 7, 3) := by decide +kernel
theorem d_La_factorAt_13 : decode method_16_code 13 = .ok (.astore 4, 2) := by decide +kernel
theorem d_La_factorAt_15 : decode method_16_code 15 = .ok (.iconst 1, 1) := by decide +kernel
theorem d_La_factorAt_16 : decode method_16_code 16 = .ok (.ireturn, 1) := by decide +kernel
theorem d_La_factorAt_17 : decode method_16_code 17 = .ok (.iconst 0, 1) := by decide +kernel
theorem d_La_factorAt_18 : decode method_16_code 18 = .ok (.ireturn, 1) := by decide +kernel
def w_La_factorAt (a1 : Int32) (a2 : Int32) (M : zM) (N : zN) (P : Int32 → zM → Prop) : Prop := w_IS_factorAt a1 a2 M N (fun r1 => vp_in (0 : Int32) (zlong 119) ∧ ∀ M4 : zM, M4 = zput M 119 (0 : Int32).toNatClampNeg r1.toInt64 → P (0 : Int32) M4) (fun k => (k = 5 → P (1 : Int32) M) ∧ (k = 5))
def ws_La_factorAt : List Cond := .codeWith y_La_factorAt method_16_code 5 (Option.some Jvm.ClassFile.FieldType.int) [((0 : Nat), (10 : Nat), (13 : Nat), (61 : Nat))] :: zall
def rm_La_factorAt : Room := { frames := 8, cells := 1, slots := 6, locals := 132 }
theorem hd_La_factorAt : y_La_factorAt.cls ≠ "java/lang/invoke/MethodHandle" ∧ y_La_factorAt.cls ≠ "java/lang/invoke/VarHandle" ∧ (parseMethodDescriptor y_La_factorAt.desc).map (fun d => d.parameters.length) = some 4 := by decide +kernel
set_option maxHeartbeats 4000000 in
set_option maxRecDepth 100000 in
theorem c_La_factorAt (l : Launch) (hst : l.stackTraces = false) (G : zG) (b : Nat) (a1 : Int32) (a2 : Int32) (M : zM) (N : zN) {P : Int32 → zM → Prop} (hw : w_La_factorAt a1 a2 M N P) : Met l y_La_factorAt ws_La_factorAt rm_La_factorAt (zPc G b M N [.ref (b + 0), .int a1, .int a2, .ref (b + 119)]) (zQi G b (fun r M' N' => P r M' ∧ N' = N)) 1 6 (zA b) := by
  refine va_MetW (cc := method_16_code) (maxL := 5) (ret := (Option.some Jvm.ClassFile.FieldType.int)) (hh := [((0 : Nat), (10 : Nat), (13 : Nat), (61 : Nat))]) (by decide) rfl ?_
  intro p e s m args below meth c s₁ B hml hv
  obtain ⟨rfl, hZ, hK, hT⟩ := hv
  have hx := B.exec
  have hb := B.bytes
  have hr := B.returns
  have hts := atoms_spec (ws := ws_La_factorAt) B.pre
  have hta : ∀ w ∈ zall, w.before ([.ref (b + 0), .int a1, .int a2, .ref (b + 119)] : List Value).toArray s = true := fun w h => hts w (List.mem_cons_of_mem _ h)
  have hown : s.vm.findClass R_La = some m.cls := findClass_of_methodNamed B.named
  have hlocks := B.notSynchronized
  have hS : va_S (zA b) s.heap s.heap [] := va_S.rf
  have hl := lv_entry ([.ref (b + 0), .int a1, .int a2, .ref (b + 119)]) (n := 5) (Nat.le_of_ble_eq_true rfl)
  rw [lg_entry_eq]
  generalize (lg_sl ([.ref (b + 0), .int a1, .int a2, .ref (b + 119)]) ++ List.replicate (5 - (lg_sl ([.ref (b + 0), .int a1, .int a2, .ref (b + 119)])).length) Slot.unset).toArray = ls at hl ⊢
  have hl : lv_has ls 5 [(0, .ref (b + 0)), (1, .int a1), (2, .int a2), (3, .ref (b + 119))] := hl
  have htab : c.exceptionTable.toList = tableOf [((0 : Nat), (10 : Nat), (13 : Nat), (61 : Nat))] := vx_table (x := y_La_factorAt) B (hts _ List.mem_cons_self)
  unfold w_La_factorAt at hw
  refine lv_aload_n (pc := 0) hx hb d_La_factorAt_0 rfl (lv_at hl 3 rfl) ?_
  refine lv_iconst (pc := 1) (v := 0) hx hb d_La_factorAt_1 (by decide) ?_
  refine lv_aload_n (pc := 2) hx hb d_La_factorAt_2 rfl (lv_at hl 0 rfl) ?_
  refine lv_iload_n (pc := 3) hx hb d_La_factorAt_3 rfl (lv_at hl 1 rfl) ?_
  refine lv_iload_n (pc := 4) hx hb d_La_factorAt_4 rfl (lv_at hl 2 rfl) ?_
  refine z_xcalli (pc := 5) (vx_runV (C := R_IS) (b := b + 0) (As := [.int a1, .int a2]) (rest := [.int (0 : Int32), .ref (b + 119)]) ⟨hx, hb, hml, hown, hts⟩ (c_IS_factorAt l hst G b a1 a2 M N hw) (cwV 2 hts (z_good (zgV wd670 wd671 wd672 wd1 wd673)) rfl rfl rfl ⟨rfl, hd_IS_factorAt⟩ ⟨Nat.le_of_ble_eq_true rfl, Nat.le_of_ble_eq_true rfl⟩) (z_preV zo_IS rfl rfl hZ hK hT hS) rfl rfl hl.1 rfl (lv_room (Nat.le_of_ble_eq_true rfl)) d_La_factorAt_5 ⟨Nat.le_of_ble_eq_true rfl, Nat.le_of_ble_eq_true rfl⟩) hS (fun k q ce M5 N6 H locs hw hZ hS h1 h2 h3 => ?_) (fun r1 M2 N3 H locs hw hZ hS => ?_)
  · obtain ⟨hw, eM5, eN6⟩ := hw
    rw [eM5, eN6] at hZ
    obtain ⟨hw0, hk⟩ := hw
    subst hk
    have hw := hw0 rfl
    refine vx_catch (own := R_La) (name := zxn 5) (E := zxn 5) hown [] ⟨0, 10, 13, 61⟩ [] (htab.trans rfl) (fun _ h => absurd h List.not_mem_nil) (by decide) (by decide) (hta _ wd643) (va_Nw.use rfl (hT.1.1 5 (by decide) (by decide))) h1 h2 h3 ?_
    refine lv_astore (pc := 13) (lv' := [(4, .ref q), (0, .ref (b + 0)), (1, .int a1), (2, .int a2), (3, .ref (b + 119))]) hx hb d_La_factorAt_13 hl (by decide) rfl (fun ls hl => ?_)
    refine lv_iconst (pc := 15) (v := 1) hx hb d_La_factorAt_15 (by decide) ?_
    exact z_iret hx hb hr hlocks hK hT hZ hS ⟨hw, rfl⟩ d_La_factorAt_16
  · obtain ⟨hw, eM2, eN3⟩ := hw
    rw [eM2, eN3] at hZ
    refine lv_i2l (pc := 8) (v := r1.toInt64) hx hb d_La_factorAt_8 rfl ?_
    obtain ⟨hc, hw⟩ := hw
    refine z_last (pc := 9) hx hb hK hZ hS hc d_La_factorAt_9 (fun M4 H locs hM4 hZ hS => ?_)
    have hw := hw M4 hM4
    refine lv_goto (pc := 10) (tgt := 17) hx hb d_La_factorAt_10 (by decide) ?_
    refine lv_iconst (pc := 17) (v := 0) hx hb d_La_factorAt_17 (by decide) ?_
    exact z_iret hx hb hr hlocks hK hT hZ hS ⟨hw, rfl⟩ d_La_factorAt_18
theorem d_La_take_0 : decode method_17_code 0 = .ok (.aload_n 3, 1) := by decide +kernel
theorem d_La_take_1 : decode method_17_code 1 = .ok (.iconst 0, 1) := by decide +kernel
theorem d_La_take_2 : decode method_17_code 2 = .ok (.aload_n 0, 1) := by decide +kernel
theorem d_La_take_3 : decode method_17_code 3 = .ok (.iload_n 1, 1) := by decide +kernel
theorem d_La_take_4 : decode method_17_code 4 = .ok (.iload_n 2, 1) := by decide +kernel
theorem d_La_take_5 : decode method_17_code 5 = .ok (.invokevirtual 66, 3) := by decide +kernel
theorem d_La_take_8 : decode method_17_code 8 = .ok (.ifCond .eq 7, 3) := by decide +kernel
theorem d_La_take_11 : decode method_17_code 11 = .ok (.lconst 1, 1) := by decide +kernel
theorem d_La_take_12 : decode method_17_code 12 = .ok (.goto 4, 3) := by decide +kernel
theorem d_La_take_15 : decode method_17_code 15 = .ok (.lconst 0, 1) := by decide +kernel
theorem d_La_take_16 : decode method_17_code 16 = .ok (.lastore, 1) := by decide +kernel
theorem d_La_take_17 : decode method_17_code 17 = .ok (.goto 11, 3) := by decide +kernel
theorem d_La_take_20 : decode method_17_code 20 = .ok (.astore 4, 2) := by decide +kernel
theorem d_La_take_22 : decode method_17_code 22 = .ok (.iconst 1, 1) := by decide +kernel
theorem d_La_take_23 : decode method_17_code 23 = .ok (.ireturn, 1) := by decide +kernel
theorem d_La_take_24 : decode method_17_code 24 = .ok (.astore 4, 2) := by decide +kernel
theorem d_La_take_26 : decode method_17_code 26 = .ok (.iconst 2, 1) := by decide +kernel
theorem d_La_take_27 : decode method_17_code 27 = .ok (.ireturn, 1) := by decide +kernel
theorem d_La_take_28 : decode method_17_code 28 = .ok (.iconst 0, 1) := by decide +kernel
theorem d_La_take_29 : decode method_17_code 29 = .ok (.ireturn, 1) := by decide +kernel
def w_La_take (a1 : Int32) (a2 : Int32) (M : zM) (N : zN) (P : Int32 → zM → Prop) : Prop := w_IS_take a1 a2 M N (fun r1 M2 => (r1 = 0 → vp_in (0 : Int32) (zlong 119) ∧ ∀ M4 : zM, M4 = zput M2 119 (0 : Int32).toNatClampNeg (0 : Int64) → P (0 : Int32) M4) ∧ (¬ r1 = 0 → vp_in (0 : Int32) (zlong 119) ∧ ∀ M5 : zM, M5 = zput M2 119 (0 : Int32).toNatClampNeg (1 : Int64) → P (0 : Int32) M5)) (fun k M6 => (k = 1 → P (1 : Int32) M6) ∧ (k = 5 → P (2 : Int32) M6) ∧ (k = 1 ∨ k = 5))
def ws_La_take : List Cond := .codeWith y_La_take method_17_code 5 (Option.some Jvm.ClassFile.FieldType.int) [((0 : Nat), (17 : Nat), (20 : Nat), (13 : Nat)), ((0 : Nat), (17 : Nat), (24 : Nat), (61 : Nat))] :: zall
def rm_La_take : Room := { frames := 8, cells := 2, slots := 12, locals := 132 }
theorem hd_La_take : y_La_take.cls ≠ "java/lang/invoke/MethodHandle" ∧ y_La_take.cls ≠ "java/lang/invoke/VarHandle" ∧ (parseMethodDescriptor y_La_take.desc).map (fun d => d.parameters.length) = some 4 := by decide +kernel
set_option maxHeartbeats 4000000 in
set_option maxRecDepth 100000 in
theorem c_La_take (l : Launch) (hst : l.stackTraces = false) (G : zG) (b : Nat) (a1 : Int32) (a2 : Int32) (M : zM) (N : zN) {P : Int32 → zM → Prop} (hw : w_La_take a1 a2 M N P) : Met l y_La_take ws_La_take rm_La_take (zPc G b M N [.ref (b + 0), .int a1, .int a2, .ref (b + 119)]) (zQi G b (fun r M' N' => P r M' ∧ N' = N)) 2 12 (zA b) := by
  refine va_MetW (cc := method_17_code) (maxL := 5) (ret := (Option.some Jvm.ClassFile.FieldType.int)) (hh := [((0 : Nat), (17 : Nat), (20 : Nat), (13 : Nat)), ((0 : Nat), (17 : Nat), (24 : Nat), (61 : Nat))]) (by decide) rfl ?_
  intro p e s m args below meth c s₁ B hml hv
  obtain ⟨rfl, hZ, hK, hT⟩ := hv
  have hx := B.exec
  have hb := B.bytes
  have hr := B.returns
  have hts := atoms_spec (ws := ws_La_take) B.pre
  have hta : ∀ w ∈ zall, w.before ([.ref (b + 0), .int a1, .int a2, .ref (b + 119)] : List Value).toArray s = true := fun w h => hts w (List.mem_cons_of_mem _ h)
  have hown : s.vm.findClass R_La = some m.cls := findClass_of_methodNamed B.named
  have hlocks := B.notSynchronized
  have hS : va_S (zA b) s.heap s.heap [] := va_S.rf
  have hl := lv_entry ([.ref (b + 0), .int a1, .int a2, .ref (b + 119)]) (n := 5) (Nat.le_of_ble_eq_true rfl)
  rw [lg_entry_eq]
  generalize (lg_sl ([.ref (b + 0), .int a1, .int a2, .ref (b + 119)]) ++ List.replicate (5 - (lg_sl ([.ref (b + 0), .int a1, .int a2, .ref (b + 119)])).length) Slot.unset).toArray = ls at hl ⊢
  have hl : lv_has ls 5 [(0, .ref (b + 0)), (1, .int a1), (2, .int a2), (3, .ref (b + 119))] := hl
  have htab : c.exceptionTable.toList = tableOf [((0 : Nat), (17 : Nat), (20 : Nat), (13 : Nat)), ((0 : Nat), (17 : Nat), (24 : Nat), (61 : Nat))] := vx_table (x := y_La_take) B (hts _ List.mem_cons_self)
  unfold w_La_take at hw
  refine lv_aload_n (pc := 0) hx hb d_La_take_0 rfl (lv_at hl 3 rfl) ?_
  refine lv_iconst (pc := 1) (v := 0) hx hb d_La_take_1 (by decide) ?_
  refine lv_aload_n (pc := 2) hx hb d_La_take_2 rfl (lv_at hl 0 rfl) ?_
  refine lv_iload_n (pc := 3) hx hb d_La_take_3 rfl (lv_at hl 1 rfl) ?_
  refine lv_iload_n (pc := 4) hx hb d_La_take_4 rfl (lv_at hl 2 rfl) ?_
  refine z_xcalli (pc := 5) (vx_runV (C := R_IS) (b := b + 0) (As := [.int a1, .int a2]) (rest := [.int (0 : Int32), .ref (b + 119)]) ⟨hx, hb, hml, hown, hts⟩ (c_IS_take l hst G b a1 a2 M N hw) (cwV 2 hts (z_good (zgV wd677 wd678 wd679 wd1 wd680)) rfl rfl rfl ⟨rfl, hd_IS_take⟩ ⟨Nat.le_of_ble_eq_true rfl, Nat.le_of_ble_eq_true rfl⟩) (z_preV zo_IS rfl rfl hZ hK hT hS) rfl rfl hl.1 rfl (lv_room (Nat.le_of_ble_eq_true rfl)) d_La_take_5 ⟨Nat.le_of_ble_eq_true rfl, Nat.le_of_ble_eq_true rfl⟩) hS (fun k q ce M6 N7 H locs hw hZ hS h1 h2 h3 => ?_) (fun r1 M2 N3 H locs hw hZ hS => ?_)
  · obtain ⟨hw, eN7⟩ := hw
    rw [eN7] at hZ
    obtain ⟨hw0, hw1, hk⟩ := hw
    rcases hk with rfl | rfl
    · have hw := hw0 rfl
      refine vx_catch (own := R_La) (name := zxn 1) (E := zxn 1) hown [] ⟨0, 17, 20, 13⟩ [⟨0, 17, 24, 61⟩] (htab.trans rfl) (fun _ h => absurd h List.not_mem_nil) (by decide) (by decide) (hta _ wd217) (va_Nw.use rfl (hT.1.1 1 (by decide) (by decide))) h1 h2 h3 ?_
      refine lv_astore (pc := 20) (lv' := [(4, .ref q), (0, .ref (b + 0)), (1, .int a1), (2, .int a2), (3, .ref (b + 119))]) hx hb d_La_take_20 hl (by decide) rfl (fun ls hl => ?_)
      refine lv_iconst (pc := 22) (v := 1) hx hb d_La_take_22 (by decide) ?_
      exact z_iret hx hb hr hlocks hK hT hZ hS ⟨hw, rfl⟩ d_La_take_23
    · have hw := hw1 rfl
      refine vx_catch (own := R_La) (name := zxn 5) (E := zxn 5) hown [⟨0, 17, 20, 13⟩] ⟨0, 17, 24, 61⟩ [] (htab.trans rfl) (List.forall_mem_cons.mpr ⟨Or.inr ⟨by decide, zxn 1, hta _ wd217, hT.1.2.2 5 1 (by decide) (by decide) (by decide) (by decide) (by decide)⟩, fun _ h => absurd h List.not_mem_nil⟩) (by decide) (by decide) (hta _ wd643) (va_Nw.use rfl (hT.1.1 5 (by decide) (by decide))) h1 h2 h3 ?_
      refine lv_astore (pc := 24) (lv' := [(4, .ref q), (0, .ref (b + 0)), (1, .int a1), (2, .int a2), (3, .ref (b + 119))]) hx hb d_La_take_24 hl (by decide) rfl (fun ls hl => ?_)
      refine lv_iconst (pc := 26) (v := 2) hx hb d_La_take_26 (by decide) ?_
      exact z_iret hx hb hr hlocks hK hT hZ hS ⟨hw, rfl⟩ d_La_take_27
  · obtain ⟨hw, eN3⟩ := hw
    rw [eN3] at hZ
    refine lv_if_eq (pc := 8) (tgt := 15) hx hb d_La_take_8 (by decide) (fun hc => ?_) (fun hc => ?_)
    · have hw := hw.1 hc
      refine lv_lconst (pc := 15) (v := 0) hx hb d_La_take_15 (by decide) ?_
      obtain ⟨hc, hw⟩ := hw
      refine z_last (pc := 16) hx hb hK hZ hS hc d_La_take_16 (fun M4 H locs hM4 hZ hS => ?_)
      have hw := hw M4 hM4
      refine lv_goto (pc := 17) (tgt := 28) hx hb d_La_take_17 (by decide) ?_
      refine lv_iconst (pc := 28) (v := 0) hx hb d_La_take_28 (by decide) ?_
      exact z_iret hx hb hr hlocks hK hT hZ hS ⟨hw, rfl⟩ d_La_take_29
    · have hw := hw.2 hc
      refine lv_lconst (pc := 11) (v := 1) hx hb d_La_take_11 (by decide) ?_
      refine lv_goto (pc := 12) (tgt := 16) hx hb d_La_take_12 (by decide) ?_
      obtain ⟨hc, hw⟩ := hw
      refine z_last (pc := 16) hx hb hK hZ hS hc d_La_take_16 (fun M5 H locs hM5 hZ hS => ?_)
      have hw := hw M5 hM5
      refine lv_goto (pc := 17) (tgt := 28) hx hb d_La_take_17 (by decide) ?_
      refine lv_iconst (pc := 28) (v := 0) hx hb d_La_take_28 (by decide) ?_
      exact z_iret hx hb hr hlocks hK hT hZ hS ⟨hw, rfl⟩ d_La_take_29
theorem d_La_prime_0 : decode method_18_code 0 = .ok (.aload_n 2, 1) := by decide +kernel
theorem d_La_prime_1 : decode method_18_code 1 = .ok (.iconst 0, 1) := by decide +kernel
theorem d_La_prime_2 : decode method_18_code 2 = .ok (.aload_n 0, 1) := by decide +kernel
theorem d_La_prime_3 : decode method_18_code 3 = .ok (.iload_n 1, 1) := by decide +kernel
theorem d_La_prime_4 : decode method_18_code 4 = .ok (.invokevirtual 70, 3) := by decide +kernel
theorem d_La_prime_7 : decode method_18_code 7 = .ok (.ifCond .eq 7, 3) := by decide +kernel
theorem d_La_prime_10 : decode method_18_code 10 = .ok (.lconst 1, 1) := by decide +kernel
theorem d_La_prime_11 : decode method_18_code 11 = .ok (.goto 4, 3) := by decide +kernel
theorem d_La_prime_14 : decode method_18_code 14 = .ok (.lconst 0, 1) := by decide +kernel
theorem d_La_prime_15 : decode method_18_code 15 = .ok (.lastore, 1) := by decide +kernel
theorem d_La_prime_16 : decode method_18_code 16 = .ok (.goto 6, 3) := by decide +kernel
theorem d_La_prime_19 : decode method_18_code 19 = .ok (.astore_n 3, 1) := by decide +kernel
theorem d_La_prime_20 : decode method_18_code 20 = .ok (.iconst 1, 1) := by decide +kernel
theorem d_La_prime_21 : decode method_18_code 21 = .ok (.ireturn, 1) := by decide +kernel
theorem d_La_prime_22 : decode method_18_code 22 = .ok (.iconst 0, 1) := by decide +kernel
theorem d_La_prime_23 : decode method_18_code 23 = .ok (.ireturn, 1) := by decide +kernel
def w_La_prime (a1 : Int32) (M : zM) (N : zN) (P : Int32 → zM → zN → Prop) : Prop := w_IS_prime a1 M N (fun r1 M2 N3 => (r1 = 0 → vp_in (0 : Int32) (zlong 119) ∧ ∀ M4 : zM, M4 = zput M2 119 (0 : Int32).toNatClampNeg (0 : Int64) → P (0 : Int32) M4 N3) ∧ (¬ r1 = 0 → vp_in (0 : Int32) (zlong 119) ∧ ∀ M5 : zM, M5 = zput M2 119 (0 : Int32).toNatClampNeg (1 : Int64) → P (0 : Int32) M5 N3)) (fun k M6 N7 => (k = 1 → P (1 : Int32) M6 N7) ∧ (k = 1))
def ws_La_prime : List Cond := .codeWith y_La_prime method_18_code 4 (Option.some Jvm.ClassFile.FieldType.int) [((0 : Nat), (16 : Nat), (19 : Nat), (13 : Nat))] :: zall
def rm_La_prime : Room := { frames := 8, cells := 1, slots := 6, locals := 189 }
theorem hd_La_prime : y_La_prime.cls ≠ "java/lang/invoke/MethodHandle" ∧ y_La_prime.cls ≠ "java/lang/invoke/VarHandle" ∧ (parseMethodDescriptor y_La_prime.desc).map (fun d => d.parameters.length) = some 3 := by decide +kernel
set_option maxHeartbeats 4000000 in
set_option maxRecDepth 100000 in
theorem c_La_prime (l : Launch) (hst : l.stackTraces = false) (G : zG) (b : Nat) (a1 : Int32) (M : zM) (N : zN) {P : Int32 → zM → zN → Prop} (hw : w_La_prime a1 M N P) : Met l y_La_prime ws_La_prime rm_La_prime (zPc G b M N [.ref (b + 0), .int a1, .ref (b + 119)]) (zQi G b (fun r M' N' => P r M' N')) 1 6 (zA b) := by
  refine va_MetW (cc := method_18_code) (maxL := 4) (ret := (Option.some Jvm.ClassFile.FieldType.int)) (hh := [((0 : Nat), (16 : Nat), (19 : Nat), (13 : Nat))]) (by decide) rfl ?_
  intro p e s m args below meth c s₁ B hml hv
  obtain ⟨rfl, hZ, hK, hT⟩ := hv
  have hx := B.exec
  have hb := B.bytes
  have hr := B.returns
  have hts := atoms_spec (ws := ws_La_prime) B.pre
  have hta : ∀ w ∈ zall, w.before ([.ref (b + 0), .int a1, .ref (b + 119)] : List Value).toArray s = true := fun w h => hts w (List.mem_cons_of_mem _ h)
  have hown : s.vm.findClass R_La = some m.cls := findClass_of_methodNamed B.named
  have hlocks := B.notSynchronized
  have hS : va_S (zA b) s.heap s.heap [] := va_S.rf
  have hl := lv_entry ([.ref (b + 0), .int a1, .ref (b + 119)]) (n := 4) (Nat.le_of_ble_eq_true rfl)
  rw [lg_entry_eq]
  generalize (lg_sl ([.ref (b + 0), .int a1, .ref (b + 119)]) ++ List.replicate (4 - (lg_sl ([.ref (b + 0), .int a1, .ref (b + 119)])).length) Slot.unset).toArray = ls at hl ⊢
  have hl : lv_has ls 4 [(0, .ref (b + 0)), (1, .int a1), (2, .ref (b + 119))] := hl
  have htab : c.exceptionTable.toList = tableOf [((0 : Nat), (16 : Nat), (19 : Nat), (13 : Nat))] := vx_table (x := y_La_prime) B (hts _ List.mem_cons_self)
  unfold w_La_prime at hw
  refine lv_aload_n (pc := 0) hx hb d_La_prime_0 rfl (lv_at hl 2 rfl) ?_
  refine lv_iconst (pc := 1) (v := 0) hx hb d_La_prime_1 (by decide) ?_
  refine lv_aload_n (pc := 2) hx hb d_La_prime_2 rfl (lv_at hl 0 rfl) ?_
  refine lv_iload_n (pc := 3) hx hb d_La_prime_3 rfl (lv_at hl 1 rfl) ?_
  refine z_xcalli (pc := 4) (vx_runV (C := R_IS) (b := b + 0) (As := [.int a1]) (rest := [.int (0 : Int32), .ref (b + 119)]) ⟨hx, hb, hml, hown, hts⟩ (c_IS_prime l hst G b a1 M N hw) (cwV 1 hts (z_good (zgV wd684 wd685 wd686 wd1 wd687)) rfl rfl rfl ⟨rfl, hd_IS_prime⟩ ⟨Nat.le_of_ble_eq_true rfl, Nat.le_of_ble_eq_true rfl⟩) (z_preV zo_IS rfl rfl hZ hK hT hS) rfl rfl hl.1 rfl (lv_room (Nat.le_of_ble_eq_true rfl)) d_La_prime_4 ⟨Nat.le_of_ble_eq_true rfl, Nat.le_of_ble_eq_true rfl⟩) hS (fun k q ce M6 N7 H locs hw hZ hS h1 h2 h3 => ?_) (fun r1 M2 N3 H locs hw hZ hS => ?_)
  · obtain ⟨hw0, hk⟩ := hw
    subst hk
    have hw := hw0 rfl
    refine vx_catch (own := R_La) (name := zxn 1) (E := zxn 1) hown [] ⟨0, 16, 19, 13⟩ [] (htab.trans rfl) (fun _ h => absurd h List.not_mem_nil) (by decide) (by decide) (hta _ wd217) (va_Nw.use rfl (hT.1.1 1 (by decide) (by decide))) h1 h2 h3 ?_
    refine lv_astore_n (pc := 19) (lv' := [(3, .ref q), (0, .ref (b + 0)), (1, .int a1), (2, .ref (b + 119))]) hx hb d_La_prime_19 rfl hl (by decide) rfl (fun ls hl => ?_)
    refine lv_iconst (pc := 20) (v := 1) hx hb d_La_prime_20 (by decide) ?_
    exact z_iret hx hb hr hlocks hK hT hZ hS hw d_La_prime_21
  · refine lv_if_eq (pc := 7) (tgt := 14) hx hb d_La_prime_7 (by decide) (fun hc => ?_) (fun hc => ?_)
    · have hw := hw.1 hc
      refine lv_lconst (pc := 14) (v := 0) hx hb d_La_prime_14 (by decide) ?_
      obtain ⟨hc, hw⟩ := hw
      refine z_last (pc := 15) hx hb hK hZ hS hc d_La_prime_15 (fun M4 H locs hM4 hZ hS => ?_)
      have hw := hw M4 hM4
      refine lv_goto (pc := 16) (tgt := 22) hx hb d_La_prime_16 (by decide) ?_
      refine lv_iconst (pc := 22) (v := 0) hx hb d_La_prime_22 (by decide) ?_
      exact z_iret hx hb hr hlocks hK hT hZ hS hw d_La_prime_23
    · have hw := hw.2 hc
      refine lv_lconst (pc := 10) (v := 1) hx hb d_La_prime_10 (by decide) ?_
      refine lv_goto (pc := 11) (tgt := 15) hx hb d_La_prime_11 (by decide) ?_
      obtain ⟨hc, hw⟩ := hw
      refine z_last (pc := 15) hx hb hK hZ hS hc d_La_prime_15 (fun M5 H locs hM5 hZ hS => ?_)
      have hw := hw M5 hM5
      refine lv_goto (pc := 16) (tgt := 22) hx hb d_La_prime_16 (by decide) ?_
      refine lv_iconst (pc := 22) (v := 0) hx hb d_La_prime_22 (by decide) ?_
      exact z_iret hx hb hr hlocks hK hT hZ hS hw d_La_prime_23
theorem d_La_modular_0 : decode method_19_code 0 = .ok (.aload_n 3, 1) := by decide +kernel
theorem d_La_modular_1 : decode method_19_code 1 = .ok (.iconst 0, 1) := by decide +kernel
theorem d_La_modular_2 : decode method_19_code 2 = .ok (.aload_n 0, 1) := by decide +kernel
theorem d_La_modular_3 : decode method_19_code 3 = .ok (.iload_n 1, 1) := by decide +kernel
theorem d_La_modular_4 : decode method_19_code 4 = .ok (.iload_n 2, 1) := by decide +kernel
theorem d_La_modular_5 : decode method_19_code 5 = .ok (.invokevirtual 74, 3) := by decide +kernel
theorem d_La_modular_8 : decode method_19_code 8 = .ok (.i2l, 1) := by decide +kernel
theorem d_La_modular_9 : decode method_19_code 9 = .ok (.lastore, 1) := by decide +kernel
theorem d_La_modular_10 : decode method_19_code 10 = .ok (.goto 11, 3) := by decide +kernel
theorem d_La_modular_13 : decode method_19_code 13 = .ok (.astore 4, 2) := by decide +kernel
theorem d_La_modular_15 : decode method_19_code 15 = .ok (.iconst 1, 1) := by decide +kernel
theorem d_La_modular_16 : decode method_19_code 16 = .ok (.ireturn, 1) := by decide +kernel
theorem d_La_modular_17 : decode method_19_code 17 = .ok (.astore 4, 2) := by decide +kernel
theorem d_La_modular_19 : decode method_19_code 19 = .ok (.iconst 2, 1) := by decide +kernel
theorem d_La_modular_20 : decode method_19_code 20 = .ok (.ireturn, 1) := by decide +kernel
theorem d_La_modular_21 : decode method_19_code 21 = .ok (.iconst 0, 1) := by decide +kernel
theorem d_La_modular_22 : decode method_19_code 22 = .ok (.ireturn, 1) := by decide +kernel
def w_La_modular (a1 : Int32) (a2 : Int32) (M : zM) (N : zN) (P : Int32 → zM → zN → Prop) : Prop := w_IS_modular a1 a2 M N (fun r1 M2 N3 => vp_in (0 : Int32) (zlong 119) ∧ ∀ M4 : zM, M4 = zput M2 119 (0 : Int32).toNatClampNeg r1.toInt64 → P (0 : Int32) M4 N3) (fun k M5 N6 => (k = 1 → P (1 : Int32) M5 N6) ∧ (k = 2 → P (2 : Int32) M5 N6) ∧ (k = 1 ∨ k = 2))
def ws_La_modular : List Cond := .codeWith y_La_modular method_19_code 5 (Option.some Jvm.ClassFile.FieldType.int) [((0 : Nat), (10 : Nat), (13 : Nat), (13 : Nat)), ((0 : Nat), (10 : Nat), (17 : Nat), (15 : Nat))] :: zall
def rm_La_modular : Room := { frames := 8, cells := 2, slots := 12, locals := 132 }
theorem hd_La_modular : y_La_modular.cls ≠ "java/lang/invoke/MethodHandle" ∧ y_La_modular.cls ≠ "java/lang/invoke/VarHandle" ∧ (parseMethodDescriptor y_La_modular.desc).map (fun d => d.parameters.length) = some 4 := by decide +kernel
set_option maxHeartbeats 4000000 in
set_option maxRecDepth 100000 in
theorem c_La_modular (l : Launch) (hst : l.stackTraces = false) (G : zG) (b : Nat) (a1 : Int32) (a2 : Int32) (M : zM) (N : zN) {P : Int32 → zM → zN → Prop} (hw : w_La_modular a1 a2 M N P) : Met l y_La_modular ws_La_modular rm_La_modular (zPc G b M N [.ref (b + 0), .int a1, .int a2, .ref (b + 119)]) (zQi G b (fun r M' N' => P r M' N')) 2 12 (zA b) := by
  refine va_MetW (cc := method_19_code) (maxL := 5) (ret := (Option.some Jvm.ClassFile.FieldType.int)) (hh := [((0 : Nat), (10 : Nat), (13 : Nat), (13 : Nat)), ((0 : Nat), (10 : Nat), (17 : Nat), (15 : Nat))]) (by decide) rfl ?_
  intro p e s m args below meth c s₁ B hml hv
  obtain ⟨rfl, hZ, hK, hT⟩ := hv
  have hx := B.exec
  have hb := B.bytes
  have hr := B.returns
  have hts := atoms_spec (ws := ws_La_modular) B.pre
  have hta : ∀ w ∈ zall, w.before ([.ref (b + 0), .int a1, .int a2, .ref (b + 119)] : List Value).toArray s = true := fun w h => hts w (List.mem_cons_of_mem _ h)
  have hown : s.vm.findClass R_La = some m.cls := findClass_of_methodNamed B.named
  have hlocks := B.notSynchronized
  have hS : va_S (zA b) s.heap s.heap [] := va_S.rf
  have hl := lv_entry ([.ref (b + 0), .int a1, .int a2, .ref (b + 119)]) (n := 5) (Nat.le_of_ble_eq_true rfl)
  rw [lg_entry_eq]
  generalize (lg_sl ([.ref (b + 0), .int a1, .int a2, .ref (b + 119)]) ++ List.replicate (5 - (lg_sl ([.ref (b + 0), .int a1, .int a2, .ref (b + 119)])).length) Slot.unset).toArray = ls at hl ⊢
  have hl : lv_has ls 5 [(0, .ref (b + 0)), (1, .int a1), (2, .int a2), (3, .ref (b + 119))] := hl
  have htab : c.exceptionTable.toList = tableOf [((0 : Nat), (10 : Nat), (13 : Nat), (13 : Nat)), ((0 : Nat), (10 : Nat), (17 : Nat), (15 : Nat))] := vx_table (x := y_La_modular) B (hts _ List.mem_cons_self)
  unfold w_La_modular at hw
  refine lv_aload_n (pc := 0) hx hb d_La_modular_0 rfl (lv_at hl 3 rfl) ?_
  refine lv_iconst (pc := 1) (v := 0) hx hb d_La_modular_1 (by decide) ?_
  refine lv_aload_n (pc := 2) hx hb d_La_modular_2 rfl (lv_at hl 0 rfl) ?_
  refine lv_iload_n (pc := 3) hx hb d_La_modular_3 rfl (lv_at hl 1 rfl) ?_
  refine lv_iload_n (pc := 4) hx hb d_La_modular_4 rfl (lv_at hl 2 rfl) ?_
  refine z_xcalli (pc := 5) (vx_runV (C := R_IS) (b := b + 0) (As := [.int a1, .int a2]) (rest := [.int (0 : Int32), .ref (b + 119)]) ⟨hx, hb, hml, hown, hts⟩ (c_IS_modular l hst G b a1 a2 M N hw) (cwV 2 hts (z_good (zgV wd695 wd696 wd697 wd1 wd698)) rfl rfl rfl ⟨rfl, hd_IS_modular⟩ ⟨Nat.le_of_ble_eq_true rfl, Nat.le_of_ble_eq_true rfl⟩) (z_preV zo_IS rfl rfl hZ hK hT hS) rfl rfl hl.1 rfl (lv_room (Nat.le_of_ble_eq_true rfl)) d_La_modular_5 ⟨Nat.le_of_ble_eq_true rfl, Nat.le_of_ble_eq_true rfl⟩) hS (fun k q ce M5 N6 H locs hw hZ hS h1 h2 h3 => ?_) (fun r1 M2 N3 H locs hw hZ hS => ?_)
  · obtain ⟨hw0, hw1, hk⟩ := hw
    rcases hk with rfl | rfl
    · have hw := hw0 rfl
      refine vx_catch (own := R_La) (name := zxn 1) (E := zxn 1) hown [] ⟨0, 10, 13, 13⟩ [⟨0, 10, 17, 15⟩] (htab.trans rfl) (fun _ h => absurd h List.not_mem_nil) (by decide) (by decide) (hta _ wd217) (va_Nw.use rfl (hT.1.1 1 (by decide) (by decide))) h1 h2 h3 ?_
      refine lv_astore (pc := 13) (lv' := [(4, .ref q), (0, .ref (b + 0)), (1, .int a1), (2, .int a2), (3, .ref (b + 119))]) hx hb d_La_modular_13 hl (by decide) rfl (fun ls hl => ?_)
      refine lv_iconst (pc := 15) (v := 1) hx hb d_La_modular_15 (by decide) ?_
      exact z_iret hx hb hr hlocks hK hT hZ hS hw d_La_modular_16
    · have hw := hw1 rfl
      refine vx_catch (own := R_La) (name := zxn 2) (E := zxn 2) hown [⟨0, 10, 13, 13⟩] ⟨0, 10, 17, 15⟩ [] (htab.trans rfl) (List.forall_mem_cons.mpr ⟨Or.inr ⟨by decide, zxn 1, hta _ wd217, hT.1.2.2 2 1 (by decide) (by decide) (by decide) (by decide) (by decide)⟩, fun _ h => absurd h List.not_mem_nil⟩) (by decide) (by decide) (hta _ wd218) (va_Nw.use rfl (hT.1.1 2 (by decide) (by decide))) h1 h2 h3 ?_
      refine lv_astore (pc := 17) (lv' := [(4, .ref q), (0, .ref (b + 0)), (1, .int a1), (2, .int a2), (3, .ref (b + 119))]) hx hb d_La_modular_17 hl (by decide) rfl (fun ls hl => ?_)
      refine lv_iconst (pc := 19) (v := 2) hx hb d_La_modular_19 (by decide) ?_
      exact z_iret hx hb hr hlocks hK hT hZ hS hw d_La_modular_20
  · refine lv_i2l (pc := 8) (v := r1.toInt64) hx hb d_La_modular_8 rfl ?_
    obtain ⟨hc, hw⟩ := hw
    refine z_last (pc := 9) hx hb hK hZ hS hc d_La_modular_9 (fun M4 H locs hM4 hZ hS => ?_)
    have hw := hw M4 hM4
    refine lv_goto (pc := 10) (tgt := 21) hx hb d_La_modular_10 (by decide) ?_
    refine lv_iconst (pc := 21) (v := 0) hx hb d_La_modular_21 (by decide) ?_
    exact z_iret hx hb hr hlocks hK hT hZ hS hw d_La_modular_22
theorem d_La_roots_0 : decode method_20_code 0 = .ok (.aload_n 3, 1) := by decide +kernel
theorem d_La_roots_1 : decode method_20_code 1 = .ok (.iconst 0, 1) := by decide +kernel
theorem d_La_roots_2 : decode method_20_code 2 = .ok (.aload_n 0, 1) := by decide +kernel
theorem d_La_roots_3 : decode method_20_code 3 = .ok (.iload_n 1, 1) := by decide +kernel
theorem d_La_roots_4 : decode method_20_code 4 = .ok (.iload_n 2, 1) := by decide +kernel
theorem d_La_roots_5 : decode method_20_code 5 = .ok (.invokevirtual 77, 3) := by decide +kernel
theorem d_La_roots_8 : decode method_20_code 8 = .ok (.i2l, 1) := by decide +kernel
theorem d_La_roots_9 : decode method_20_code 9 = .ok (.lastore, 1) := by decide +kernel
theorem d_La_roots_10 : decode method_20_code 10 = .ok (.goto 11, 3) := by decide +kernel
theorem d_La_roots_13 : decode method_20_code 13 = .ok (.astore 4, 2) := by decide +kernel
theorem d_La_roots_15 : decode method_20_code 15 = .ok (.iconst 1, 1) := by decide +kernel
theorem d_La_roots_16 : decode method_20_code 16 = .ok (.ireturn, 1) := by decide +kernel
theorem d_La_roots_17 : decode method_20_code 17 = .ok (.astore 4, 2) := by decide +kernel
theorem d_La_roots_19 : decode method_20_code 19 = .ok (.iconst 2, 1) := by decide +kernel
theorem d_La_roots_20 : decode method_20_code 20 = .ok (.ireturn, 1) := by decide +kernel
theorem d_La_roots_21 : decode method_20_code 21 = .ok (.iconst 0, 1) := by decide +kernel
theorem d_La_roots_22 : decode method_20_code 22 = .ok (.ireturn, 1) := by decide +kernel
def w_La_roots (a1 : Int32) (a2 : Int32) (M : zM) (P : Int32 → zM → Prop) : Prop := w_IS_roots a1 a2 M (fun r1 => vp_in (0 : Int32) (zlong 119) ∧ ∀ M4 : zM, M4 = zput M 119 (0 : Int32).toNatClampNeg r1.toInt64 → P (0 : Int32) M4) (fun k => (k = 1 → P (1 : Int32) M) ∧ (k = 2 → P (2 : Int32) M) ∧ (k = 1 ∨ k = 2))
def ws_La_roots : List Cond := .codeWith y_La_roots method_20_code 5 (Option.some Jvm.ClassFile.FieldType.int) [((0 : Nat), (10 : Nat), (13 : Nat), (13 : Nat)), ((0 : Nat), (10 : Nat), (17 : Nat), (15 : Nat))] :: zall
def rm_La_roots : Room := { frames := 8, cells := 2, slots := 12, locals := 136 }
theorem hd_La_roots : y_La_roots.cls ≠ "java/lang/invoke/MethodHandle" ∧ y_La_roots.cls ≠ "java/lang/invoke/VarHandle" ∧ (parseMethodDescriptor y_La_roots.desc).map (fun d => d.parameters.length) = some 4 := by decide +kernel
set_option maxHeartbeats 4000000 in
set_option maxRecDepth 100000 in
theorem c_La_roots (l : Launch) (hst : l.stackTraces = false) (G : zG) (b : Nat) (a1 : Int32) (a2 : Int32) (M : zM) (N : zN) {P : Int32 → zM → Prop} (hw : w_La_roots a1 a2 M P) : Met l y_La_roots ws_La_roots rm_La_roots (zPc G b M N [.ref (b + 0), .int a1, .int a2, .ref (b + 119)]) (zQi G b (fun r M' N' => P r M' ∧ N' = N)) 2 12 (zA b) := by
  refine va_MetW (cc := method_20_code) (maxL := 5) (ret := (Option.some Jvm.ClassFile.FieldType.int)) (hh := [((0 : Nat), (10 : Nat), (13 : Nat), (13 : Nat)), ((0 : Nat), (10 : Nat), (17 : Nat), (15 : Nat))]) (by decide) rfl ?_
  intro p e s m args below meth c s₁ B hml hv
  obtain ⟨rfl, hZ, hK, hT⟩ := hv
  have hx := B.exec
  have hb := B.bytes
  have hr := B.returns
  have hts := atoms_spec (ws := ws_La_roots) B.pre
  have hta : ∀ w ∈ zall, w.before ([.ref (b + 0), .int a1, .int a2, .ref (b + 119)] : List Value).toArray s = true := fun w h => hts w (List.mem_cons_of_mem _ h)
  have hown : s.vm.findClass R_La = some m.cls := findClass_of_methodNamed B.named
  have hlocks := B.notSynchronized
  have hS : va_S (zA b) s.heap s.heap [] := va_S.rf
  have hl := lv_entry ([.ref (b + 0), .int a1, .int a2, .ref (b + 119)]) (n := 5) (Nat.le_of_ble_eq_true rfl)
  rw [lg_entry_eq]
  generalize (lg_sl ([.ref (b + 0), .int a1, .int a2, .ref (b + 119)]) ++ List.replicate (5 - (lg_sl ([.ref (b + 0), .int a1, .int a2, .ref (b + 119)])).length) Slot.unset).toArray = ls at hl ⊢
  have hl : lv_has ls 5 [(0, .ref (b + 0)), (1, .int a1), (2, .int a2), (3, .ref (b + 119))] := hl
  have htab : c.exceptionTable.toList = tableOf [((0 : Nat), (10 : Nat), (13 : Nat), (13 : Nat)), ((0 : Nat), (10 : Nat), (17 : Nat), (15 : Nat))] := vx_table (x := y_La_roots) B (hts _ List.mem_cons_self)
  unfold w_La_roots at hw
  refine lv_aload_n (pc := 0) hx hb d_La_roots_0 rfl (lv_at hl 3 rfl) ?_
  refine lv_iconst (pc := 1) (v := 0) hx hb d_La_roots_1 (by decide) ?_
  refine lv_aload_n (pc := 2) hx hb d_La_roots_2 rfl (lv_at hl 0 rfl) ?_
  refine lv_iload_n (pc := 3) hx hb d_La_roots_3 rfl (lv_at hl 1 rfl) ?_
  refine lv_iload_n (pc := 4) hx hb d_La_roots_4 rfl (lv_at hl 2 rfl) ?_
  refine z_xcalli (pc := 5) (vx_runV (C := R_IS) (b := b + 0) (As := [.int a1, .int a2]) (rest := [.int (0 : Int32), .ref (b + 119)]) ⟨hx, hb, hml, hown, hts⟩ (c_IS_roots l hst G b a1 a2 M N hw) (cwV 2 hts (z_good (zgV wd706 wd707 wd708 wd1 wd709)) rfl rfl rfl ⟨rfl, hd_IS_roots⟩ ⟨Nat.le_of_ble_eq_true rfl, Nat.le_of_ble_eq_true rfl⟩) (z_preV zo_IS rfl rfl hZ hK hT hS) rfl rfl hl.1 rfl (lv_room (Nat.le_of_ble_eq_true rfl)) d_La_roots_5 ⟨Nat.le_of_ble_eq_true rfl, Nat.le_of_ble_eq_true rfl⟩) hS (fun k q ce M5 N6 H locs hw hZ hS h1 h2 h3 => ?_) (fun r1 M2 N3 H locs hw hZ hS => ?_)
  · obtain ⟨hw, eM5, eN6⟩ := hw
    rw [eM5, eN6] at hZ
    obtain ⟨hw0, hw1, hk⟩ := hw
    rcases hk with rfl | rfl
    · have hw := hw0 rfl
      refine vx_catch (own := R_La) (name := zxn 1) (E := zxn 1) hown [] ⟨0, 10, 13, 13⟩ [⟨0, 10, 17, 15⟩] (htab.trans rfl) (fun _ h => absurd h List.not_mem_nil) (by decide) (by decide) (hta _ wd217) (va_Nw.use rfl (hT.1.1 1 (by decide) (by decide))) h1 h2 h3 ?_
      refine lv_astore (pc := 13) (lv' := [(4, .ref q), (0, .ref (b + 0)), (1, .int a1), (2, .int a2), (3, .ref (b + 119))]) hx hb d_La_roots_13 hl (by decide) rfl (fun ls hl => ?_)
      refine lv_iconst (pc := 15) (v := 1) hx hb d_La_roots_15 (by decide) ?_
      exact z_iret hx hb hr hlocks hK hT hZ hS ⟨hw, rfl⟩ d_La_roots_16
    · have hw := hw1 rfl
      refine vx_catch (own := R_La) (name := zxn 2) (E := zxn 2) hown [⟨0, 10, 13, 13⟩] ⟨0, 10, 17, 15⟩ [] (htab.trans rfl) (List.forall_mem_cons.mpr ⟨Or.inr ⟨by decide, zxn 1, hta _ wd217, hT.1.2.2 2 1 (by decide) (by decide) (by decide) (by decide) (by decide)⟩, fun _ h => absurd h List.not_mem_nil⟩) (by decide) (by decide) (hta _ wd218) (va_Nw.use rfl (hT.1.1 2 (by decide) (by decide))) h1 h2 h3 ?_
      refine lv_astore (pc := 17) (lv' := [(4, .ref q), (0, .ref (b + 0)), (1, .int a1), (2, .int a2), (3, .ref (b + 119))]) hx hb d_La_roots_17 hl (by decide) rfl (fun ls hl => ?_)
      refine lv_iconst (pc := 19) (v := 2) hx hb d_La_roots_19 (by decide) ?_
      exact z_iret hx hb hr hlocks hK hT hZ hS ⟨hw, rfl⟩ d_La_roots_20
  · obtain ⟨hw, eM2, eN3⟩ := hw
    rw [eM2, eN3] at hZ
    refine lv_i2l (pc := 8) (v := r1.toInt64) hx hb d_La_roots_8 rfl ?_
    obtain ⟨hc, hw⟩ := hw
    refine z_last (pc := 9) hx hb hK hZ hS hc d_La_roots_9 (fun M4 H locs hM4 hZ hS => ?_)
    have hw := hw M4 hM4
    refine lv_goto (pc := 10) (tgt := 21) hx hb d_La_roots_10 (by decide) ?_
    refine lv_iconst (pc := 21) (v := 0) hx hb d_La_roots_21 (by decide) ?_
    exact z_iret hx hb hr hlocks hK hT hZ hS ⟨hw, rfl⟩ d_La_roots_22
