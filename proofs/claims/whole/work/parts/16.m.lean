theorem zg_IS_34 {p : Program} {l : Launch} {e : Env} {R : Room} {s : State} {m : MethodId} {args : Array Value} {below : List Frame} {meth : Method} {c : Code} {H : Heap} {locs : List Loc} {cells slots : Nat} {Q : State → Prop} {cc : ByteArray} {pc : Nat} {ls : Array Slot} {rest : List Value} {G : zG} {b : Nat} {M : zM} {N : zN} (hx : p.tables.exec = Jvm.exec) (hb : c.code = cc) (hta : ∀ w ∈ zall, w.before args s = true) (hown : s.vm.findClass R_IS = some m.cls) (hK : va_K G.1 zCl (zty G) s) (hZ : va_P G.1 zCl (zws G b M N) H) (hdg : decode cc pc = .ok (.getfield 34, 3)) (kk : W p l e R s m args below meth c H locs cells slots Q (F0 m (pc + 3) ls (.ref (b + 79) :: rest))) : W p l e R s m args below meth c H locs cells slots Q (F0 m pc ls (.ref (b + 0) :: rest)) :=
  va_get (D := G.1) (ci := 5) (v := .ref (b + 79)) (C := R_IS) (T := T_IS) (N := 7) hx hb hta hin_IS hown hK hZ 0 zo_IS rfl 5 (by decide) (hta _ wd193) (fun _ h9 => h9) rfl hdg kk
theorem zg_IS_101 {p : Program} {l : Launch} {e : Env} {R : Room} {s : State} {m : MethodId} {args : Array Value} {below : List Frame} {meth : Method} {c : Code} {H : Heap} {locs : List Loc} {cells slots : Nat} {Q : State → Prop} {cc : ByteArray} {pc : Nat} {ls : Array Slot} {rest : List Value} {G : zG} {b : Nat} {M : zM} {N : zN} {k : Nat} (hx : p.tables.exec = Jvm.exec) (hb : c.code = cc) (hta : ∀ w ∈ zall, w.before args s = true) (hown : s.vm.findClass R_IS = some m.cls) (hK : va_K G.1 zCl (zty G) s) (hZ : va_P G.1 zCl (zws G b M N) H) (hk : zfac k) (hdg : decode cc pc = .ok (.getfield 101, 3)) (kk : W p l e R s m args below meth c H locs cells slots Q (F0 m (pc + 3) ls (.int (N k 2) :: rest))) : W p l e R s m args below meth c H locs cells slots Q (F0 m pc ls (.ref (b + k) :: rest)) :=
  va_get (D := G.1) (ci := 1) (v := .int (N k 2)) (C := R_Fa) (T := T_Fa) (N := 4) hx hb hta hin_Fa hown hK hZ k (zo_Fa hk) rfl 2 (by decide) (hta _ wd176) (fun _ h9 => h9) rfl hdg kk
theorem xat_IS_factor_16_w : ∀ w ∈ (vx_at0 R_IS 82 (zxn 4) ["java/lang/RuntimeException", "java/lang/Exception"]).filter goodWord, w ∈ lw_tbl := by decide +kernel
theorem xat_IS_factor_16_g : ∀ w ∈ Cond.classLink R_IS 80 (zxn 4) :: Cond.initialized (zxn 4) :: vx_at0 R_IS 82 (zxn 4) ["java/lang/RuntimeException", "java/lang/Exception"], vx_ot w = true := by decide +kernel
theorem xat_IS_factor_16_b : ∀ w ∈ (vx_at0 R_IS 82 (zxn 4) ["java/lang/RuntimeException", "java/lang/Exception"]).filter (fun w => !goodWord w), w ∈ Cond.castable (zxn 4) (zxn 4) :: zdec.map Cond.declares := by decide +kernel
theorem xat_IS_factor_16 {args : Array Value} {s : State} (hta : ∀ w ∈ zall, w.before args s = true) (hn : zNw s) : ∀ w ∈ vx_at0 R_IS 82 (zxn 4) ["java/lang/RuntimeException", "java/lang/Exception"], w.before args s = true :=
  vx_hat (fun w h => hta w (List.mem_filter.mpr ⟨xat_IS_factor_16_w w h, (List.mem_filter.mp h).2⟩)) xat_IS_factor_16_b (fun w h => by
    rcases List.mem_cons.mp h with rfl | h
    · exact va_Nw.use rfl (hn.1 4 (by decide) (by decide))
    · obtain ⟨y, hy, rfl⟩ := List.mem_map.mp h
      exact va_Nw.use rfl (hn.2.1 y hy))
theorem d_IS_factor_0 : decode prog_1_method_13_code 0 = .ok (.iload_n 1, 1) := by decide +kernel
theorem d_IS_factor_1 : decode prog_1_method_13_code 1 = .ok (.invokestatic 41, 3) := by decide +kernel
theorem d_IS_factor_4 : decode prog_1_method_13_code 4 = .ok (.aload_n 0, 1) := by decide +kernel
theorem d_IS_factor_5 : decode prog_1_method_13_code 5 = .ok (.getfield 11, 3) := by decide +kernel
theorem d_IS_factor_8 : decode prog_1_method_13_code 8 = .ok (.iload_n 1, 1) := by decide +kernel
theorem d_IS_factor_9 : decode prog_1_method_13_code 9 = .ok (.aaload, 1) := by decide +kernel
theorem d_IS_factor_10 : decode prog_1_method_13_code 10 = .ok (.invokestatic 53, 3) := by decide +kernel
theorem d_IS_factor_13 : decode prog_1_method_13_code 13 = .ok (.ifCond .ge 11, 3) := by decide +kernel
theorem d_IS_factor_16 : decode prog_1_method_13_code 16 = .ok (.new 80, 3) := by decide +kernel
theorem d_IS_factor_19 : decode prog_1_method_13_code 19 = .ok (.dup, 1) := by decide +kernel
theorem d_IS_factor_20 : decode prog_1_method_13_code 20 = .ok (.invokespecial 82, 3) := by decide +kernel
theorem d_IS_factor_23 : decode prog_1_method_13_code 23 = .ok (.athrow, 1) := by decide +kernel
theorem d_IS_factor_24 : decode prog_1_method_13_code 24 = .ok (.aload_n 0, 1) := by decide +kernel
theorem d_IS_factor_25 : decode prog_1_method_13_code 25 = .ok (.getfield 27, 3) := by decide +kernel
theorem d_IS_factor_28 : decode prog_1_method_13_code 28 = .ok (.aload_n 0, 1) := by decide +kernel
theorem d_IS_factor_29 : decode prog_1_method_13_code 29 = .ok (.getfield 11, 3) := by decide +kernel
theorem d_IS_factor_32 : decode prog_1_method_13_code 32 = .ok (.iload_n 1, 1) := by decide +kernel
theorem d_IS_factor_33 : decode prog_1_method_13_code 33 = .ok (.aaload, 1) := by decide +kernel
theorem d_IS_factor_34 : decode prog_1_method_13_code 34 = .ok (.aload_n 0, 1) := by decide +kernel
theorem d_IS_factor_35 : decode prog_1_method_13_code 35 = .ok (.getfield 34, 3) := by decide +kernel
theorem d_IS_factor_38 : decode prog_1_method_13_code 38 = .ok (.invokevirtual 97, 3) := by decide +kernel
theorem d_IS_factor_41 : decode prog_1_method_13_code 41 = .ok (.aload_n 0, 1) := by decide +kernel
theorem d_IS_factor_42 : decode prog_1_method_13_code 42 = .ok (.getfield 34, 3) := by decide +kernel
theorem d_IS_factor_45 : decode prog_1_method_13_code 45 = .ok (.getfield 101, 3) := by decide +kernel
theorem d_IS_factor_48 : decode prog_1_method_13_code 48 = .ok (.ireturn, 1) := by decide +kernel
def w_IS_factor (a1 : Int32) (M : zM) (N : zN) (P : Int32 → zM → zN → Prop) (X : Nat → zM → zN → Prop) : Prop := w_IS_requireRegister a1  (vp_in a1 (zgn 1) ∧ w_Ro_degreeOf (1 + 1 + a1.toNatClampNeg) M (fun r4 => (0 ≤ r4 → vp_in a1 (zgn 1) ∧ w_Sp_takeApart (1 + 1 + a1.toNatClampNeg) 79 M N (fun M8 N9 => P (N9 79 2) M8 N9)) ∧ (¬ 0 ≤ r4 → X 4 M N))) (fun k => X k M N)
def ws_IS_factor : List Cond := .code y_IS_factor prog_1_method_13_code 2 (Option.some Jvm.ClassFile.FieldType.int) :: zall
def rm_IS_factor : Room := { frames := 7, cells := 2, slots := 12, locals := 167 }
theorem hd_IS_factor : y_IS_factor.cls ≠ "java/lang/invoke/MethodHandle" ∧ y_IS_factor.cls ≠ "java/lang/invoke/VarHandle" ∧ (parseMethodDescriptor y_IS_factor.desc).map (fun d => d.parameters.length) = some 1 := by decide +kernel
set_option maxHeartbeats 4000000 in
set_option maxRecDepth 100000 in
theorem c_IS_factor (l : Launch) (hst : l.stackTraces = false) (G : zG) (b : Nat) (a1 : Int32) (M : zM) (N : zN) {P : Int32 → zM → zN → Prop} {X : Nat → zM → zN → Prop} (hw : w_IS_factor a1 M N P X) : vx_Met l y_IS_factor ws_IS_factor rm_IS_factor (zPc G b M N [.ref (b + 0), .int a1]) (zQi G b (fun r M' N' => P r M' N')) (zXC G b (fun k M' N' => X k M' N')) 2 12 (zA b) := by
  refine vx_ofW (cc := prog_1_method_13_code) (maxL := 2) (ret := (Option.some Jvm.ClassFile.FieldType.int)) (by decide) rfl ?_
  intro p e s m args below meth c s₁ B hml hno hv
  obtain ⟨rfl, hZ, hK, hT⟩ := hv
  have hx := B.exec
  have hb := B.bytes
  have hr := B.returns
  have hts := atoms_spec (ws := ws_IS_factor) B.pre
  have hta : ∀ w ∈ zall, w.before ([.ref (b + 0), .int a1] : List Value).toArray s = true := fun w h => hts w (List.mem_cons_of_mem _ h)
  have hown : s.vm.findClass R_IS = some m.cls := findClass_of_methodNamed B.named
  have hlocks := B.notSynchronized
  have hS : va_S (zA b) s.heap s.heap [] := va_S.rf
  have hl := lv_entry ([.ref (b + 0), .int a1]) (n := 2) (Nat.le_of_ble_eq_true rfl)
  rw [lg_entry_eq]
  generalize (lg_sl ([.ref (b + 0), .int a1]) ++ List.replicate (2 - (lg_sl ([.ref (b + 0), .int a1])).length) Slot.unset).toArray = ls at hl ⊢
  have hl : lv_has ls 2 [(0, .ref (b + 0)), (1, .int a1)] := hl
  unfold w_IS_factor at hw
  refine lv_iload_n (pc := 0) hx hb d_IS_factor_0 rfl (lv_at hl 1 rfl) ?_
  refine z_xcallv (pc := 1) (vx_runS (As := [.int a1]) (rest := []) ⟨hx, hb, hml, hown, hts⟩ (c_IS_requireRegister l hst G b a1 M N hw) (va_cwS 1 hts (z_good (zgS wd223 wd224 wd1 wd225)) rfl rfl rfl hd_IS_requireRegister ⟨Nat.le_of_ble_eq_true rfl, Nat.le_of_ble_eq_true rfl⟩) (z_preS hZ hK hT hS) rfl rfl hl.1 rfl (lv_room (Nat.le_of_ble_eq_true rfl)) d_IS_factor_1 ⟨Nat.le_of_ble_eq_true rfl, Nat.le_of_ble_eq_true rfl⟩) hS (fun k q ce M10 N11 H locs hw hZ hS h1 h2 h3 => ?_) (fun M2 N3 H locs hw hZ hS => ?_)
  · obtain ⟨hw, eM10, eN11⟩ := hw
    rw [eM10, eN11] at hZ
    exact z_xout hno hlocks hK hT hZ hS h1 h2 h3 hw (by decide) (by decide)
  · obtain ⟨hw, eM2, eN3⟩ := hw
    rw [eM2, eN3] at hZ
    refine lv_aload_n (pc := 4) hx hb d_IS_factor_4 rfl (lv_at hl 0 rfl) ?_
    refine zg_IS_11 (pc := 5) hx hb hta hown hK hZ d_IS_factor_5 ?_
    refine lv_iload_n (pc := 8) hx hb d_IS_factor_8 rfl (lv_at hl 1 rfl) ?_
    obtain ⟨hc, hw⟩ := hw
    refine z_aald (pc := 9) hx hb hK hZ hc d_IS_factor_9 ?_
    refine z_calli (pc := 10) (va_runS (As := [.ref (b + (1 + 1 + a1.toNatClampNeg))]) (rest := []) ⟨hx, hb, hml, hown, hts⟩ (c_Ro_degreeOf l G b (1 + 1 + a1.toNatClampNeg) M N hw) (va_cwS 1 hts (z_good (zgS wd311 wd312 wd13 wd313)) rfl rfl rfl hd_Ro_degreeOf ⟨Nat.le_of_ble_eq_true rfl, Nat.le_of_ble_eq_true rfl⟩) (z_preS hZ hK hT hS) rfl rfl hl.1 rfl (lv_room (Nat.le_of_ble_eq_true rfl)) d_IS_factor_10 ⟨Nat.le_of_ble_eq_true rfl, Nat.le_of_ble_eq_true rfl⟩) hS (fun r4 M5 N6 H locs hw hZ hS => ?_)
    obtain ⟨hw, eM5, eN6⟩ := hw
    rw [eM5, eN6] at hZ
    refine lv_if_ge (pc := 13) (tgt := 24) hx hb d_IS_factor_13 (by decide) (fun hc => ?_) (fun hc => ?_)
    · have hw := hw.1 hc
      refine lv_aload_n (pc := 24) hx hb d_IS_factor_24 rfl (lv_at hl 0 rfl) ?_
      refine zg_IS_27 (pc := 25) hx hb hta hown hK hZ d_IS_factor_25 ?_
      refine lv_aload_n (pc := 28) hx hb d_IS_factor_28 rfl (lv_at hl 0 rfl) ?_
      refine zg_IS_11 (pc := 29) hx hb hta hown hK hZ d_IS_factor_29 ?_
      refine lv_iload_n (pc := 32) hx hb d_IS_factor_32 rfl (lv_at hl 1 rfl) ?_
      obtain ⟨hc, hw⟩ := hw
      refine z_aald (pc := 33) hx hb hK hZ hc d_IS_factor_33 ?_
      refine lv_aload_n (pc := 34) hx hb d_IS_factor_34 rfl (lv_at hl 0 rfl) ?_
      refine zg_IS_34 (pc := 35) hx hb hta hown hK hZ d_IS_factor_35 ?_
      refine z_callv (pc := 38) (va_runV (C := R_Sp) (b := b + 9) (As := [.ref (b + (1 + 1 + a1.toNatClampNeg)), .ref (b + 79)]) (rest := []) ⟨hx, hb, hml, hown, hts⟩ (c_Sp_takeApart l G b (1 + 1 + a1.toNatClampNeg) 79 M N hw) (cwV 2 hts (z_good (zgV wd509 wd510 wd511 wd2 wd512)) rfl rfl rfl ⟨rfl, hd_Sp_takeApart⟩ ⟨Nat.le_of_ble_eq_true rfl, Nat.le_of_ble_eq_true rfl⟩) (z_preV zo_Sp rfl rfl hZ hK hT hS) rfl rfl hl.1 rfl (lv_room (Nat.le_of_ble_eq_true rfl)) d_IS_factor_38 ⟨Nat.le_of_ble_eq_true rfl, Nat.le_of_ble_eq_true rfl⟩) hS (fun M8 N9 H locs hw hZ hS => ?_)
      refine lv_aload_n (pc := 41) hx hb d_IS_factor_41 rfl (lv_at hl 0 rfl) ?_
      refine zg_IS_34 (pc := 42) hx hb hta hown hK hZ d_IS_factor_42 ?_
      refine zg_IS_101 (pc := 45) hx hb hta hown hK hZ (k := 79) (by unfold zfac; decide) d_IS_factor_45 ?_
      refine W.widen (k := 2) (n := 12) (by decide) (by decide) ?_
      exact vx_ret (z_iret hx hb hr hlocks hK hT hZ hS hw d_IS_factor_48)
    · have hw := hw.2 hc
      exact z_xthrow (k := 4) (pc := 16) hx hb hst hown (hta _ wd414) (hta _ wd17) (xat_IS_factor_16 hta hT.1) (by decide) xat_IS_factor_16_g hno hlocks hK hT hZ hS (hl.1.trans hml.symm) d_IS_factor_16 d_IS_factor_19 d_IS_factor_20 d_IS_factor_23 (Nat.le_of_ble_eq_true rfl) (Nat.le_of_ble_eq_true rfl) (Nat.le_of_ble_eq_true rfl) (Nat.le_of_ble_eq_true rfl) hw (by decide) (by decide)
theorem zg_IS_105 {p : Program} {l : Launch} {e : Env} {R : Room} {s : State} {m : MethodId} {args : Array Value} {below : List Frame} {meth : Method} {c : Code} {H : Heap} {locs : List Loc} {cells slots : Nat} {Q : State → Prop} {cc : ByteArray} {pc : Nat} {ls : Array Slot} {rest : List Value} {G : zG} {b : Nat} {M : zM} {N : zN} {k : Nat} (hx : p.tables.exec = Jvm.exec) (hb : c.code = cc) (hta : ∀ w ∈ zall, w.before args s = true) (hown : s.vm.findClass R_IS = some m.cls) (hK : va_K G.1 zCl (zty G) s) (hZ : va_P G.1 zCl (zws G b M N) H) (hk : zfac k) (hdg : decode cc pc = .ok (.getfield 105, 3)) (kk : W p l e R s m args below meth c H locs cells slots Q (F0 m (pc + 3) ls (.long (M k 3) :: rest))) : W p l e R s m args below meth c H locs cells slots Q (F0 m pc ls (.ref (b + k) :: rest)) :=
  va_get (D := G.1) (ci := 1) (v := .long (M k 3)) (C := R_Fa) (T := T_Fa) (N := 4) hx hb hta hin_Fa hown hK hZ k (zo_Fa hk) rfl 3 (by decide) (hta _ wd178) (fun _ h9 => h9) rfl hdg kk
theorem d_IS_unit_0 : decode prog_1_method_14_code 0 = .ok (.aload_n 0, 1) := by decide +kernel
theorem d_IS_unit_1 : decode prog_1_method_14_code 1 = .ok (.getfield 34, 3) := by decide +kernel
theorem d_IS_unit_4 : decode prog_1_method_14_code 4 = .ok (.getfield 105, 3) := by decide +kernel
theorem d_IS_unit_7 : decode prog_1_method_14_code 7 = .ok (.l2i, 1) := by decide +kernel
theorem d_IS_unit_8 : decode prog_1_method_14_code 8 = .ok (.ireturn, 1) := by decide +kernel
def w_IS_unit  (M : zM) (P : Int32 → Prop) : Prop := P ((M 79 3).toInt32)
def ws_IS_unit : List Cond := .code y_IS_unit prog_1_method_14_code 1 (Option.some Jvm.ClassFile.FieldType.int) :: zall
def rm_IS_unit : Room := { frames := 0, cells := 0, slots := 0, locals := 0 }
theorem hd_IS_unit : y_IS_unit.cls ≠ "java/lang/invoke/MethodHandle" ∧ y_IS_unit.cls ≠ "java/lang/invoke/VarHandle" ∧ (parseMethodDescriptor y_IS_unit.desc).map (fun d => d.parameters.length) = some 0 := by decide +kernel
set_option maxHeartbeats 4000000 in
set_option maxRecDepth 100000 in
theorem c_IS_unit (l : Launch) (G : zG) (b : Nat)  (M : zM) (N : zN) {P : Int32 → Prop} (hw : w_IS_unit  M P) : Met l y_IS_unit ws_IS_unit rm_IS_unit (zPc G b M N [.ref (b + 0)]) (zQi G b (fun r M' N' => P r ∧ M' = M ∧ N' = N)) 0 0 (zA b) := by
  refine Met.ofW (cc := prog_1_method_14_code) (maxL := 1) (ret := (Option.some Jvm.ClassFile.FieldType.int)) (by decide) rfl ?_
  intro p e s m args below meth c s₁ B hml hv
  obtain ⟨rfl, hZ, hK, hT⟩ := hv
  have hx := B.exec
  have hb := B.bytes
  have hr := B.returns
  have hts := atoms_spec (ws := ws_IS_unit) B.pre
  have hta : ∀ w ∈ zall, w.before ([.ref (b + 0)] : List Value).toArray s = true := fun w h => hts w (List.mem_cons_of_mem _ h)
  have hown : s.vm.findClass R_IS = some m.cls := findClass_of_methodNamed B.named
  have hlocks := B.notSynchronized
  have hS : va_S (zA b) s.heap s.heap [] := va_S.rf
  have hl := lv_entry ([.ref (b + 0)]) (n := 1) (Nat.le_of_ble_eq_true rfl)
  rw [lg_entry_eq]
  generalize (lg_sl ([.ref (b + 0)]) ++ List.replicate (1 - (lg_sl ([.ref (b + 0)])).length) Slot.unset).toArray = ls at hl ⊢
  have hl : lv_has ls 1 [(0, .ref (b + 0))] := hl
  unfold w_IS_unit at hw
  refine lv_aload_n (pc := 0) hx hb d_IS_unit_0 rfl (lv_at hl 0 rfl) ?_
  refine zg_IS_34 (pc := 1) hx hb hta hown hK hZ d_IS_unit_1 ?_
  refine zg_IS_105 (pc := 4) hx hb hta hown hK hZ (k := 79) (by unfold zfac; decide) d_IS_unit_4 ?_
  refine lv_l2i (pc := 7) (v := (M 79 3).toInt32) hx hb d_IS_unit_7 rfl ?_
  exact z_iret hx hb hr hlocks hK hT hZ hS ⟨hw, rfl, rfl⟩ d_IS_unit_8
theorem xat_IS_requireFactor_15_w : ∀ w ∈ (vx_at0 R_IS 154 (zxn 5) ["java/lang/RuntimeException", "java/lang/Exception"]).filter goodWord, w ∈ lw_tbl := by decide +kernel
theorem xat_IS_requireFactor_15_g : ∀ w ∈ Cond.classLink R_IS 152 (zxn 5) :: Cond.initialized (zxn 5) :: vx_at0 R_IS 154 (zxn 5) ["java/lang/RuntimeException", "java/lang/Exception"], vx_ot w = true := by decide +kernel
theorem xat_IS_requireFactor_15_b : ∀ w ∈ (vx_at0 R_IS 154 (zxn 5) ["java/lang/RuntimeException", "java/lang/Exception"]).filter (fun w => !goodWord w), w ∈ Cond.castable (zxn 5) (zxn 5) :: zdec.map Cond.declares := by decide +kernel
theorem xat_IS_requireFactor_15 {args : Array Value} {s : State} (hta : ∀ w ∈ zall, w.before args s = true) (hn : zNw s) : ∀ w ∈ vx_at0 R_IS 154 (zxn 5) ["java/lang/RuntimeException", "java/lang/Exception"], w.before args s = true :=
  vx_hat (fun w h => hta w (List.mem_filter.mpr ⟨xat_IS_requireFactor_15_w w h, (List.mem_filter.mp h).2⟩)) xat_IS_requireFactor_15_b (fun w h => by
    rcases List.mem_cons.mp h with rfl | h
    · exact va_Nw.use rfl (hn.1 5 (by decide) (by decide))
    · obtain ⟨y, hy, rfl⟩ := List.mem_map.mp h
      exact va_Nw.use rfl (hn.2.1 y hy))
theorem d_IS_requireFactor_0 : decode prog_1_method_25_code 0 = .ok (.iload_n 1, 1) := by decide +kernel
theorem d_IS_requireFactor_1 : decode prog_1_method_25_code 1 = .ok (.ifCond .lt 14, 3) := by decide +kernel
theorem d_IS_requireFactor_4 : decode prog_1_method_25_code 4 = .ok (.iload_n 1, 1) := by decide +kernel
theorem d_IS_requireFactor_5 : decode prog_1_method_25_code 5 = .ok (.aload_n 0, 1) := by decide +kernel
theorem d_IS_requireFactor_6 : decode prog_1_method_25_code 6 = .ok (.getfield 34, 3) := by decide +kernel
theorem d_IS_requireFactor_9 : decode prog_1_method_25_code 9 = .ok (.getfield 101, 3) := by decide +kernel
theorem d_IS_requireFactor_12 : decode prog_1_method_25_code 12 = .ok (.if_icmp .lt 11, 3) := by decide +kernel
theorem d_IS_requireFactor_15 : decode prog_1_method_25_code 15 = .ok (.new 152, 3) := by decide +kernel
theorem d_IS_requireFactor_18 : decode prog_1_method_25_code 18 = .ok (.dup, 1) := by decide +kernel
theorem d_IS_requireFactor_19 : decode prog_1_method_25_code 19 = .ok (.invokespecial 154, 3) := by decide +kernel
theorem d_IS_requireFactor_22 : decode prog_1_method_25_code 22 = .ok (.athrow, 1) := by decide +kernel
theorem d_IS_requireFactor_23 : decode prog_1_method_25_code 23 = .ok (.return_, 1) := by decide +kernel
def J_IS_requireFactor_15 (P : Prop) (X : Nat → Prop) (N : zN) : Prop := X 5
def w_IS_requireFactor (a1 : Int32) (N : zN) (P : Prop) (X : Nat → Prop) : Prop := (a1 < 0 → J_IS_requireFactor_15 P X N) ∧ (¬ a1 < 0 → (a1 < (N 79 2) → P) ∧ (¬ a1 < (N 79 2) → J_IS_requireFactor_15 P X N))
def ws_IS_requireFactor : List Cond := .code y_IS_requireFactor prog_1_method_25_code 2 (Option.none : Option Jvm.ClassFile.FieldType) :: zall
def rm_IS_requireFactor : Room := { frames := 6, cells := 1, slots := 6, locals := 89 }
theorem hd_IS_requireFactor : y_IS_requireFactor.cls ≠ "java/lang/invoke/MethodHandle" ∧ y_IS_requireFactor.cls ≠ "java/lang/invoke/VarHandle" ∧ (parseMethodDescriptor y_IS_requireFactor.desc).map (fun d => d.parameters.length) = some 1 := by decide +kernel
set_option maxHeartbeats 4000000 in
set_option maxRecDepth 100000 in
theorem c_IS_requireFactor (l : Launch) (hst : l.stackTraces = false) (G : zG) (b : Nat) (a1 : Int32) (M : zM) (N : zN) {P : Prop} {X : Nat → Prop} (hw : w_IS_requireFactor a1 N P X) : vx_Met l y_IS_requireFactor ws_IS_requireFactor rm_IS_requireFactor (zPc G b M N [.ref (b + 0), .int a1]) (zQv G b (fun M' N' => P ∧ M' = M ∧ N' = N)) (zXC G b (fun k M' N' => X k ∧ M' = M ∧ N' = N)) 1 6 (zA b) := by
  refine vx_ofW (cc := prog_1_method_25_code) (maxL := 2) (ret := (Option.none : Option Jvm.ClassFile.FieldType)) (by decide) rfl ?_
  intro p e s m args below meth c s₁ B hml hno hv
  obtain ⟨rfl, hZ, hK, hT⟩ := hv
  have hx := B.exec
  have hb := B.bytes
  have hr := B.returns
  have hts := atoms_spec (ws := ws_IS_requireFactor) B.pre
  have hta : ∀ w ∈ zall, w.before ([.ref (b + 0), .int a1] : List Value).toArray s = true := fun w h => hts w (List.mem_cons_of_mem _ h)
  have hown : s.vm.findClass R_IS = some m.cls := findClass_of_methodNamed B.named
  have hlocks := B.notSynchronized
  have hS : va_S (zA b) s.heap s.heap [] := va_S.rf
  have hl := lv_entry ([.ref (b + 0), .int a1]) (n := 2) (Nat.le_of_ble_eq_true rfl)
  rw [lg_entry_eq]
  generalize (lg_sl ([.ref (b + 0), .int a1]) ++ List.replicate (2 - (lg_sl ([.ref (b + 0), .int a1])).length) Slot.unset).toArray = ls at hl ⊢
  have hl : lv_has ls 2 [(0, .ref (b + 0)), (1, .int a1)] := hl
  have j15 : ∀  (H : Heap) (ls : Array Slot) (locs : List Loc), va_P G.1 zCl (zws G b M N) H → va_S (zA b) s.heap H locs → lv_has ls 2 [] → J_IS_requireFactor_15 P X N → W p l e (headSpec ws_IS_requireFactor rm_IS_requireFactor).room s m ([.ref (b + 0), .int a1] : List Value).toArray below meth c H locs 0 0 (vx_MQ below (zQv G b (fun M' N' => P ∧ M' = M ∧ N' = N)) (zXC G b (fun k M' N' => X k ∧ M' = M ∧ N' = N)) ([.ref (b + 0), .int a1] : List Value).toArray s 1 6 (zA b)) (F0 m 15 ls []) := by
    intro  H ls locs hZ hS hl hw
    unfold J_IS_requireFactor_15 at hw
    exact z_xthrow (k := 5) (pc := 15) hx hb hst hown (hta _ wd652) (hta _ wd20) (xat_IS_requireFactor_15 hta hT.1) (by decide) xat_IS_requireFactor_15_g hno hlocks hK hT hZ hS (hl.1.trans hml.symm) d_IS_requireFactor_15 d_IS_requireFactor_18 d_IS_requireFactor_19 d_IS_requireFactor_22 (Nat.le_of_ble_eq_true rfl) (Nat.le_of_ble_eq_true rfl) (Nat.le_of_ble_eq_true rfl) (Nat.le_of_ble_eq_true rfl) ⟨hw, rfl, rfl⟩ (by decide) (by decide)
  unfold w_IS_requireFactor at hw
  refine lv_iload_n (pc := 0) hx hb d_IS_requireFactor_0 rfl (lv_at hl 1 rfl) ?_
  refine lv_if_lt (pc := 1) (tgt := 15) hx hb d_IS_requireFactor_1 (by decide) (fun hc => ?_) (fun hc => ?_)
  · have hw := hw.1 hc
    exact j15  _ _ _ hZ hS (lv_sub hl [] rfl) hw
  · have hw := hw.2 hc
    refine lv_iload_n (pc := 4) hx hb d_IS_requireFactor_4 rfl (lv_at hl 1 rfl) ?_
    refine lv_aload_n (pc := 5) hx hb d_IS_requireFactor_5 rfl (lv_at hl 0 rfl) ?_
    refine zg_IS_34 (pc := 6) hx hb hta hown hK hZ d_IS_requireFactor_6 ?_
    refine zg_IS_101 (pc := 9) hx hb hta hown hK hZ (k := 79) (by unfold zfac; decide) d_IS_requireFactor_9 ?_
    refine lv_icmp_lt (pc := 12) (tgt := 23) hx hb d_IS_requireFactor_12 (by decide) (fun hc => ?_) (fun hc => ?_)
    · have hw := hw.1 hc
      refine W.widen (k := 1) (n := 6) (by decide) (by decide) ?_
      exact vx_ret (z_vret hx hb hr hlocks hK hT hZ hS ⟨hw, rfl, rfl⟩ d_IS_requireFactor_23)
    · have hw := hw.2 hc
      exact j15  _ _ _ hZ hS (lv_sub hl [] rfl) hw
theorem wsel17 : Cond.selects R_IS y_IS_requireFactor y_IS_requireFactor ∈ zall := List.mem_filter.mpr ⟨List.mem_append_left _ (List.mem_of_getElem? (i := 17) rfl), by decide +kernel⟩
theorem zg_IS_112 {p : Program} {l : Launch} {e : Env} {R : Room} {s : State} {m : MethodId} {args : Array Value} {below : List Frame} {meth : Method} {c : Code} {H : Heap} {locs : List Loc} {cells slots : Nat} {Q : State → Prop} {cc : ByteArray} {pc : Nat} {ls : Array Slot} {rest : List Value} {G : zG} {b : Nat} {M : zM} {N : zN} {k : Nat} (hx : p.tables.exec = Jvm.exec) (hb : c.code = cc) (hta : ∀ w ∈ zall, w.before args s = true) (hown : s.vm.findClass R_IS = some m.cls) (hK : va_K G.1 zCl (zty G) s) (hZ : va_P G.1 zCl (zws G b M N) H) (hk : zfac k) (hdg : decode cc pc = .ok (.getfield 112, 3)) (kk : W p l e R s m args below meth c H locs cells slots Q (F0 m (pc + 3) ls (.ref (b + (k + 9)) :: rest))) : W p l e R s m args below meth c H locs cells slots Q (F0 m pc ls (.ref (b + k) :: rest)) :=
  va_get (D := G.1) (ci := 1) (v := .ref (b + (k + 9))) (C := R_Fa) (T := T_Fa) (N := 4) hx hb hta hin_Fa hown hK hZ k (zo_Fa hk) rfl 1 (by decide) (hta _ wd174) (fun _ h9 => h9) rfl hdg kk
theorem d_IS_multiplicity_0 : decode prog_1_method_15_code 0 = .ok (.aload_n 0, 1) := by decide +kernel
theorem d_IS_multiplicity_1 : decode prog_1_method_15_code 1 = .ok (.iload_n 1, 1) := by decide +kernel
theorem d_IS_multiplicity_2 : decode prog_1_method_15_code 2 = .ok (.invokevirtual 109, 3) := by decide +kernel
theorem d_IS_multiplicity_5 : decode prog_1_method_15_code 5 = .ok (.aload_n 0, 1) := by decide +kernel
theorem d_IS_multiplicity_6 : decode prog_1_method_15_code 6 = .ok (.getfield 34, 3) := by decide +kernel
theorem d_IS_multiplicity_9 : decode prog_1_method_15_code 9 = .ok (.getfield 112, 3) := by decide +kernel
theorem d_IS_multiplicity_12 : decode prog_1_method_15_code 12 = .ok (.iload_n 1, 1) := by decide +kernel
theorem d_IS_multiplicity_13 : decode prog_1_method_15_code 13 = .ok (.iaload, 1) := by decide +kernel
theorem d_IS_multiplicity_14 : decode prog_1_method_15_code 14 = .ok (.ireturn, 1) := by decide +kernel
def w_IS_multiplicity (a1 : Int32) (N : zN) (P : Int32 → Prop) (X : Nat → Prop) : Prop := w_IS_requireFactor a1 N (vp_in a1 (zint (79 + 9)) ∧ P (N (79 + 9) a1.toNatClampNeg)) (fun k => X k)
def ws_IS_multiplicity : List Cond := .code y_IS_multiplicity prog_1_method_15_code 2 (Option.some Jvm.ClassFile.FieldType.int) :: zall
def rm_IS_multiplicity : Room := { frames := 7, cells := 1, slots := 6, locals := 110 }
theorem hd_IS_multiplicity : y_IS_multiplicity.cls ≠ "java/lang/invoke/MethodHandle" ∧ y_IS_multiplicity.cls ≠ "java/lang/invoke/VarHandle" ∧ (parseMethodDescriptor y_IS_multiplicity.desc).map (fun d => d.parameters.length) = some 1 := by decide +kernel
set_option maxHeartbeats 4000000 in
set_option maxRecDepth 100000 in
theorem c_IS_multiplicity (l : Launch) (hst : l.stackTraces = false) (G : zG) (b : Nat) (a1 : Int32) (M : zM) (N : zN) {P : Int32 → Prop} {X : Nat → Prop} (hw : w_IS_multiplicity a1 N P X) : vx_Met l y_IS_multiplicity ws_IS_multiplicity rm_IS_multiplicity (zPc G b M N [.ref (b + 0), .int a1]) (zQi G b (fun r M' N' => P r ∧ M' = M ∧ N' = N)) (zXC G b (fun k M' N' => X k ∧ M' = M ∧ N' = N)) 1 6 (zA b) := by
  refine vx_ofW (cc := prog_1_method_15_code) (maxL := 2) (ret := (Option.some Jvm.ClassFile.FieldType.int)) (by decide) rfl ?_
  intro p e s m args below meth c s₁ B hml hno hv
  obtain ⟨rfl, hZ, hK, hT⟩ := hv
  have hx := B.exec
  have hb := B.bytes
  have hr := B.returns
  have hts := atoms_spec (ws := ws_IS_multiplicity) B.pre
  have hta : ∀ w ∈ zall, w.before ([.ref (b + 0), .int a1] : List Value).toArray s = true := fun w h => hts w (List.mem_cons_of_mem _ h)
  have hown : s.vm.findClass R_IS = some m.cls := findClass_of_methodNamed B.named
  have hlocks := B.notSynchronized
  have hS : va_S (zA b) s.heap s.heap [] := va_S.rf
  have hl := lv_entry ([.ref (b + 0), .int a1]) (n := 2) (Nat.le_of_ble_eq_true rfl)
  rw [lg_entry_eq]
  generalize (lg_sl ([.ref (b + 0), .int a1]) ++ List.replicate (2 - (lg_sl ([.ref (b + 0), .int a1])).length) Slot.unset).toArray = ls at hl ⊢
  have hl : lv_has ls 2 [(0, .ref (b + 0)), (1, .int a1)] := hl
  unfold w_IS_multiplicity at hw
  refine lv_aload_n (pc := 0) hx hb d_IS_multiplicity_0 rfl (lv_at hl 0 rfl) ?_
  refine lv_iload_n (pc := 1) hx hb d_IS_multiplicity_1 rfl (lv_at hl 1 rfl) ?_
  refine z_xcallv (pc := 2) (vx_runV (C := R_IS) (b := b + 0) (As := [.int a1]) (rest := []) ⟨hx, hb, hml, hown, hts⟩ (c_IS_requireFactor l hst G b a1 M N hw) (cwV 1 hts (z_good (zgV wd648 wd650 wsel17 wd1 wd651)) rfl rfl rfl ⟨rfl, hd_IS_requireFactor⟩ ⟨Nat.le_of_ble_eq_true rfl, Nat.le_of_ble_eq_true rfl⟩) (z_preV zo_IS rfl rfl hZ hK hT hS) rfl rfl hl.1 rfl (lv_room (Nat.le_of_ble_eq_true rfl)) d_IS_multiplicity_2 ⟨Nat.le_of_ble_eq_true rfl, Nat.le_of_ble_eq_true rfl⟩) hS (fun k q ce M4 N5 H locs hw hZ hS h1 h2 h3 => ?_) (fun M2 N3 H locs hw hZ hS => ?_)
  · obtain ⟨hw, eM4, eN5⟩ := hw
    rw [eM4, eN5] at hZ
    exact z_xout hno hlocks hK hT hZ hS h1 h2 h3 ⟨hw, rfl, rfl⟩ (by decide) (by decide)
  · obtain ⟨hw, eM2, eN3⟩ := hw
    rw [eM2, eN3] at hZ
    refine lv_aload_n (pc := 5) hx hb d_IS_multiplicity_5 rfl (lv_at hl 0 rfl) ?_
    refine zg_IS_34 (pc := 6) hx hb hta hown hK hZ d_IS_multiplicity_6 ?_
    refine zg_IS_112 (pc := 9) hx hb hta hown hK hZ (k := 79) (by unfold zfac; decide) d_IS_multiplicity_9 ?_
    refine lv_iload_n (pc := 12) hx hb d_IS_multiplicity_12 rfl (lv_at hl 1 rfl) ?_
    obtain ⟨hc, hw⟩ := hw
    refine z_iald (pc := 13) hx hb hK hZ hc d_IS_multiplicity_13 ?_
    refine W.widen (k := 1) (n := 6) (by decide) (by decide) ?_
    exact vx_ret (z_iret hx hb hr hlocks hK hT hZ hS ⟨hw, rfl, rfl⟩ d_IS_multiplicity_14)
theorem zg_IS_116 {p : Program} {l : Launch} {e : Env} {R : Room} {s : State} {m : MethodId} {args : Array Value} {below : List Frame} {meth : Method} {c : Code} {H : Heap} {locs : List Loc} {cells slots : Nat} {Q : State → Prop} {cc : ByteArray} {pc : Nat} {ls : Array Slot} {rest : List Value} {G : zG} {b : Nat} {M : zM} {N : zN} {k : Nat} (hx : p.tables.exec = Jvm.exec) (hb : c.code = cc) (hta : ∀ w ∈ zall, w.before args s = true) (hown : s.vm.findClass R_IS = some m.cls) (hK : va_K G.1 zCl (zty G) s) (hZ : va_P G.1 zCl (zws G b M N) H) (hk : zfac k) (hdg : decode cc pc = .ok (.getfield 116, 3)) (kk : W p l e R s m args below meth c H locs cells slots Q (F0 m (pc + 3) ls (.ref (b + (k + 1)) :: rest))) : W p l e R s m args below meth c H locs cells slots Q (F0 m pc ls (.ref (b + k) :: rest)) :=
  va_get (D := G.1) (ci := 1) (v := .ref (b + (k + 1))) (C := R_Fa) (T := T_Fa) (N := 4) hx hb hta hin_Fa hown hK hZ k (zo_Fa hk) rfl 0 (by decide) (hta _ wd172) (fun _ h9 => h9) rfl hdg kk
theorem d_IS_factorAt_0 : decode prog_1_method_16_code 0 = .ok (.aload_n 0, 1) := by decide +kernel
theorem d_IS_factorAt_1 : decode prog_1_method_16_code 1 = .ok (.iload_n 1, 1) := by decide +kernel
theorem d_IS_factorAt_2 : decode prog_1_method_16_code 2 = .ok (.invokevirtual 109, 3) := by decide +kernel
theorem d_IS_factorAt_5 : decode prog_1_method_16_code 5 = .ok (.iload_n 2, 1) := by decide +kernel
theorem d_IS_factorAt_6 : decode prog_1_method_16_code 6 = .ok (.iconst (-1), 1) := by decide +kernel
theorem d_IS_factorAt_7 : decode prog_1_method_16_code 7 = .ok (.if_icmp .ne 16, 3) := by decide +kernel
theorem d_IS_factorAt_10 : decode prog_1_method_16_code 10 = .ok (.aload_n 0, 1) := by decide +kernel
theorem d_IS_factorAt_11 : decode prog_1_method_16_code 11 = .ok (.getfield 34, 3) := by decide +kernel
theorem d_IS_factorAt_14 : decode prog_1_method_16_code 14 = .ok (.getfield 116, 3) := by decide +kernel
theorem d_IS_factorAt_17 : decode prog_1_method_16_code 17 = .ok (.iload_n 1, 1) := by decide +kernel
theorem d_IS_factorAt_18 : decode prog_1_method_16_code 18 = .ok (.aaload, 1) := by decide +kernel
theorem d_IS_factorAt_19 : decode prog_1_method_16_code 19 = .ok (.invokestatic 53, 3) := by decide +kernel
theorem d_IS_factorAt_22 : decode prog_1_method_16_code 22 = .ok (.ireturn, 1) := by decide +kernel
theorem d_IS_factorAt_23 : decode prog_1_method_16_code 23 = .ok (.iload_n 2, 1) := by decide +kernel
theorem d_IS_factorAt_24 : decode prog_1_method_16_code 24 = .ok (.ifCond .lt 9, 3) := by decide +kernel
theorem d_IS_factorAt_27 : decode prog_1_method_16_code 27 = .ok (.iload_n 2, 1) := by decide +kernel
theorem d_IS_factorAt_28 : decode prog_1_method_16_code 28 = .ok (.bipush 8, 2) := by decide +kernel
theorem d_IS_factorAt_30 : decode prog_1_method_16_code 30 = .ok (.if_icmp .lt 7, 3) := by decide +kernel
theorem d_IS_factorAt_33 : decode prog_1_method_16_code 33 = .ok (.iconst 0, 1) := by decide +kernel
theorem d_IS_factorAt_34 : decode prog_1_method_16_code 34 = .ok (.goto 15, 3) := by decide +kernel
theorem d_IS_factorAt_37 : decode prog_1_method_16_code 37 = .ok (.aload_n 0, 1) := by decide +kernel
theorem d_IS_factorAt_38 : decode prog_1_method_16_code 38 = .ok (.getfield 34, 3) := by decide +kernel
theorem d_IS_factorAt_41 : decode prog_1_method_16_code 41 = .ok (.getfield 116, 3) := by decide +kernel
theorem d_IS_factorAt_44 : decode prog_1_method_16_code 44 = .ok (.iload_n 1, 1) := by decide +kernel
theorem d_IS_factorAt_45 : decode prog_1_method_16_code 45 = .ok (.aaload, 1) := by decide +kernel
theorem d_IS_factorAt_46 : decode prog_1_method_16_code 46 = .ok (.iload_n 2, 1) := by decide +kernel
theorem d_IS_factorAt_47 : decode prog_1_method_16_code 47 = .ok (.laload, 1) := by decide +kernel
theorem d_IS_factorAt_48 : decode prog_1_method_16_code 48 = .ok (.l2i, 1) := by decide +kernel
theorem d_IS_factorAt_49 : decode prog_1_method_16_code 49 = .ok (.ireturn, 1) := by decide +kernel
def w_IS_factorAt (a1 : Int32) (a2 : Int32) (M : zM) (N : zN) (P : Int32 → Prop) (X : Nat → Prop) : Prop := w_IS_requireFactor a1 N ((¬ a2 = (-1 : Int32) → (a2 < 0 → P (0 : Int32)) ∧ (¬ a2 < 0 → (a2 < (8 : Int32) → vp_in a1 (zgn (79 + 1)) ∧ vp_in a2 (zlong ((79 + 1) + 1 + a1.toNatClampNeg)) ∧ P ((M ((79 + 1) + 1 + a1.toNatClampNeg) a2.toNatClampNeg).toInt32)) ∧ (¬ a2 < (8 : Int32) → P (0 : Int32)))) ∧ (a2 = (-1 : Int32) → vp_in a1 (zgn (79 + 1)) ∧ w_Ro_degreeOf ((79 + 1) + 1 + a1.toNatClampNeg) M (fun r4 => P r4))) (fun k => X k)
def ws_IS_factorAt : List Cond := .code y_IS_factorAt prog_1_method_16_code 3 (Option.some Jvm.ClassFile.FieldType.int) :: zall
def rm_IS_factorAt : Room := { frames := 7, cells := 1, slots := 6, locals := 110 }
theorem hd_IS_factorAt : y_IS_factorAt.cls ≠ "java/lang/invoke/MethodHandle" ∧ y_IS_factorAt.cls ≠ "java/lang/invoke/VarHandle" ∧ (parseMethodDescriptor y_IS_factorAt.desc).map (fun d => d.parameters.length) = some 2 := by decide +kernel
set_option maxHeartbeats 4000000 in
set_option maxRecDepth 100000 in
theorem c_IS_factorAt (l : Launch) (hst : l.stackTraces = false) (G : zG) (b : Nat) (a1 : Int32) (a2 : Int32) (M : zM) (N : zN) {P : Int32 → Prop} {X : Nat → Prop} (hw : w_IS_factorAt a1 a2 M N P X) : vx_Met l y_IS_factorAt ws_IS_factorAt rm_IS_factorAt (zPc G b M N [.ref (b + 0), .int a1, .int a2]) (zQi G b (fun r M' N' => P r ∧ M' = M ∧ N' = N)) (zXC G b (fun k M' N' => X k ∧ M' = M ∧ N' = N)) 1 6 (zA b) := by
  refine vx_ofW (cc := prog_1_method_16_code) (maxL := 3) (ret := (Option.some Jvm.ClassFile.FieldType.int)) (by decide) rfl ?_
  intro p e s m args below meth c s₁ B hml hno hv
  obtain ⟨rfl, hZ, hK, hT⟩ := hv
  have hx := B.exec
  have hb := B.bytes
  have hr := B.returns
  have hts := atoms_spec (ws := ws_IS_factorAt) B.pre
  have hta : ∀ w ∈ zall, w.before ([.ref (b + 0), .int a1, .int a2] : List Value).toArray s = true := fun w h => hts w (List.mem_cons_of_mem _ h)
  have hown : s.vm.findClass R_IS = some m.cls := findClass_of_methodNamed B.named
  have hlocks := B.notSynchronized
  have hS : va_S (zA b) s.heap s.heap [] := va_S.rf
  have hl := lv_entry ([.ref (b + 0), .int a1, .int a2]) (n := 3) (Nat.le_of_ble_eq_true rfl)
  rw [lg_entry_eq]
  generalize (lg_sl ([.ref (b + 0), .int a1, .int a2]) ++ List.replicate (3 - (lg_sl ([.ref (b + 0), .int a1, .int a2])).length) Slot.unset).toArray = ls at hl ⊢
  have hl : lv_has ls 3 [(0, .ref (b + 0)), (1, .int a1), (2, .int a2)] := hl
  unfold w_IS_factorAt at hw
  refine lv_aload_n (pc := 0) hx hb d_IS_factorAt_0 rfl (lv_at hl 0 rfl) ?_
  refine lv_iload_n (pc := 1) hx hb d_IS_factorAt_1 rfl (lv_at hl 1 rfl) ?_
  refine z_xcallv (pc := 2) (vx_runV (C := R_IS) (b := b + 0) (As := [.int a1]) (rest := []) ⟨hx, hb, hml, hown, hts⟩ (c_IS_requireFactor l hst G b a1 M N hw) (cwV 1 hts (z_good (zgV wd648 wd650 wsel17 wd1 wd651)) rfl rfl rfl ⟨rfl, hd_IS_requireFactor⟩ ⟨Nat.le_of_ble_eq_true rfl, Nat.le_of_ble_eq_true rfl⟩) (z_preV zo_IS rfl rfl hZ hK hT hS) rfl rfl hl.1 rfl (lv_room (Nat.le_of_ble_eq_true rfl)) d_IS_factorAt_2 ⟨Nat.le_of_ble_eq_true rfl, Nat.le_of_ble_eq_true rfl⟩) hS (fun k q ce M7 N8 H locs hw hZ hS h1 h2 h3 => ?_) (fun M2 N3 H locs hw hZ hS => ?_)
  · obtain ⟨hw, eM7, eN8⟩ := hw
    rw [eM7, eN8] at hZ
    exact z_xout hno hlocks hK hT hZ hS h1 h2 h3 ⟨hw, rfl, rfl⟩ (by decide) (by decide)
  · obtain ⟨hw, eM2, eN3⟩ := hw
    rw [eM2, eN3] at hZ
    refine lv_iload_n (pc := 5) hx hb d_IS_factorAt_5 rfl (lv_at hl 2 rfl) ?_
    refine lv_iconst (pc := 6) (v := -1) hx hb d_IS_factorAt_6 (by decide) ?_
    refine lv_icmp_ne (pc := 7) (tgt := 23) hx hb d_IS_factorAt_7 (by decide) (fun hc => ?_) (fun hc => ?_)
    · have hw := hw.1 hc
      refine lv_iload_n (pc := 23) hx hb d_IS_factorAt_23 rfl (lv_at hl 2 rfl) ?_
      refine lv_if_lt (pc := 24) (tgt := 33) hx hb d_IS_factorAt_24 (by decide) (fun hc => ?_) (fun hc => ?_)
      · have hw := hw.1 hc
        refine lv_iconst (pc := 33) (v := 0) hx hb d_IS_factorAt_33 (by decide) ?_
        refine lv_goto (pc := 34) (tgt := 49) hx hb d_IS_factorAt_34 (by decide) ?_
        refine W.widen (k := 1) (n := 6) (by decide) (by decide) ?_
        exact vx_ret (z_iret hx hb hr hlocks hK hT hZ hS ⟨hw, rfl, rfl⟩ d_IS_factorAt_49)
      · have hw := hw.2 hc
        refine lv_iload_n (pc := 27) hx hb d_IS_factorAt_27 rfl (lv_at hl 2 rfl) ?_
        refine lv_bipush (pc := 28) (v := 8) hx hb d_IS_factorAt_28 (by decide) ?_
        refine lv_icmp_lt (pc := 30) (tgt := 37) hx hb d_IS_factorAt_30 (by decide) (fun hc => ?_) (fun hc => ?_)
        · have hw := hw.1 hc
          refine lv_aload_n (pc := 37) hx hb d_IS_factorAt_37 rfl (lv_at hl 0 rfl) ?_
          refine zg_IS_34 (pc := 38) hx hb hta hown hK hZ d_IS_factorAt_38 ?_
          refine zg_IS_116 (pc := 41) hx hb hta hown hK hZ (k := 79) (by unfold zfac; decide) d_IS_factorAt_41 ?_
          refine lv_iload_n (pc := 44) hx hb d_IS_factorAt_44 rfl (lv_at hl 1 rfl) ?_
          obtain ⟨hc, hw⟩ := hw
          refine z_aald (pc := 45) hx hb hK hZ hc d_IS_factorAt_45 ?_
          refine lv_iload_n (pc := 46) hx hb d_IS_factorAt_46 rfl (lv_at hl 2 rfl) ?_
          obtain ⟨hc, hw⟩ := hw
          refine z_lald (pc := 47) hx hb hK hZ hc d_IS_factorAt_47 ?_
          refine lv_l2i (pc := 48) (v := (M ((79 + 1) + 1 + a1.toNatClampNeg) a2.toNatClampNeg).toInt32) hx hb d_IS_factorAt_48 rfl ?_
          refine W.widen (k := 1) (n := 6) (by decide) (by decide) ?_
          exact vx_ret (z_iret hx hb hr hlocks hK hT hZ hS ⟨hw, rfl, rfl⟩ d_IS_factorAt_49)
        · have hw := hw.2 hc
          refine lv_iconst (pc := 33) (v := 0) hx hb d_IS_factorAt_33 (by decide) ?_
          refine lv_goto (pc := 34) (tgt := 49) hx hb d_IS_factorAt_34 (by decide) ?_
          refine W.widen (k := 1) (n := 6) (by decide) (by decide) ?_
          exact vx_ret (z_iret hx hb hr hlocks hK hT hZ hS ⟨hw, rfl, rfl⟩ d_IS_factorAt_49)
    · have hw := hw.2 hc
      refine lv_aload_n (pc := 10) hx hb d_IS_factorAt_10 rfl (lv_at hl 0 rfl) ?_
      refine zg_IS_34 (pc := 11) hx hb hta hown hK hZ d_IS_factorAt_11 ?_
      refine zg_IS_116 (pc := 14) hx hb hta hown hK hZ (k := 79) (by unfold zfac; decide) d_IS_factorAt_14 ?_
      refine lv_iload_n (pc := 17) hx hb d_IS_factorAt_17 rfl (lv_at hl 1 rfl) ?_
      obtain ⟨hc, hw⟩ := hw
      refine z_aald (pc := 18) hx hb hK hZ hc d_IS_factorAt_18 ?_
      refine z_calli (pc := 19) (va_runS (As := [.ref (b + ((79 + 1) + 1 + a1.toNatClampNeg))]) (rest := []) ⟨hx, hb, hml, hown, hts⟩ (c_Ro_degreeOf l G b ((79 + 1) + 1 + a1.toNatClampNeg) M N hw) (va_cwS 1 hts (z_good (zgS wd311 wd312 wd13 wd313)) rfl rfl rfl hd_Ro_degreeOf ⟨Nat.le_of_ble_eq_true rfl, Nat.le_of_ble_eq_true rfl⟩) (z_preS hZ hK hT hS) rfl rfl hl.1 rfl (lv_room (Nat.le_of_ble_eq_true rfl)) d_IS_factorAt_19 ⟨Nat.le_of_ble_eq_true rfl, Nat.le_of_ble_eq_true rfl⟩) hS (fun r4 M5 N6 H locs hw hZ hS => ?_)
      obtain ⟨hw, eM5, eN6⟩ := hw
      rw [eM5, eN6] at hZ
      refine W.widen (k := 1) (n := 6) (by decide) (by decide) ?_
      exact vx_ret (z_iret hx hb hr hlocks hK hT hZ hS ⟨hw, rfl, rfl⟩ d_IS_factorAt_22)
theorem d_IS_take_0 : decode prog_1_method_17_code 0 = .ok (.iload_n 1, 1) := by decide +kernel
theorem d_IS_take_1 : decode prog_1_method_17_code 1 = .ok (.invokestatic 41, 3) := by decide +kernel
theorem d_IS_take_4 : decode prog_1_method_17_code 4 = .ok (.aload_n 0, 1) := by decide +kernel
theorem d_IS_take_5 : decode prog_1_method_17_code 5 = .ok (.iload_n 2, 1) := by decide +kernel
theorem d_IS_take_6 : decode prog_1_method_17_code 6 = .ok (.invokevirtual 109, 3) := by decide +kernel
theorem d_IS_take_9 : decode prog_1_method_17_code 9 = .ok (.aload_n 0, 1) := by decide +kernel
theorem d_IS_take_10 : decode prog_1_method_17_code 10 = .ok (.getfield 34, 3) := by decide +kernel
theorem d_IS_take_13 : decode prog_1_method_17_code 13 = .ok (.getfield 116, 3) := by decide +kernel
theorem d_IS_take_16 : decode prog_1_method_17_code 16 = .ok (.iload_n 2, 1) := by decide +kernel
theorem d_IS_take_17 : decode prog_1_method_17_code 17 = .ok (.aaload, 1) := by decide +kernel
theorem d_IS_take_18 : decode prog_1_method_17_code 18 = .ok (.invokestatic 119, 3) := by decide +kernel
theorem d_IS_take_21 : decode prog_1_method_17_code 21 = .ok (.ifCond .ne 5, 3) := by decide +kernel
theorem d_IS_take_24 : decode prog_1_method_17_code 24 = .ok (.iconst 0, 1) := by decide +kernel
theorem d_IS_take_25 : decode prog_1_method_17_code 25 = .ok (.ireturn, 1) := by decide +kernel
theorem d_IS_take_26 : decode prog_1_method_17_code 26 = .ok (.aload_n 0, 1) := by decide +kernel
theorem d_IS_take_27 : decode prog_1_method_17_code 27 = .ok (.getfield 34, 3) := by decide +kernel
theorem d_IS_take_30 : decode prog_1_method_17_code 30 = .ok (.getfield 116, 3) := by decide +kernel
theorem d_IS_take_33 : decode prog_1_method_17_code 33 = .ok (.iload_n 2, 1) := by decide +kernel
theorem d_IS_take_34 : decode prog_1_method_17_code 34 = .ok (.aaload, 1) := by decide +kernel
theorem d_IS_take_35 : decode prog_1_method_17_code 35 = .ok (.aload_n 0, 1) := by decide +kernel
theorem d_IS_take_36 : decode prog_1_method_17_code 36 = .ok (.getfield 11, 3) := by decide +kernel
theorem d_IS_take_39 : decode prog_1_method_17_code 39 = .ok (.iload_n 1, 1) := by decide +kernel
theorem d_IS_take_40 : decode prog_1_method_17_code 40 = .ok (.aaload, 1) := by decide +kernel
theorem d_IS_take_41 : decode prog_1_method_17_code 41 = .ok (.invokestatic 123, 3) := by decide +kernel
theorem d_IS_take_44 : decode prog_1_method_17_code 44 = .ok (.iconst 1, 1) := by decide +kernel
theorem d_IS_take_45 : decode prog_1_method_17_code 45 = .ok (.ireturn, 1) := by decide +kernel
def w_IS_take (a1 : Int32) (a2 : Int32) (M : zM) (N : zN) (P : Int32 → zM → Prop) (X : Nat → zM → Prop) : Prop := w_IS_requireRegister a1  (w_IS_requireFactor a2 N (vp_in a2 (zgn (79 + 1)) ∧ w_IS_isWithinLimits ((79 + 1) + 1 + a2.toNatClampNeg) M (fun r7 => (¬ r7 = 0 → vp_in a2 (zgn (79 + 1)) ∧ vp_in a1 (zgn 1) ∧ w_Ro_copyInto ((79 + 1) + 1 + a2.toNatClampNeg) (1 + 1 + a1.toNatClampNeg) M (fun M11 => narrow .boolean (.int (1 : Int32)) = .int (1 : Int32) ∧ P (1 : Int32) M11)) ∧ (r7 = 0 → narrow .boolean (.int (0 : Int32)) = .int (0 : Int32) ∧ P (0 : Int32) M))) (fun k => X k M)) (fun k => X k M)
def ws_IS_take : List Cond := .code y_IS_take prog_1_method_17_code 3 (Option.some Jvm.ClassFile.FieldType.boolean) :: zall
def rm_IS_take : Room := { frames := 7, cells := 2, slots := 12, locals := 110 }
theorem hd_IS_take : y_IS_take.cls ≠ "java/lang/invoke/MethodHandle" ∧ y_IS_take.cls ≠ "java/lang/invoke/VarHandle" ∧ (parseMethodDescriptor y_IS_take.desc).map (fun d => d.parameters.length) = some 2 := by decide +kernel
set_option maxHeartbeats 4000000 in
set_option maxRecDepth 100000 in
theorem c_IS_take (l : Launch) (hst : l.stackTraces = false) (G : zG) (b : Nat) (a1 : Int32) (a2 : Int32) (M : zM) (N : zN) {P : Int32 → zM → Prop} {X : Nat → zM → Prop} (hw : w_IS_take a1 a2 M N P X) : vx_Met l y_IS_take ws_IS_take rm_IS_take (zPc G b M N [.ref (b + 0), .int a1, .int a2]) (zQi G b (fun r M' N' => P r M' ∧ N' = N)) (zXC G b (fun k M' N' => X k M' ∧ N' = N)) 2 12 (zA b) := by
  refine vx_ofW (cc := prog_1_method_17_code) (maxL := 3) (ret := (Option.some Jvm.ClassFile.FieldType.boolean)) (by decide) rfl ?_
  intro p e s m args below meth c s₁ B hml hno hv
  obtain ⟨rfl, hZ, hK, hT⟩ := hv
  have hx := B.exec
  have hb := B.bytes
  have hr := B.returns
  have hts := atoms_spec (ws := ws_IS_take) B.pre
  have hta : ∀ w ∈ zall, w.before ([.ref (b + 0), .int a1, .int a2] : List Value).toArray s = true := fun w h => hts w (List.mem_cons_of_mem _ h)
  have hown : s.vm.findClass R_IS = some m.cls := findClass_of_methodNamed B.named
  have hlocks := B.notSynchronized
  have hS : va_S (zA b) s.heap s.heap [] := va_S.rf
  have hl := lv_entry ([.ref (b + 0), .int a1, .int a2]) (n := 3) (Nat.le_of_ble_eq_true rfl)
  rw [lg_entry_eq]
  generalize (lg_sl ([.ref (b + 0), .int a1, .int a2]) ++ List.replicate (3 - (lg_sl ([.ref (b + 0), .int a1, .int a2])).length) Slot.unset).toArray = ls at hl ⊢
  have hl : lv_has ls 3 [(0, .ref (b + 0)), (1, .int a1), (2, .int a2)] := hl
  unfold w_IS_take at hw
  refine lv_iload_n (pc := 0) hx hb d_IS_take_0 rfl (lv_at hl 1 rfl) ?_
  refine z_xcallv (pc := 1) (vx_runS (As := [.int a1]) (rest := []) ⟨hx, hb, hml, hown, hts⟩ (c_IS_requireRegister l hst G b a1 M N hw) (va_cwS 1 hts (z_good (zgS wd223 wd224 wd1 wd225)) rfl rfl rfl hd_IS_requireRegister ⟨Nat.le_of_ble_eq_true rfl, Nat.le_of_ble_eq_true rfl⟩) (z_preS hZ hK hT hS) rfl rfl hl.1 rfl (lv_room (Nat.le_of_ble_eq_true rfl)) d_IS_take_1 ⟨Nat.le_of_ble_eq_true rfl, Nat.le_of_ble_eq_true rfl⟩) hS (fun k q ce M15 N16 H locs hw hZ hS h1 h2 h3 => ?_) (fun M2 N3 H locs hw hZ hS => ?_)
  · obtain ⟨hw, eM15, eN16⟩ := hw
    rw [eM15, eN16] at hZ
    exact z_xout hno hlocks hK hT hZ hS h1 h2 h3 ⟨hw, rfl⟩ (by decide) (by decide)
  · obtain ⟨hw, eM2, eN3⟩ := hw
    rw [eM2, eN3] at hZ
    refine lv_aload_n (pc := 4) hx hb d_IS_take_4 rfl (lv_at hl 0 rfl) ?_
    refine lv_iload_n (pc := 5) hx hb d_IS_take_5 rfl (lv_at hl 2 rfl) ?_
    refine z_xcallv (pc := 6) (vx_runV (C := R_IS) (b := b + 0) (As := [.int a2]) (rest := []) ⟨hx, hb, hml, hown, hts⟩ (c_IS_requireFactor l hst G b a2 M N hw) (cwV 1 hts (z_good (zgV wd648 wd650 wsel17 wd1 wd651)) rfl rfl rfl ⟨rfl, hd_IS_requireFactor⟩ ⟨Nat.le_of_ble_eq_true rfl, Nat.le_of_ble_eq_true rfl⟩) (z_preV zo_IS rfl rfl hZ hK hT hS) rfl rfl hl.1 rfl (lv_room (Nat.le_of_ble_eq_true rfl)) d_IS_take_6 ⟨Nat.le_of_ble_eq_true rfl, Nat.le_of_ble_eq_true rfl⟩) hS (fun k q ce M13 N14 H locs hw hZ hS h1 h2 h3 => ?_) (fun M5 N6 H locs hw hZ hS => ?_)
    · obtain ⟨hw, eM13, eN14⟩ := hw
      rw [eM13, eN14] at hZ
      exact z_xout hno hlocks hK hT hZ hS h1 h2 h3 ⟨hw, rfl⟩ (by decide) (by decide)
    · obtain ⟨hw, eM5, eN6⟩ := hw
      rw [eM5, eN6] at hZ
      refine lv_aload_n (pc := 9) hx hb d_IS_take_9 rfl (lv_at hl 0 rfl) ?_
      refine zg_IS_34 (pc := 10) hx hb hta hown hK hZ d_IS_take_10 ?_
      refine zg_IS_116 (pc := 13) hx hb hta hown hK hZ (k := 79) (by unfold zfac; decide) d_IS_take_13 ?_
      refine lv_iload_n (pc := 16) hx hb d_IS_take_16 rfl (lv_at hl 2 rfl) ?_
      obtain ⟨hc, hw⟩ := hw
      refine z_aald (pc := 17) hx hb hK hZ hc d_IS_take_17 ?_
      refine z_calli (pc := 18) (va_runS (As := [.ref (b + ((79 + 1) + 1 + a2.toNatClampNeg))]) (rest := []) ⟨hx, hb, hml, hown, hts⟩ (c_IS_isWithinLimits l G b ((79 + 1) + 1 + a2.toNatClampNeg) M N hw) (va_cwS 1 hts (z_good (zgS wd343 wd344 wd1 wd345)) rfl rfl rfl hd_IS_isWithinLimits ⟨Nat.le_of_ble_eq_true rfl, Nat.le_of_ble_eq_true rfl⟩) (z_preS hZ hK hT hS) rfl rfl hl.1 rfl (lv_room (Nat.le_of_ble_eq_true rfl)) d_IS_take_18 ⟨Nat.le_of_ble_eq_true rfl, Nat.le_of_ble_eq_true rfl⟩) hS (fun r7 M8 N9 H locs hw hZ hS => ?_)
      obtain ⟨hw, eM8, eN9⟩ := hw
      rw [eM8, eN9] at hZ
      refine lv_if_ne (pc := 21) (tgt := 26) hx hb d_IS_take_21 (by decide) (fun hc => ?_) (fun hc => ?_)
      · have hw := hw.1 hc
        refine lv_aload_n (pc := 26) hx hb d_IS_take_26 rfl (lv_at hl 0 rfl) ?_
        refine zg_IS_34 (pc := 27) hx hb hta hown hK hZ d_IS_take_27 ?_
        refine zg_IS_116 (pc := 30) hx hb hta hown hK hZ (k := 79) (by unfold zfac; decide) d_IS_take_30 ?_
        refine lv_iload_n (pc := 33) hx hb d_IS_take_33 rfl (lv_at hl 2 rfl) ?_
        obtain ⟨hc, hw⟩ := hw
        refine z_aald (pc := 34) hx hb hK hZ hc d_IS_take_34 ?_
        refine lv_aload_n (pc := 35) hx hb d_IS_take_35 rfl (lv_at hl 0 rfl) ?_
        refine zg_IS_11 (pc := 36) hx hb hta hown hK hZ d_IS_take_36 ?_
        refine lv_iload_n (pc := 39) hx hb d_IS_take_39 rfl (lv_at hl 1 rfl) ?_
        obtain ⟨hc, hw⟩ := hw
        refine z_aald (pc := 40) hx hb hK hZ hc d_IS_take_40 ?_
        refine z_callv (pc := 41) (va_runS (As := [.ref (b + ((79 + 1) + 1 + a2.toNatClampNeg)), .ref (b + (1 + 1 + a1.toNatClampNeg))]) (rest := []) ⟨hx, hb, hml, hown, hts⟩ (c_Ro_copyInto l G b ((79 + 1) + 1 + a2.toNatClampNeg) (1 + 1 + a1.toNatClampNeg) M N hw) (va_cwS 2 hts (z_good (zgS wd362 wd363 wd13 wd364)) rfl rfl rfl hd_Ro_copyInto ⟨Nat.le_of_ble_eq_true rfl, Nat.le_of_ble_eq_true rfl⟩) (z_preS hZ hK hT hS) rfl rfl hl.1 rfl (lv_room (Nat.le_of_ble_eq_true rfl)) d_IS_take_41 ⟨Nat.le_of_ble_eq_true rfl, Nat.le_of_ble_eq_true rfl⟩) hS (fun M11 N12 H locs hw hZ hS => ?_)
        obtain ⟨hw, eN12⟩ := hw
        rw [eN12] at hZ
        refine lv_iconst (pc := 44) (v := 1) hx hb d_IS_take_44 (by decide) ?_
        refine W.widen (k := 2) (n := 12) (by decide) (by decide) ?_
        exact vx_ret (z_zret hx hb hr hlocks hK hT hZ hS ⟨hw.1, ⟨hw.2, rfl⟩⟩ d_IS_take_45)
      · have hw := hw.2 hc
        refine lv_iconst (pc := 24) (v := 0) hx hb d_IS_take_24 (by decide) ?_
        refine W.widen (k := 2) (n := 12) (by decide) (by decide) ?_
        exact vx_ret (z_zret hx hb hr hlocks hK hT hZ hS ⟨hw.1, ⟨hw.2, rfl⟩⟩ d_IS_take_25)
theorem d_IS_isPrimeNumber_0 : decode prog_1_method_28_code 0 = .ok (.ldc2_w 160, 3) := by decide +kernel
theorem d_IS_isPrimeNumber_3 : decode prog_1_method_28_code 3 = .ok (.lstore_n 2, 1) := by decide +kernel
theorem d_IS_isPrimeNumber_4 : decode prog_1_method_28_code 4 = .ok (.lload_n 2, 1) := by decide +kernel
theorem d_IS_isPrimeNumber_5 : decode prog_1_method_28_code 5 = .ok (.lload_n 2, 1) := by decide +kernel
theorem d_IS_isPrimeNumber_6 : decode prog_1_method_28_code 6 = .ok (.lmul, 1) := by decide +kernel
theorem d_IS_isPrimeNumber_7 : decode prog_1_method_28_code 7 = .ok (.lload_n 0, 1) := by decide +kernel
theorem d_IS_isPrimeNumber_8 : decode prog_1_method_28_code 8 = .ok (.lcmp, 1) := by decide +kernel
theorem d_IS_isPrimeNumber_9 : decode prog_1_method_28_code 9 = .ok (.ifCond .gt 20, 3) := by decide +kernel
theorem d_IS_isPrimeNumber_12 : decode prog_1_method_28_code 12 = .ok (.lload_n 0, 1) := by decide +kernel
theorem d_IS_isPrimeNumber_13 : decode prog_1_method_28_code 13 = .ok (.lload_n 2, 1) := by decide +kernel
theorem d_IS_isPrimeNumber_14 : decode prog_1_method_28_code 14 = .ok (.lrem, 1) := by decide +kernel
theorem d_IS_isPrimeNumber_15 : decode prog_1_method_28_code 15 = .ok (.lconst 0, 1) := by decide +kernel
theorem d_IS_isPrimeNumber_16 : decode prog_1_method_28_code 16 = .ok (.lcmp, 1) := by decide +kernel
theorem d_IS_isPrimeNumber_17 : decode prog_1_method_28_code 17 = .ok (.ifCond .ne 5, 3) := by decide +kernel
theorem d_IS_isPrimeNumber_20 : decode prog_1_method_28_code 20 = .ok (.iconst 0, 1) := by decide +kernel
theorem d_IS_isPrimeNumber_21 : decode prog_1_method_28_code 21 = .ok (.ireturn, 1) := by decide +kernel
theorem d_IS_isPrimeNumber_22 : decode prog_1_method_28_code 22 = .ok (.lload_n 2, 1) := by decide +kernel
theorem d_IS_isPrimeNumber_23 : decode prog_1_method_28_code 23 = .ok (.lconst 1, 1) := by decide +kernel
theorem d_IS_isPrimeNumber_24 : decode prog_1_method_28_code 24 = .ok (.ladd, 1) := by decide +kernel
theorem d_IS_isPrimeNumber_25 : decode prog_1_method_28_code 25 = .ok (.lstore_n 2, 1) := by decide +kernel
theorem d_IS_isPrimeNumber_26 : decode prog_1_method_28_code 26 = .ok (.goto (-22), 3) := by decide +kernel
theorem d_IS_isPrimeNumber_29 : decode prog_1_method_28_code 29 = .ok (.lload_n 0, 1) := by decide +kernel
theorem d_IS_isPrimeNumber_30 : decode prog_1_method_28_code 30 = .ok (.lconst 1, 1) := by decide +kernel
theorem d_IS_isPrimeNumber_31 : decode prog_1_method_28_code 31 = .ok (.lcmp, 1) := by decide +kernel
theorem d_IS_isPrimeNumber_32 : decode prog_1_method_28_code 32 = .ok (.ifCond .le 7, 3) := by decide +kernel
theorem d_IS_isPrimeNumber_35 : decode prog_1_method_28_code 35 = .ok (.iconst 1, 1) := by decide +kernel
theorem d_IS_isPrimeNumber_36 : decode prog_1_method_28_code 36 = .ok (.goto 4, 3) := by decide +kernel
theorem d_IS_isPrimeNumber_39 : decode prog_1_method_28_code 39 = .ok (.iconst 0, 1) := by decide +kernel
theorem d_IS_isPrimeNumber_40 : decode prog_1_method_28_code 40 = .ok (.ireturn, 1) := by decide +kernel
def B_IS_isPrimeNumber_4 (P : Int32 → Prop) (a0 : Int64) (k4 : Int64 → Prop) (v2 : Int64) : Prop := (a0 < (v2 * v2) → (a0 ≤ (1 : Int64) → narrow .boolean (.int (0 : Int32)) = .int (0 : Int32) ∧ P (0 : Int32)) ∧ (¬ a0 ≤ (1 : Int64) → narrow .boolean (.int (1 : Int32)) = .int (1 : Int32) ∧ P (1 : Int32))) ∧ (¬ a0 < (v2 * v2) → ¬ v2 = 0 ∧ (¬ (a0 - a0 / v2 * v2) = (0 : Int64) → ∀ x1 : Int64, x1 = v2 + (1 : Int64) → k4 x1) ∧ ((a0 - a0 / v2 * v2) = (0 : Int64) → narrow .boolean (.int (0 : Int32)) = .int (0 : Int32) ∧ P (0 : Int32)))
def L_IS_isPrimeNumber_4 (P : Int32 → Prop) (a0 : Int64) (n : Nat) : Int64 → Prop := Nat.rec (fun _ => False) (fun _ k => B_IS_isPrimeNumber_4 P a0 k) n
def w_IS_isPrimeNumber (a0 : Int64) (P : Int32 → Prop) : Prop := ∃ n, L_IS_isPrimeNumber_4 P a0 n (2 : Int64)
def ws_IS_isPrimeNumber : List Cond := .code y_IS_isPrimeNumber prog_1_method_28_code 4 (Option.some Jvm.ClassFile.FieldType.boolean) :: zall
def rm_IS_isPrimeNumber : Room := { frames := 0, cells := 0, slots := 0, locals := 0 }
theorem hd_IS_isPrimeNumber : y_IS_isPrimeNumber.cls ≠ "java/lang/invoke/MethodHandle" ∧ y_IS_isPrimeNumber.cls ≠ "java/lang/invoke/VarHandle" ∧ (parseMethodDescriptor y_IS_isPrimeNumber.desc).map (fun d => d.parameters.length) = some 1 := by decide +kernel
set_option maxHeartbeats 4000000 in
set_option maxRecDepth 100000 in
theorem c_IS_isPrimeNumber (l : Launch) (G : zG) (b : Nat) (a0 : Int64) (M : zM) (N : zN) {P : Int32 → Prop} (hw : w_IS_isPrimeNumber a0  P) : Met l y_IS_isPrimeNumber ws_IS_isPrimeNumber rm_IS_isPrimeNumber (zPc G b M N [.long a0]) (zQi G b (fun r M' N' => P r ∧ M' = M ∧ N' = N)) 0 0 (zA b) := by
  refine Met.ofW (cc := prog_1_method_28_code) (maxL := 4) (ret := (Option.some Jvm.ClassFile.FieldType.boolean)) (by decide) rfl ?_
  intro p e s m args below meth c s₁ B hml hv
  obtain ⟨rfl, hZ, hK, hT⟩ := hv
  have hx := B.exec
  have hb := B.bytes
  have hr := B.returns
  have hts := atoms_spec (ws := ws_IS_isPrimeNumber) B.pre
  have hta : ∀ w ∈ zall, w.before ([.long a0] : List Value).toArray s = true := fun w h => hts w (List.mem_cons_of_mem _ h)
  have hown : s.vm.findClass R_IS = some m.cls := findClass_of_methodNamed B.named
  have hlocks := B.notSynchronized
  have hS : va_S (zA b) s.heap s.heap [] := va_S.rf
  have hl := lv_entry ([.long a0]) (n := 4) (Nat.le_of_ble_eq_true rfl)
  rw [lg_entry_eq]
  generalize (lg_sl ([.long a0]) ++ List.replicate (4 - (lg_sl ([.long a0])).length) Slot.unset).toArray = ls at hl ⊢
  have hl : lv_has ls 4 [(0, .long a0)] := hl
  have lp4 : ∀ (n : Nat) (v2 : Int64) (H : Heap) (ls : Array Slot) (locs : List Loc), va_P G.1 zCl (zws G b M N) H → va_S (zA b) s.heap H locs → lv_has ls 4 [(0, .long a0), (2, .long v2)] → L_IS_isPrimeNumber_4 P a0 n v2 → W p l e (headSpec ws_IS_isPrimeNumber rm_IS_isPrimeNumber).room s m ([.long a0] : List Value).toArray below meth c H locs 0 0 (MQ below (zQi G b (fun r M' N' => P r ∧ M' = M ∧ N' = N)) ([.long a0] : List Value).toArray s 0 0 (zA b)) (F0 m 4 ls []) := by
    intro  n
    induction n with
    | zero => intro v2 H ls locs hZ hS hl hw; exact False.elim hw
    | succ n4 ih4 =>
      intro v2 H ls locs hZ hS hl hw
      have hw : B_IS_isPrimeNumber_4 P a0 (L_IS_isPrimeNumber_4 P a0 n4) v2 := hw
      unfold B_IS_isPrimeNumber_4 at hw
      refine lv_lload_n (pc := 4) hx hb d_IS_isPrimeNumber_4 rfl (lv_at hl 1 rfl) ?_
      refine lv_lload_n (pc := 5) hx hb d_IS_isPrimeNumber_5 rfl (lv_at hl 1 rfl) ?_
      refine lv_lmul (pc := 6) hx hb d_IS_isPrimeNumber_6 ?_
      refine lv_lload_n (pc := 7) hx hb d_IS_isPrimeNumber_7 rfl (lv_at hl 0 rfl) ?_
      refine z_lc_gt (pc := 8) (tgt := 29) hx hb d_IS_isPrimeNumber_8 d_IS_isPrimeNumber_9 (by decide) (fun hc => ?_) (fun hc => ?_)
      · have hw := hw.1 hc
        refine lv_lload_n (pc := 29) hx hb d_IS_isPrimeNumber_29 rfl (lv_at hl 0 rfl) ?_
        refine lv_lconst (pc := 30) (v := 1) hx hb d_IS_isPrimeNumber_30 (by decide) ?_
        refine z_lc_le (pc := 31) (tgt := 39) hx hb d_IS_isPrimeNumber_31 d_IS_isPrimeNumber_32 (by decide) (fun hc => ?_) (fun hc => ?_)
        · have hw := hw.1 hc
          refine lv_iconst (pc := 39) (v := 0) hx hb d_IS_isPrimeNumber_39 (by decide) ?_
          exact z_zret hx hb hr hlocks hK hT hZ hS ⟨hw.1, ⟨hw.2, rfl, rfl⟩⟩ d_IS_isPrimeNumber_40
        · have hw := hw.2 hc
          refine lv_iconst (pc := 35) (v := 1) hx hb d_IS_isPrimeNumber_35 (by decide) ?_
          refine lv_goto (pc := 36) (tgt := 40) hx hb d_IS_isPrimeNumber_36 (by decide) ?_
          exact z_zret hx hb hr hlocks hK hT hZ hS ⟨hw.1, ⟨hw.2, rfl, rfl⟩⟩ d_IS_isPrimeNumber_40
      · have hw := hw.2 hc
        refine lv_lload_n (pc := 12) hx hb d_IS_isPrimeNumber_12 rfl (lv_at hl 0 rfl) ?_
        refine lv_lload_n (pc := 13) hx hb d_IS_isPrimeNumber_13 rfl (lv_at hl 1 rfl) ?_
        obtain ⟨hc, hw⟩ := hw
        refine lv_lrem (pc := 14) hx hb d_IS_isPrimeNumber_14 hc ?_
        refine lv_lconst (pc := 15) (v := 0) hx hb d_IS_isPrimeNumber_15 (by decide) ?_
        refine z_lc_ne (pc := 16) (tgt := 22) hx hb d_IS_isPrimeNumber_16 d_IS_isPrimeNumber_17 (by decide) (fun hc => ?_) (fun hc => ?_)
        · have hw := hw.1 hc
          refine lv_lload_n (pc := 22) hx hb d_IS_isPrimeNumber_22 rfl (lv_at hl 1 rfl) ?_
          refine lv_lconst (pc := 23) (v := 1) hx hb d_IS_isPrimeNumber_23 (by decide) ?_
          refine lv_ladd (pc := 24) hx hb d_IS_isPrimeNumber_24 ?_
          refine lv_topl (fun x1 hx1 => ?_)
          have hw := hw x1 hx1
          refine lv_lstore_n (pc := 25) (lv' := [(2, .long x1), (0, .long a0)]) hx hb d_IS_isPrimeNumber_25 rfl hl (by decide) rfl (fun ls hl => ?_)
          refine lv_goto (pc := 26) (tgt := 4) hx hb d_IS_isPrimeNumber_26 (by decide) ?_
          exact ih4 x1 _ _ _ hZ hS (lv_sub hl [1, 0] rfl) hw
        · have hw := hw.2 hc
          refine lv_iconst (pc := 20) (v := 0) hx hb d_IS_isPrimeNumber_20 (by decide) ?_
          exact z_zret hx hb hr hlocks hK hT hZ hS ⟨hw.1, ⟨hw.2, rfl, rfl⟩⟩ d_IS_isPrimeNumber_21
  unfold w_IS_isPrimeNumber at hw
  refine lv_ldc2 (pc := 0) (v := 2) hx hb hown (hta _ wd691) d_IS_isPrimeNumber_0 ?_
  refine lv_lstore_n (pc := 3) (lv' := [(2, .long (2 : Int64)), (0, .long a0)]) hx hb d_IS_isPrimeNumber_3 rfl hl (by decide) rfl (fun ls hl => ?_)
  obtain ⟨n, hw⟩ := hw
  exact lp4  n (2 : Int64) _ _ _ hZ hS (lv_sub hl [1, 0] rfl) hw
theorem zg_IS_38 {p : Program} {l : Launch} {e : Env} {R : Room} {s : State} {m : MethodId} {args : Array Value} {below : List Frame} {meth : Method} {c : Code} {H : Heap} {locs : List Loc} {cells slots : Nat} {Q : State → Prop} {cc : ByteArray} {pc : Nat} {ls : Array Slot} {rest : List Value} {G : zG} {b : Nat} {M : zM} {N : zN} (hx : p.tables.exec = Jvm.exec) (hb : c.code = cc) (hta : ∀ w ∈ zall, w.before args s = true) (hown : s.vm.findClass R_IS = some m.cls) (hK : va_K G.1 zCl (zty G) s) (hZ : va_P G.1 zCl (zws G b M N) H) (hdg : decode cc pc = .ok (.getfield 38, 3)) (kk : W p l e R s m args below meth c H locs cells slots Q (F0 m (pc + 3) ls (.ref (b + 89) :: rest))) : W p l e R s m args below meth c H locs cells slots Q (F0 m pc ls (.ref (b + 0) :: rest)) :=
  va_get (D := G.1) (ci := 5) (v := .ref (b + 89)) (C := R_IS) (T := T_IS) (N := 7) hx hb hta hin_IS hown hK hZ 0 zo_IS rfl 6 (by decide) (hta _ wd194) (fun _ h9 => h9) rfl hdg kk
theorem d_IS_prime_0 : decode prog_1_method_18_code 0 = .ok (.iload_n 1, 1) := by decide +kernel
theorem d_IS_prime_1 : decode prog_1_method_18_code 1 = .ok (.invokestatic 41, 3) := by decide +kernel
theorem d_IS_prime_4 : decode prog_1_method_18_code 4 = .ok (.aload_n 0, 1) := by decide +kernel
theorem d_IS_prime_5 : decode prog_1_method_18_code 5 = .ok (.getfield 11, 3) := by decide +kernel
theorem d_IS_prime_8 : decode prog_1_method_18_code 8 = .ok (.iload_n 1, 1) := by decide +kernel
theorem d_IS_prime_9 : decode prog_1_method_18_code 9 = .ok (.aaload, 1) := by decide +kernel
theorem d_IS_prime_10 : decode prog_1_method_18_code 10 = .ok (.astore_n 2, 1) := by decide +kernel
theorem d_IS_prime_11 : decode prog_1_method_18_code 11 = .ok (.aload_n 2, 1) := by decide +kernel
theorem d_IS_prime_12 : decode prog_1_method_18_code 12 = .ok (.invokestatic 53, 3) := by decide +kernel
theorem d_IS_prime_15 : decode prog_1_method_18_code 15 = .ok (.iconst 1, 1) := by decide +kernel
theorem d_IS_prime_16 : decode prog_1_method_18_code 16 = .ok (.if_icmp .ge 25, 3) := by decide +kernel
theorem d_IS_prime_19 : decode prog_1_method_18_code 19 = .ok (.aload_n 2, 1) := by decide +kernel
theorem d_IS_prime_20 : decode prog_1_method_18_code 20 = .ok (.iconst 0, 1) := by decide +kernel
theorem d_IS_prime_21 : decode prog_1_method_18_code 21 = .ok (.laload, 1) := by decide +kernel
theorem d_IS_prime_22 : decode prog_1_method_18_code 22 = .ok (.lconst 0, 1) := by decide +kernel
theorem d_IS_prime_23 : decode prog_1_method_18_code 23 = .ok (.lcmp, 1) := by decide +kernel
theorem d_IS_prime_24 : decode prog_1_method_18_code 24 = .ok (.ifCond .ge 10, 3) := by decide +kernel
theorem d_IS_prime_27 : decode prog_1_method_18_code 27 = .ok (.aload_n 2, 1) := by decide +kernel
theorem d_IS_prime_28 : decode prog_1_method_18_code 28 = .ok (.iconst 0, 1) := by decide +kernel
theorem d_IS_prime_29 : decode prog_1_method_18_code 29 = .ok (.laload, 1) := by decide +kernel
theorem d_IS_prime_30 : decode prog_1_method_18_code 30 = .ok (.lneg, 1) := by decide +kernel
theorem d_IS_prime_31 : decode prog_1_method_18_code 31 = .ok (.goto 6, 3) := by decide +kernel
theorem d_IS_prime_34 : decode prog_1_method_18_code 34 = .ok (.aload_n 2, 1) := by decide +kernel
theorem d_IS_prime_35 : decode prog_1_method_18_code 35 = .ok (.iconst 0, 1) := by decide +kernel
theorem d_IS_prime_36 : decode prog_1_method_18_code 36 = .ok (.laload, 1) := by decide +kernel
theorem d_IS_prime_37 : decode prog_1_method_18_code 37 = .ok (.invokestatic 126, 3) := by decide +kernel
theorem d_IS_prime_40 : decode prog_1_method_18_code 40 = .ok (.ireturn, 1) := by decide +kernel
theorem d_IS_prime_41 : decode prog_1_method_18_code 41 = .ok (.aload_n 2, 1) := by decide +kernel
theorem d_IS_prime_42 : decode prog_1_method_18_code 42 = .ok (.invokestatic 93, 3) := by decide +kernel
theorem d_IS_prime_45 : decode prog_1_method_18_code 45 = .ok (.lconst 1, 1) := by decide +kernel
theorem d_IS_prime_46 : decode prog_1_method_18_code 46 = .ok (.lcmp, 1) := by decide +kernel
theorem d_IS_prime_47 : decode prog_1_method_18_code 47 = .ok (.ifCond .eq 5, 3) := by decide +kernel
theorem d_IS_prime_50 : decode prog_1_method_18_code 50 = .ok (.iconst 0, 1) := by decide +kernel
theorem d_IS_prime_51 : decode prog_1_method_18_code 51 = .ok (.ireturn, 1) := by decide +kernel
theorem d_IS_prime_52 : decode prog_1_method_18_code 52 = .ok (.aload_n 0, 1) := by decide +kernel
theorem d_IS_prime_53 : decode prog_1_method_18_code 53 = .ok (.getfield 27, 3) := by decide +kernel
theorem d_IS_prime_56 : decode prog_1_method_18_code 56 = .ok (.aload_n 2, 1) := by decide +kernel
theorem d_IS_prime_57 : decode prog_1_method_18_code 57 = .ok (.aload_n 0, 1) := by decide +kernel
theorem d_IS_prime_58 : decode prog_1_method_18_code 58 = .ok (.getfield 38, 3) := by decide +kernel
theorem d_IS_prime_61 : decode prog_1_method_18_code 61 = .ok (.invokevirtual 97, 3) := by decide +kernel
theorem d_IS_prime_64 : decode prog_1_method_18_code 64 = .ok (.aload_n 0, 1) := by decide +kernel
theorem d_IS_prime_65 : decode prog_1_method_18_code 65 = .ok (.getfield 38, 3) := by decide +kernel
theorem d_IS_prime_68 : decode prog_1_method_18_code 68 = .ok (.getfield 101, 3) := by decide +kernel
theorem d_IS_prime_71 : decode prog_1_method_18_code 71 = .ok (.iconst 1, 1) := by decide +kernel
theorem d_IS_prime_72 : decode prog_1_method_18_code 72 = .ok (.if_icmp .ne 20, 3) := by decide +kernel
theorem d_IS_prime_75 : decode prog_1_method_18_code 75 = .ok (.aload_n 0, 1) := by decide +kernel
theorem d_IS_prime_76 : decode prog_1_method_18_code 76 = .ok (.getfield 38, 3) := by decide +kernel
theorem d_IS_prime_79 : decode prog_1_method_18_code 79 = .ok (.getfield 112, 3) := by decide +kernel
theorem d_IS_prime_82 : decode prog_1_method_18_code 82 = .ok (.iconst 0, 1) := by decide +kernel
theorem d_IS_prime_83 : decode prog_1_method_18_code 83 = .ok (.iaload, 1) := by decide +kernel
theorem d_IS_prime_84 : decode prog_1_method_18_code 84 = .ok (.iconst 1, 1) := by decide +kernel
theorem d_IS_prime_85 : decode prog_1_method_18_code 85 = .ok (.if_icmp .ne 7, 3) := by decide +kernel
theorem d_IS_prime_88 : decode prog_1_method_18_code 88 = .ok (.iconst 1, 1) := by decide +kernel
theorem d_IS_prime_89 : decode prog_1_method_18_code 89 = .ok (.goto 4, 3) := by decide +kernel
theorem d_IS_prime_92 : decode prog_1_method_18_code 92 = .ok (.iconst 0, 1) := by decide +kernel
theorem d_IS_prime_93 : decode prog_1_method_18_code 93 = .ok (.ireturn, 1) := by decide +kernel
def J_IS_prime_37 (P : Int32 → zM → zN → Prop) (X : Nat → zM → zN → Prop) (t0 : Int64) (M : zM) (N : zN) : Prop := w_IS_isPrimeNumber t0  (fun r15 => narrow .boolean (.int r15) = .int r15 ∧ P r15 M N)
def w_IS_prime (a1 : Int32) (M : zM) (N : zN) (P : Int32 → zM → zN → Prop) (X : Nat → zM → zN → Prop) : Prop := w_IS_requireRegister a1  (vp_in a1 (zgn 1) ∧ w_Ro_degreeOf (1 + 1 + a1.toNatClampNeg) M (fun r4 => ((1 : Int32) ≤ r4 → w_Ro_contentOf (1 + 1 + a1.toNatClampNeg) M (fun r7 => (r7 = (1 : Int64) → w_Sp_takeApart (1 + 1 + a1.toNatClampNeg) 89 M N (fun M11 N12 => (¬ (N12 89 2) = (1 : Int32) → narrow .boolean (.int (0 : Int32)) = .int (0 : Int32) ∧ P (0 : Int32) M11 N12) ∧ ((N12 89 2) = (1 : Int32) → vp_in (0 : Int32) (zint (89 + 9)) ∧ (¬ (N12 (89 + 9) (0 : Int32).toNatClampNeg) = (1 : Int32) → narrow .boolean (.int (0 : Int32)) = .int (0 : Int32) ∧ P (0 : Int32) M11 N12) ∧ ((N12 (89 + 9) (0 : Int32).toNatClampNeg) = (1 : Int32) → narrow .boolean (.int (1 : Int32)) = .int (1 : Int32) ∧ P (1 : Int32) M11 N12)))) ∧ (¬ r7 = (1 : Int64) → narrow .boolean (.int (0 : Int32)) = .int (0 : Int32) ∧ P (0 : Int32) M N))) ∧ (¬ (1 : Int32) ≤ r4 → vp_in (0 : Int32) (zlong (1 + 1 + a1.toNatClampNeg)) ∧ ((0 : Int64) ≤ (M (1 + 1 + a1.toNatClampNeg) (0 : Int32).toNatClampNeg) → vp_in (0 : Int32) (zlong (1 + 1 + a1.toNatClampNeg)) ∧ J_IS_prime_37 P X (M (1 + 1 + a1.toNatClampNeg) (0 : Int32).toNatClampNeg) M N) ∧ (¬ (0 : Int64) ≤ (M (1 + 1 + a1.toNatClampNeg) (0 : Int32).toNatClampNeg) → vp_in (0 : Int32) (zlong (1 + 1 + a1.toNatClampNeg)) ∧ J_IS_prime_37 P X (-(M (1 + 1 + a1.toNatClampNeg) (0 : Int32).toNatClampNeg)) M N)))) (fun k => X k M N)
def ws_IS_prime : List Cond := .code y_IS_prime prog_1_method_18_code 3 (Option.some Jvm.ClassFile.FieldType.boolean) :: zall
def rm_IS_prime : Room := { frames := 7, cells := 1, slots := 6, locals := 167 }
theorem hd_IS_prime : y_IS_prime.cls ≠ "java/lang/invoke/MethodHandle" ∧ y_IS_prime.cls ≠ "java/lang/invoke/VarHandle" ∧ (parseMethodDescriptor y_IS_prime.desc).map (fun d => d.parameters.length) = some 1 := by decide +kernel
set_option maxHeartbeats 4000000 in
set_option maxRecDepth 100000 in
theorem c_IS_prime (l : Launch) (hst : l.stackTraces = false) (G : zG) (b : Nat) (a1 : Int32) (M : zM) (N : zN) {P : Int32 → zM → zN → Prop} {X : Nat → zM → zN → Prop} (hw : w_IS_prime a1 M N P X) : vx_Met l y_IS_prime ws_IS_prime rm_IS_prime (zPc G b M N [.ref (b + 0), .int a1]) (zQi G b (fun r M' N' => P r M' N')) (zXC G b (fun k M' N' => X k M' N')) 1 6 (zA b) := by
  refine vx_ofW (cc := prog_1_method_18_code) (maxL := 3) (ret := (Option.some Jvm.ClassFile.FieldType.boolean)) (by decide) rfl ?_
  intro p e s m args below meth c s₁ B hml hno hv
  obtain ⟨rfl, hZ, hK, hT⟩ := hv
  have hx := B.exec
  have hb := B.bytes
  have hr := B.returns
  have hts := atoms_spec (ws := ws_IS_prime) B.pre
  have hta : ∀ w ∈ zall, w.before ([.ref (b + 0), .int a1] : List Value).toArray s = true := fun w h => hts w (List.mem_cons_of_mem _ h)
  have hown : s.vm.findClass R_IS = some m.cls := findClass_of_methodNamed B.named
  have hlocks := B.notSynchronized
  have hS : va_S (zA b) s.heap s.heap [] := va_S.rf
  have hl := lv_entry ([.ref (b + 0), .int a1]) (n := 3) (Nat.le_of_ble_eq_true rfl)
  rw [lg_entry_eq]
  generalize (lg_sl ([.ref (b + 0), .int a1]) ++ List.replicate (3 - (lg_sl ([.ref (b + 0), .int a1])).length) Slot.unset).toArray = ls at hl ⊢
  have hl : lv_has ls 3 [(0, .ref (b + 0)), (1, .int a1)] := hl
  have j37 : ∀ (t0 : Int64) (M : zM) (N : zN) (H : Heap) (ls : Array Slot) (locs : List Loc), va_P G.1 zCl (zws G b M N) H → va_S (zA b) s.heap H locs → lv_has ls 3 [] → J_IS_prime_37 P X t0 M N → W p l e (headSpec ws_IS_prime rm_IS_prime).room s m ([.ref (b + 0), .int a1] : List Value).toArray below meth c H locs 1 6 (vx_MQ below (zQi G b (fun r M' N' => P r M' N')) (zXC G b (fun k M' N' => X k M' N')) ([.ref (b + 0), .int a1] : List Value).toArray s 1 6 (zA b)) (F0 m 37 ls [.long t0]) := by
    intro t0 M N H ls locs hZ hS hl hw
    unfold J_IS_prime_37 at hw
    refine z_calli (pc := 37) (va_runS (As := [.long t0]) (rest := []) ⟨hx, hb, hml, hown, hts⟩ (c_IS_isPrimeNumber l G b t0 M N hw) (va_cwS 1 hts (z_good (zgS wd688 wd689 wd1 wd690)) rfl rfl rfl hd_IS_isPrimeNumber ⟨Nat.le_of_ble_eq_true rfl, Nat.le_of_ble_eq_true rfl⟩) (z_preS hZ hK hT hS) rfl rfl hl.1 rfl (lv_room (Nat.le_of_ble_eq_true rfl)) d_IS_prime_37 ⟨Nat.le_of_ble_eq_true rfl, Nat.le_of_ble_eq_true rfl⟩) hS (fun r15 M16 N17 H locs hw hZ hS => ?_)
    obtain ⟨hw, eM16, eN17⟩ := hw
    rw [eM16, eN17] at hZ
    refine W.widen (k := 1) (n := 6) (by decide) (by decide) ?_
    exact vx_ret (z_zret hx hb hr hlocks hK hT hZ hS hw d_IS_prime_40)
  unfold w_IS_prime at hw
  refine lv_iload_n (pc := 0) hx hb d_IS_prime_0 rfl (lv_at hl 1 rfl) ?_
  refine z_xcallv (pc := 1) (vx_runS (As := [.int a1]) (rest := []) ⟨hx, hb, hml, hown, hts⟩ (c_IS_requireRegister l hst G b a1 M N hw) (va_cwS 1 hts (z_good (zgS wd223 wd224 wd1 wd225)) rfl rfl rfl hd_IS_requireRegister ⟨Nat.le_of_ble_eq_true rfl, Nat.le_of_ble_eq_true rfl⟩) (z_preS hZ hK hT hS) rfl rfl hl.1 rfl (lv_room (Nat.le_of_ble_eq_true rfl)) d_IS_prime_1 ⟨Nat.le_of_ble_eq_true rfl, Nat.le_of_ble_eq_true rfl⟩) hS (fun k q ce M13 N14 H locs hw hZ hS h1 h2 h3 => ?_) (fun M2 N3 H locs hw hZ hS => ?_)
  · obtain ⟨hw, eM13, eN14⟩ := hw
    rw [eM13, eN14] at hZ
    exact z_xout hno hlocks hK hT hZ hS h1 h2 h3 hw (by decide) (by decide)
  · obtain ⟨hw, eM2, eN3⟩ := hw
    rw [eM2, eN3] at hZ
    refine lv_aload_n (pc := 4) hx hb d_IS_prime_4 rfl (lv_at hl 0 rfl) ?_
    refine zg_IS_11 (pc := 5) hx hb hta hown hK hZ d_IS_prime_5 ?_
    refine lv_iload_n (pc := 8) hx hb d_IS_prime_8 rfl (lv_at hl 1 rfl) ?_
    obtain ⟨hc, hw⟩ := hw
    refine z_aald (pc := 9) hx hb hK hZ hc d_IS_prime_9 ?_
    refine lv_astore_n (pc := 10) (lv' := [(2, .ref (b + (1 + 1 + a1.toNatClampNeg))), (0, .ref (b + 0)), (1, .int a1)]) hx hb d_IS_prime_10 rfl hl (by decide) rfl (fun ls hl => ?_)
    refine lv_aload_n (pc := 11) hx hb d_IS_prime_11 rfl (lv_at hl 0 rfl) ?_
    refine z_calli (pc := 12) (va_runS (As := [.ref (b + (1 + 1 + a1.toNatClampNeg))]) (rest := []) ⟨hx, hb, hml, hown, hts⟩ (c_Ro_degreeOf l G b (1 + 1 + a1.toNatClampNeg) M N hw) (va_cwS 1 hts (z_good (zgS wd311 wd312 wd13 wd313)) rfl rfl rfl hd_Ro_degreeOf ⟨Nat.le_of_ble_eq_true rfl, Nat.le_of_ble_eq_true rfl⟩) (z_preS hZ hK hT hS) rfl rfl hl.1 rfl (lv_room (Nat.le_of_ble_eq_true rfl)) d_IS_prime_12 ⟨Nat.le_of_ble_eq_true rfl, Nat.le_of_ble_eq_true rfl⟩) hS (fun r4 M5 N6 H locs hw hZ hS => ?_)
    obtain ⟨hw, eM5, eN6⟩ := hw
    rw [eM5, eN6] at hZ
    refine lv_iconst (pc := 15) (v := 1) hx hb d_IS_prime_15 (by decide) ?_
    refine lv_icmp_ge (pc := 16) (tgt := 41) hx hb d_IS_prime_16 (by decide) (fun hc => ?_) (fun hc => ?_)
    · have hw := hw.1 hc
      refine lv_aload_n (pc := 41) hx hb d_IS_prime_41 rfl (lv_at hl 0 rfl) ?_
      refine z_calll (pc := 42) (va_runS (As := [.ref (b + (1 + 1 + a1.toNatClampNeg))]) (rest := []) ⟨hx, hb, hml, hown, hts⟩ (c_Ro_contentOf l G b (1 + 1 + a1.toNatClampNeg) M N hw) (va_cwS 1 hts (z_good (zgS wd501 wd445 wd13 wd446)) rfl rfl rfl hd_Ro_contentOf ⟨Nat.le_of_ble_eq_true rfl, Nat.le_of_ble_eq_true rfl⟩) (z_preS hZ hK hT hS) rfl rfl hl.1 rfl (lv_room (Nat.le_of_ble_eq_true rfl)) d_IS_prime_42 ⟨Nat.le_of_ble_eq_true rfl, Nat.le_of_ble_eq_true rfl⟩) hS (fun r7 M8 N9 H locs hw hZ hS => ?_)
      obtain ⟨hw, eM8, eN9⟩ := hw
      rw [eM8, eN9] at hZ
      refine lv_lconst (pc := 45) (v := 1) hx hb d_IS_prime_45 (by decide) ?_
      refine z_lc_eq (pc := 46) (tgt := 52) hx hb d_IS_prime_46 d_IS_prime_47 (by decide) (fun hc => ?_) (fun hc => ?_)
      · have hw := hw.1 hc
        refine lv_aload_n (pc := 52) hx hb d_IS_prime_52 rfl (lv_at hl 1 rfl) ?_
        refine zg_IS_27 (pc := 53) hx hb hta hown hK hZ d_IS_prime_53 ?_
        refine lv_aload_n (pc := 56) hx hb d_IS_prime_56 rfl (lv_at hl 0 rfl) ?_
        refine lv_aload_n (pc := 57) hx hb d_IS_prime_57 rfl (lv_at hl 1 rfl) ?_
        refine zg_IS_38 (pc := 58) hx hb hta hown hK hZ d_IS_prime_58 ?_
        refine z_callv (pc := 61) (va_runV (C := R_Sp) (b := b + 9) (As := [.ref (b + (1 + 1 + a1.toNatClampNeg)), .ref (b + 89)]) (rest := []) ⟨hx, hb, hml, hown, hts⟩ (c_Sp_takeApart l G b (1 + 1 + a1.toNatClampNeg) 89 M N hw) (cwV 2 hts (z_good (zgV wd509 wd510 wd511 wd2 wd512)) rfl rfl rfl ⟨rfl, hd_Sp_takeApart⟩ ⟨Nat.le_of_ble_eq_true rfl, Nat.le_of_ble_eq_true rfl⟩) (z_preV zo_Sp rfl rfl hZ hK hT hS) rfl rfl hl.1 rfl (lv_room (Nat.le_of_ble_eq_true rfl)) d_IS_prime_61 ⟨Nat.le_of_ble_eq_true rfl, Nat.le_of_ble_eq_true rfl⟩) hS (fun M11 N12 H locs hw hZ hS => ?_)
        refine lv_aload_n (pc := 64) hx hb d_IS_prime_64 rfl (lv_at hl 1 rfl) ?_
        refine zg_IS_38 (pc := 65) hx hb hta hown hK hZ d_IS_prime_65 ?_
        refine zg_IS_101 (pc := 68) hx hb hta hown hK hZ (k := 89) (by unfold zfac; decide) d_IS_prime_68 ?_
        refine lv_iconst (pc := 71) (v := 1) hx hb d_IS_prime_71 (by decide) ?_
        refine lv_icmp_ne (pc := 72) (tgt := 92) hx hb d_IS_prime_72 (by decide) (fun hc => ?_) (fun hc => ?_)
        · have hw := hw.1 hc
          refine lv_iconst (pc := 92) (v := 0) hx hb d_IS_prime_92 (by decide) ?_
          refine W.widen (k := 1) (n := 6) (by decide) (by decide) ?_
          exact vx_ret (z_zret hx hb hr hlocks hK hT hZ hS hw d_IS_prime_93)
        · have hw := hw.2 hc
          refine lv_aload_n (pc := 75) hx hb d_IS_prime_75 rfl (lv_at hl 1 rfl) ?_
          refine zg_IS_38 (pc := 76) hx hb hta hown hK hZ d_IS_prime_76 ?_
          refine zg_IS_112 (pc := 79) hx hb hta hown hK hZ (k := 89) (by unfold zfac; decide) d_IS_prime_79 ?_
          refine lv_iconst (pc := 82) (v := 0) hx hb d_IS_prime_82 (by decide) ?_
          obtain ⟨hc, hw⟩ := hw
          refine z_iald (pc := 83) hx hb hK hZ hc d_IS_prime_83 ?_
          refine lv_iconst (pc := 84) (v := 1) hx hb d_IS_prime_84 (by decide) ?_
          refine lv_icmp_ne (pc := 85) (tgt := 92) hx hb d_IS_prime_85 (by decide) (fun hc => ?_) (fun hc => ?_)
          · have hw := hw.1 hc
            refine lv_iconst (pc := 92) (v := 0) hx hb d_IS_prime_92 (by decide) ?_
            refine W.widen (k := 1) (n := 6) (by decide) (by decide) ?_
            exact vx_ret (z_zret hx hb hr hlocks hK hT hZ hS hw d_IS_prime_93)
          · have hw := hw.2 hc
            refine lv_iconst (pc := 88) (v := 1) hx hb d_IS_prime_88 (by decide) ?_
            refine lv_goto (pc := 89) (tgt := 93) hx hb d_IS_prime_89 (by decide) ?_
            refine W.widen (k := 1) (n := 6) (by decide) (by decide) ?_
            exact vx_ret (z_zret hx hb hr hlocks hK hT hZ hS hw d_IS_prime_93)
      · have hw := hw.2 hc
        refine lv_iconst (pc := 50) (v := 0) hx hb d_IS_prime_50 (by decide) ?_
        refine W.widen (k := 1) (n := 6) (by decide) (by decide) ?_
        exact vx_ret (z_zret hx hb hr hlocks hK hT hZ hS hw d_IS_prime_51)
    · have hw := hw.2 hc
      refine lv_aload_n (pc := 19) hx hb d_IS_prime_19 rfl (lv_at hl 0 rfl) ?_
      refine lv_iconst (pc := 20) (v := 0) hx hb d_IS_prime_20 (by decide) ?_
      obtain ⟨hc, hw⟩ := hw
      refine z_lald (pc := 21) hx hb hK hZ hc d_IS_prime_21 ?_
      refine lv_lconst (pc := 22) (v := 0) hx hb d_IS_prime_22 (by decide) ?_
      refine z_lc_ge (pc := 23) (tgt := 34) hx hb d_IS_prime_23 d_IS_prime_24 (by decide) (fun hc => ?_) (fun hc => ?_)
      · have hw := hw.1 hc
        refine lv_aload_n (pc := 34) hx hb d_IS_prime_34 rfl (lv_at hl 0 rfl) ?_
        refine lv_iconst (pc := 35) (v := 0) hx hb d_IS_prime_35 (by decide) ?_
        obtain ⟨hc, hw⟩ := hw
        refine z_lald (pc := 36) hx hb hK hZ hc d_IS_prime_36 ?_
        exact j37 (M (1 + 1 + a1.toNatClampNeg) (0 : Int32).toNatClampNeg) M N _ _ _ hZ hS (lv_sub hl [] rfl) hw
      · have hw := hw.2 hc
        refine lv_aload_n (pc := 27) hx hb d_IS_prime_27 rfl (lv_at hl 0 rfl) ?_
        refine lv_iconst (pc := 28) (v := 0) hx hb d_IS_prime_28 (by decide) ?_
        obtain ⟨hc, hw⟩ := hw
        refine z_lald (pc := 29) hx hb hK hZ hc d_IS_prime_29 ?_
        refine lv_lneg (pc := 30) hx hb d_IS_prime_30 ?_
        refine lv_goto (pc := 31) (tgt := 37) hx hb d_IS_prime_31 (by decide) ?_
        exact j37 (-(M (1 + 1 + a1.toNatClampNeg) (0 : Int32).toNatClampNeg)) M N _ _ _ hZ hS (lv_sub hl [] rfl) hw
theorem xat_IS_requireModulus_14_w : ∀ w ∈ (vx_at0 R_IS 52 (zxn 2) ["java/lang/RuntimeException", "java/lang/Exception"]).filter goodWord, w ∈ lw_tbl := by decide +kernel
theorem xat_IS_requireModulus_14_g : ∀ w ∈ Cond.classLink R_IS 50 (zxn 2) :: Cond.initialized (zxn 2) :: vx_at0 R_IS 52 (zxn 2) ["java/lang/RuntimeException", "java/lang/Exception"], vx_ot w = true := by decide +kernel
theorem xat_IS_requireModulus_14_b : ∀ w ∈ (vx_at0 R_IS 52 (zxn 2) ["java/lang/RuntimeException", "java/lang/Exception"]).filter (fun w => !goodWord w), w ∈ Cond.castable (zxn 2) (zxn 2) :: zdec.map Cond.declares := by decide +kernel
theorem xat_IS_requireModulus_14 {args : Array Value} {s : State} (hta : ∀ w ∈ zall, w.before args s = true) (hn : zNw s) : ∀ w ∈ vx_at0 R_IS 52 (zxn 2) ["java/lang/RuntimeException", "java/lang/Exception"], w.before args s = true :=
  vx_hat (fun w h => hta w (List.mem_filter.mpr ⟨xat_IS_requireModulus_14_w w h, (List.mem_filter.mp h).2⟩)) xat_IS_requireModulus_14_b (fun w h => by
    rcases List.mem_cons.mp h with rfl | h
    · exact va_Nw.use rfl (hn.1 2 (by decide) (by decide))
    · obtain ⟨y, hy, rfl⟩ := List.mem_map.mp h
      exact va_Nw.use rfl (hn.2.1 y hy))
theorem d_IS_requireModulus_0 : decode prog_1_method_24_code 0 = .ok (.iload_n 0, 1) := by decide +kernel
theorem d_IS_requireModulus_1 : decode prog_1_method_24_code 1 = .ok (.bipush 13, 2) := by decide +kernel
theorem d_IS_requireModulus_3 : decode prog_1_method_24_code 3 = .ok (.if_icmp .gt 11, 3) := by decide +kernel
theorem d_IS_requireModulus_6 : decode prog_1_method_24_code 6 = .ok (.iload_n 0, 1) := by decide +kernel
theorem d_IS_requireModulus_7 : decode prog_1_method_24_code 7 = .ok (.i2l, 1) := by decide +kernel
theorem d_IS_requireModulus_8 : decode prog_1_method_24_code 8 = .ok (.invokestatic 126, 3) := by decide +kernel
theorem d_IS_requireModulus_11 : decode prog_1_method_24_code 11 = .ok (.ifCond .ne 11, 3) := by decide +kernel
theorem d_IS_requireModulus_14 : decode prog_1_method_24_code 14 = .ok (.new 50, 3) := by decide +kernel
theorem d_IS_requireModulus_17 : decode prog_1_method_24_code 17 = .ok (.dup, 1) := by decide +kernel
theorem d_IS_requireModulus_18 : decode prog_1_method_24_code 18 = .ok (.invokespecial 52, 3) := by decide +kernel
theorem d_IS_requireModulus_21 : decode prog_1_method_24_code 21 = .ok (.athrow, 1) := by decide +kernel
theorem d_IS_requireModulus_22 : decode prog_1_method_24_code 22 = .ok (.return_, 1) := by decide +kernel
def J_IS_requireModulus_14 (P : Prop) (X : Nat → Prop) : Prop := X 2
def w_IS_requireModulus (a0 : Int32) (P : Prop) (X : Nat → Prop) : Prop := ((13 : Int32) < a0 → J_IS_requireModulus_14 P X) ∧ (¬ (13 : Int32) < a0 → w_IS_isPrimeNumber a0.toInt64  (fun r1 => (¬ r1 = 0 → P) ∧ (r1 = 0 → J_IS_requireModulus_14 P X)))
def ws_IS_requireModulus : List Cond := .code y_IS_requireModulus prog_1_method_24_code 1 (Option.none : Option Jvm.ClassFile.FieldType) :: zall
def rm_IS_requireModulus : Room := { frames := 6, cells := 1, slots := 6, locals := 89 }
theorem hd_IS_requireModulus : y_IS_requireModulus.cls ≠ "java/lang/invoke/MethodHandle" ∧ y_IS_requireModulus.cls ≠ "java/lang/invoke/VarHandle" ∧ (parseMethodDescriptor y_IS_requireModulus.desc).map (fun d => d.parameters.length) = some 1 := by decide +kernel
set_option maxHeartbeats 4000000 in
set_option maxRecDepth 100000 in
theorem c_IS_requireModulus (l : Launch) (hst : l.stackTraces = false) (G : zG) (b : Nat) (a0 : Int32) (M : zM) (N : zN) {P : Prop} {X : Nat → Prop} (hw : w_IS_requireModulus a0  P X) : vx_Met l y_IS_requireModulus ws_IS_requireModulus rm_IS_requireModulus (zPc G b M N [.int a0]) (zQv G b (fun M' N' => P ∧ M' = M ∧ N' = N)) (zXC G b (fun k M' N' => X k ∧ M' = M ∧ N' = N)) 1 6 (zA b) := by
  refine vx_ofW (cc := prog_1_method_24_code) (maxL := 1) (ret := (Option.none : Option Jvm.ClassFile.FieldType)) (by decide) rfl ?_
  intro p e s m args below meth c s₁ B hml hno hv
  obtain ⟨rfl, hZ, hK, hT⟩ := hv
  have hx := B.exec
  have hb := B.bytes
  have hr := B.returns
  have hts := atoms_spec (ws := ws_IS_requireModulus) B.pre
  have hta : ∀ w ∈ zall, w.before ([.int a0] : List Value).toArray s = true := fun w h => hts w (List.mem_cons_of_mem _ h)
  have hown : s.vm.findClass R_IS = some m.cls := findClass_of_methodNamed B.named
  have hlocks := B.notSynchronized
  have hS : va_S (zA b) s.heap s.heap [] := va_S.rf
  have hl := lv_entry ([.int a0]) (n := 1) (Nat.le_of_ble_eq_true rfl)
  rw [lg_entry_eq]
  generalize (lg_sl ([.int a0]) ++ List.replicate (1 - (lg_sl ([.int a0])).length) Slot.unset).toArray = ls at hl ⊢
  have hl : lv_has ls 1 [(0, .int a0)] := hl
  have j14 : ∀  (H : Heap) (ls : Array Slot) (locs : List Loc), va_P G.1 zCl (zws G b M N) H → va_S (zA b) s.heap H locs → lv_has ls 1 [] → J_IS_requireModulus_14 P X → W p l e (headSpec ws_IS_requireModulus rm_IS_requireModulus).room s m ([.int a0] : List Value).toArray below meth c H locs 0 0 (vx_MQ below (zQv G b (fun M' N' => P ∧ M' = M ∧ N' = N)) (zXC G b (fun k M' N' => X k ∧ M' = M ∧ N' = N)) ([.int a0] : List Value).toArray s 1 6 (zA b)) (F0 m 14 ls []) := by
    intro  H ls locs hZ hS hl hw
    unfold J_IS_requireModulus_14 at hw
    exact z_xthrow (k := 2) (pc := 14) hx hb hst hown (hta _ wd296) (hta _ wd12) (xat_IS_requireModulus_14 hta hT.1) (by decide) xat_IS_requireModulus_14_g hno hlocks hK hT hZ hS (hl.1.trans hml.symm) d_IS_requireModulus_14 d_IS_requireModulus_17 d_IS_requireModulus_18 d_IS_requireModulus_21 (Nat.le_of_ble_eq_true rfl) (Nat.le_of_ble_eq_true rfl) (Nat.le_of_ble_eq_true rfl) (Nat.le_of_ble_eq_true rfl) ⟨hw, rfl, rfl⟩ (by decide) (by decide)
  unfold w_IS_requireModulus at hw
  refine lv_iload_n (pc := 0) hx hb d_IS_requireModulus_0 rfl (lv_at hl 0 rfl) ?_
  refine lv_bipush (pc := 1) (v := 13) hx hb d_IS_requireModulus_1 (by decide) ?_
  refine lv_icmp_gt (pc := 3) (tgt := 14) hx hb d_IS_requireModulus_3 (by decide) (fun hc => ?_) (fun hc => ?_)
  · have hw := hw.1 hc
    exact j14  _ _ _ hZ hS (lv_sub hl [] rfl) hw
  · have hw := hw.2 hc
    refine lv_iload_n (pc := 6) hx hb d_IS_requireModulus_6 rfl (lv_at hl 0 rfl) ?_
    refine lv_i2l (pc := 7) (v := a0.toInt64) hx hb d_IS_requireModulus_7 rfl ?_
    refine z_calli (pc := 8) (va_runS (As := [.long a0.toInt64]) (rest := []) ⟨hx, hb, hml, hown, hts⟩ (c_IS_isPrimeNumber l G b a0.toInt64 M N hw) (va_cwS 1 hts (z_good (zgS wd688 wd689 wd1 wd690)) rfl rfl rfl hd_IS_isPrimeNumber ⟨Nat.le_of_ble_eq_true rfl, Nat.le_of_ble_eq_true rfl⟩) (z_preS hZ hK hT hS) rfl rfl hl.1 rfl (lv_room (Nat.le_of_ble_eq_true rfl)) d_IS_requireModulus_8 ⟨Nat.le_of_ble_eq_true rfl, Nat.le_of_ble_eq_true rfl⟩) hS (fun r1 M2 N3 H locs hw hZ hS => ?_)
    obtain ⟨hw, eM2, eN3⟩ := hw
    rw [eM2, eN3] at hZ
    refine lv_if_ne (pc := 11) (tgt := 22) hx hb d_IS_requireModulus_11 (by decide) (fun hc => ?_) (fun hc => ?_)
    · have hw := hw.1 hc
      refine W.widen (k := 1) (n := 6) (by decide) (by decide) ?_
      exact vx_ret (z_vret hx hb hr hlocks hK hT hZ hS ⟨hw, rfl, rfl⟩ d_IS_requireModulus_22)
    · have hw := hw.2 hc
      exact j14  _ _ _ hZ hS (lv_sub hl [] rfl) hw
theorem zg_IS_133 {p : Program} {l : Launch} {e : Env} {R : Room} {s : State} {m : MethodId} {args : Array Value} {below : List Frame} {meth : Method} {c : Code} {H : Heap} {locs : List Loc} {cells slots : Nat} {Q : State → Prop} {cc : ByteArray} {pc : Nat} {ls : Array Slot} {rest : List Value} {G : zG} {b : Nat} {M : zM} {N : zN} (hx : p.tables.exec = Jvm.exec) (hb : c.code = cc) (hta : ∀ w ∈ zall, w.before args s = true) (hown : s.vm.findClass R_IS = some m.cls) (hK : va_K G.1 zCl (zty G) s) (hZ : va_P G.1 zCl (zws G b M N) H) (hdg : decode cc pc = .ok (.getfield 133, 3)) (kk : W p l e R s m args below meth c H locs cells slots Q (F0 m (pc + 3) ls (.ref (b + 17) :: rest))) : W p l e R s m args below meth c H locs cells slots Q (F0 m pc ls (.ref (b + 9) :: rest)) :=
  va_get (D := G.1) (ci := 4) (v := .ref (b + 17)) (C := R_Sp) (T := T_Sp) (N := 9) hx hb hta hin_Sp hown hK hZ 9 zo_Sp rfl 1 (by decide) (hta _ wd137) (fun _ h9 => h9) rfl hdg kk
theorem d_IS_modular_0 : decode prog_1_method_19_code 0 = .ok (.iload_n 1, 1) := by decide +kernel
theorem d_IS_modular_1 : decode prog_1_method_19_code 1 = .ok (.invokestatic 41, 3) := by decide +kernel
theorem d_IS_modular_4 : decode prog_1_method_19_code 4 = .ok (.iload_n 2, 1) := by decide +kernel
theorem d_IS_modular_5 : decode prog_1_method_19_code 5 = .ok (.invokestatic 130, 3) := by decide +kernel
theorem d_IS_modular_8 : decode prog_1_method_19_code 8 = .ok (.aload_n 0, 1) := by decide +kernel
theorem d_IS_modular_9 : decode prog_1_method_19_code 9 = .ok (.getfield 27, 3) := by decide +kernel
theorem d_IS_modular_12 : decode prog_1_method_19_code 12 = .ok (.getfield 133, 3) := by decide +kernel
theorem d_IS_modular_15 : decode prog_1_method_19_code 15 = .ok (.aload_n 0, 1) := by decide +kernel
theorem d_IS_modular_16 : decode prog_1_method_19_code 16 = .ok (.getfield 11, 3) := by decide +kernel
theorem d_IS_modular_19 : decode prog_1_method_19_code 19 = .ok (.iload_n 1, 1) := by decide +kernel
theorem d_IS_modular_20 : decode prog_1_method_19_code 20 = .ok (.aaload, 1) := by decide +kernel
theorem d_IS_modular_21 : decode prog_1_method_19_code 21 = .ok (.iload_n 2, 1) := by decide +kernel
theorem d_IS_modular_22 : decode prog_1_method_19_code 22 = .ok (.i2l, 1) := by decide +kernel
theorem d_IS_modular_23 : decode prog_1_method_19_code 23 = .ok (.invokevirtual 137, 3) := by decide +kernel
theorem d_IS_modular_26 : decode prog_1_method_19_code 26 = .ok (.ireturn, 1) := by decide +kernel
def w_IS_modular (a1 : Int32) (a2 : Int32) (M : zM) (N : zN) (P : Int32 → zM → zN → Prop) (X : Nat → zM → zN → Prop) : Prop := w_IS_requireRegister a1  (w_IS_requireModulus a2  (vp_in a1 (zgn 1) ∧ w_MP_countOf (1 + 1 + a1.toNatClampNeg) a2.toInt64 M N (fun r7 M8 N9 => P r7 M8 N9)) (fun k => X k M N)) (fun k => X k M N)
def ws_IS_modular : List Cond := .code y_IS_modular prog_1_method_19_code 3 (Option.some Jvm.ClassFile.FieldType.int) :: zall
def rm_IS_modular : Room := { frames := 7, cells := 2, slots := 12, locals := 110 }
theorem hd_IS_modular : y_IS_modular.cls ≠ "java/lang/invoke/MethodHandle" ∧ y_IS_modular.cls ≠ "java/lang/invoke/VarHandle" ∧ (parseMethodDescriptor y_IS_modular.desc).map (fun d => d.parameters.length) = some 2 := by decide +kernel
set_option maxHeartbeats 4000000 in
set_option maxRecDepth 100000 in
theorem c_IS_modular (l : Launch) (hst : l.stackTraces = false) (G : zG) (b : Nat) (a1 : Int32) (a2 : Int32) (M : zM) (N : zN) {P : Int32 → zM → zN → Prop} {X : Nat → zM → zN → Prop} (hw : w_IS_modular a1 a2 M N P X) : vx_Met l y_IS_modular ws_IS_modular rm_IS_modular (zPc G b M N [.ref (b + 0), .int a1, .int a2]) (zQi G b (fun r M' N' => P r M' N')) (zXC G b (fun k M' N' => X k M' N')) 2 12 (zA b) := by
  refine vx_ofW (cc := prog_1_method_19_code) (maxL := 3) (ret := (Option.some Jvm.ClassFile.FieldType.int)) (by decide) rfl ?_
  intro p e s m args below meth c s₁ B hml hno hv
  obtain ⟨rfl, hZ, hK, hT⟩ := hv
  have hx := B.exec
  have hb := B.bytes
  have hr := B.returns
  have hts := atoms_spec (ws := ws_IS_modular) B.pre
  have hta : ∀ w ∈ zall, w.before ([.ref (b + 0), .int a1, .int a2] : List Value).toArray s = true := fun w h => hts w (List.mem_cons_of_mem _ h)
  have hown : s.vm.findClass R_IS = some m.cls := findClass_of_methodNamed B.named
  have hlocks := B.notSynchronized
  have hS : va_S (zA b) s.heap s.heap [] := va_S.rf
  have hl := lv_entry ([.ref (b + 0), .int a1, .int a2]) (n := 3) (Nat.le_of_ble_eq_true rfl)
  rw [lg_entry_eq]
  generalize (lg_sl ([.ref (b + 0), .int a1, .int a2]) ++ List.replicate (3 - (lg_sl ([.ref (b + 0), .int a1, .int a2])).length) Slot.unset).toArray = ls at hl ⊢
  have hl : lv_has ls 3 [(0, .ref (b + 0)), (1, .int a1), (2, .int a2)] := hl
  unfold w_IS_modular at hw
  refine lv_iload_n (pc := 0) hx hb d_IS_modular_0 rfl (lv_at hl 1 rfl) ?_
  refine z_xcallv (pc := 1) (vx_runS (As := [.int a1]) (rest := []) ⟨hx, hb, hml, hown, hts⟩ (c_IS_requireRegister l hst G b a1 M N hw) (va_cwS 1 hts (z_good (zgS wd223 wd224 wd1 wd225)) rfl rfl rfl hd_IS_requireRegister ⟨Nat.le_of_ble_eq_true rfl, Nat.le_of_ble_eq_true rfl⟩) (z_preS hZ hK hT hS) rfl rfl hl.1 rfl (lv_room (Nat.le_of_ble_eq_true rfl)) d_IS_modular_1 ⟨Nat.le_of_ble_eq_true rfl, Nat.le_of_ble_eq_true rfl⟩) hS (fun k q ce M12 N13 H locs hw hZ hS h1 h2 h3 => ?_) (fun M2 N3 H locs hw hZ hS => ?_)
  · obtain ⟨hw, eM12, eN13⟩ := hw
    rw [eM12, eN13] at hZ
    exact z_xout hno hlocks hK hT hZ hS h1 h2 h3 hw (by decide) (by decide)
  · obtain ⟨hw, eM2, eN3⟩ := hw
    rw [eM2, eN3] at hZ
    refine lv_iload_n (pc := 4) hx hb d_IS_modular_4 rfl (lv_at hl 2 rfl) ?_
    refine z_xcallv (pc := 5) (vx_runS (As := [.int a2]) (rest := []) ⟨hx, hb, hml, hown, hts⟩ (c_IS_requireModulus l hst G b a2 M N hw) (va_cwS 1 hts (z_good (zgS wd699 wd700 wd1 wd701)) rfl rfl rfl hd_IS_requireModulus ⟨Nat.le_of_ble_eq_true rfl, Nat.le_of_ble_eq_true rfl⟩) (z_preS hZ hK hT hS) rfl rfl hl.1 rfl (lv_room (Nat.le_of_ble_eq_true rfl)) d_IS_modular_5 ⟨Nat.le_of_ble_eq_true rfl, Nat.le_of_ble_eq_true rfl⟩) hS (fun k q ce M10 N11 H locs hw hZ hS h1 h2 h3 => ?_) (fun M5 N6 H locs hw hZ hS => ?_)
    · obtain ⟨hw, eM10, eN11⟩ := hw
      rw [eM10, eN11] at hZ
      exact z_xout hno hlocks hK hT hZ hS h1 h2 h3 hw (by decide) (by decide)
    · obtain ⟨hw, eM5, eN6⟩ := hw
      rw [eM5, eN6] at hZ
      refine lv_aload_n (pc := 8) hx hb d_IS_modular_8 rfl (lv_at hl 0 rfl) ?_
      refine zg_IS_27 (pc := 9) hx hb hta hown hK hZ d_IS_modular_9 ?_
      refine zg_IS_133 (pc := 12) hx hb hta hown hK hZ d_IS_modular_12 ?_
      refine lv_aload_n (pc := 15) hx hb d_IS_modular_15 rfl (lv_at hl 0 rfl) ?_
      refine zg_IS_11 (pc := 16) hx hb hta hown hK hZ d_IS_modular_16 ?_
      refine lv_iload_n (pc := 19) hx hb d_IS_modular_19 rfl (lv_at hl 1 rfl) ?_
      obtain ⟨hc, hw⟩ := hw
      refine z_aald (pc := 20) hx hb hK hZ hc d_IS_modular_20 ?_
      refine lv_iload_n (pc := 21) hx hb d_IS_modular_21 rfl (lv_at hl 2 rfl) ?_
      refine lv_i2l (pc := 22) (v := a2.toInt64) hx hb d_IS_modular_22 rfl ?_
      refine z_calli (pc := 23) (va_runV (C := R_MP) (b := b + 17) (As := [.ref (b + (1 + 1 + a1.toNatClampNeg)), .long a2.toInt64]) (rest := []) ⟨hx, hb, hml, hown, hts⟩ (c_MP_countOf l G b (1 + 1 + a1.toNatClampNeg) a2.toInt64 M N hw) (cwV 2 hts (z_good (zgV wd702 wd536 wd537 wd4 wd538)) rfl rfl rfl ⟨rfl, hd_MP_countOf⟩ ⟨Nat.le_of_ble_eq_true rfl, Nat.le_of_ble_eq_true rfl⟩) (z_preV zo_MP rfl rfl hZ hK hT hS) rfl rfl hl.1 rfl (lv_room (Nat.le_of_ble_eq_true rfl)) d_IS_modular_23 ⟨Nat.le_of_ble_eq_true rfl, Nat.le_of_ble_eq_true rfl⟩) hS (fun r7 M8 N9 H locs hw hZ hS => ?_)
      refine W.widen (k := 2) (n := 12) (by decide) (by decide) ?_
      exact vx_ret (z_iret hx hb hr hlocks hK hT hZ hS hw d_IS_modular_26)
theorem d_IS_roots_0 : decode prog_1_method_20_code 0 = .ok (.iload_n 1, 1) := by decide +kernel
theorem d_IS_roots_1 : decode prog_1_method_20_code 1 = .ok (.invokestatic 41, 3) := by decide +kernel
theorem d_IS_roots_4 : decode prog_1_method_20_code 4 = .ok (.iload_n 2, 1) := by decide +kernel
theorem d_IS_roots_5 : decode prog_1_method_20_code 5 = .ok (.invokestatic 130, 3) := by decide +kernel
theorem d_IS_roots_8 : decode prog_1_method_20_code 8 = .ok (.iconst 0, 1) := by decide +kernel
theorem d_IS_roots_9 : decode prog_1_method_20_code 9 = .ok (.istore_n 3, 1) := by decide +kernel
theorem d_IS_roots_10 : decode prog_1_method_20_code 10 = .ok (.iconst 0, 1) := by decide +kernel
theorem d_IS_roots_11 : decode prog_1_method_20_code 11 = .ok (.istore 4, 2) := by decide +kernel
theorem d_IS_roots_13 : decode prog_1_method_20_code 13 = .ok (.iload 4, 2) := by decide +kernel
theorem d_IS_roots_15 : decode prog_1_method_20_code 15 = .ok (.iload_n 2, 1) := by decide +kernel
theorem d_IS_roots_16 : decode prog_1_method_20_code 16 = .ok (.if_icmp .ge 65, 3) := by decide +kernel
theorem d_IS_roots_19 : decode prog_1_method_20_code 19 = .ok (.lconst 0, 1) := by decide +kernel
theorem d_IS_roots_20 : decode prog_1_method_20_code 20 = .ok (.lstore 5, 2) := by decide +kernel
theorem d_IS_roots_22 : decode prog_1_method_20_code 22 = .ok (.bipush 7, 2) := by decide +kernel
theorem d_IS_roots_24 : decode prog_1_method_20_code 24 = .ok (.istore 7, 2) := by decide +kernel
theorem d_IS_roots_26 : decode prog_1_method_20_code 26 = .ok (.iload 7, 2) := by decide +kernel
theorem d_IS_roots_28 : decode prog_1_method_20_code 28 = .ok (.ifCond .lt 32, 3) := by decide +kernel
theorem d_IS_roots_31 : decode prog_1_method_20_code 31 = .ok (.lload 5, 2) := by decide +kernel
theorem d_IS_roots_33 : decode prog_1_method_20_code 33 = .ok (.iload 4, 2) := by decide +kernel
theorem d_IS_roots_35 : decode prog_1_method_20_code 35 = .ok (.i2l, 1) := by decide +kernel
theorem d_IS_roots_36 : decode prog_1_method_20_code 36 = .ok (.lmul, 1) := by decide +kernel
theorem d_IS_roots_37 : decode prog_1_method_20_code 37 = .ok (.aload_n 0, 1) := by decide +kernel
theorem d_IS_roots_38 : decode prog_1_method_20_code 38 = .ok (.getfield 11, 3) := by decide +kernel
theorem d_IS_roots_41 : decode prog_1_method_20_code 41 = .ok (.iload_n 1, 1) := by decide +kernel
theorem d_IS_roots_42 : decode prog_1_method_20_code 42 = .ok (.aaload, 1) := by decide +kernel
theorem d_IS_roots_43 : decode prog_1_method_20_code 43 = .ok (.iload 7, 2) := by decide +kernel
theorem d_IS_roots_45 : decode prog_1_method_20_code 45 = .ok (.laload, 1) := by decide +kernel
theorem d_IS_roots_46 : decode prog_1_method_20_code 46 = .ok (.ladd, 1) := by decide +kernel
theorem d_IS_roots_47 : decode prog_1_method_20_code 47 = .ok (.iload_n 2, 1) := by decide +kernel
theorem d_IS_roots_48 : decode prog_1_method_20_code 48 = .ok (.i2l, 1) := by decide +kernel
theorem d_IS_roots_49 : decode prog_1_method_20_code 49 = .ok (.invokestatic 143, 3) := by decide +kernel
theorem d_IS_roots_52 : decode prog_1_method_20_code 52 = .ok (.lstore 5, 2) := by decide +kernel
theorem d_IS_roots_54 : decode prog_1_method_20_code 54 = .ok (.iinc 7 (-1), 3) := by decide +kernel
theorem d_IS_roots_57 : decode prog_1_method_20_code 57 = .ok (.goto (-31), 3) := by decide +kernel
theorem d_IS_roots_60 : decode prog_1_method_20_code 60 = .ok (.iload_n 3, 1) := by decide +kernel
theorem d_IS_roots_61 : decode prog_1_method_20_code 61 = .ok (.lload 5, 2) := by decide +kernel
theorem d_IS_roots_63 : decode prog_1_method_20_code 63 = .ok (.lconst 0, 1) := by decide +kernel
theorem d_IS_roots_64 : decode prog_1_method_20_code 64 = .ok (.lcmp, 1) := by decide +kernel
theorem d_IS_roots_65 : decode prog_1_method_20_code 65 = .ok (.ifCond .ne 7, 3) := by decide +kernel
theorem d_IS_roots_68 : decode prog_1_method_20_code 68 = .ok (.iconst 1, 1) := by decide +kernel
theorem d_IS_roots_69 : decode prog_1_method_20_code 69 = .ok (.goto 4, 3) := by decide +kernel
theorem d_IS_roots_72 : decode prog_1_method_20_code 72 = .ok (.iconst 0, 1) := by decide +kernel
theorem d_IS_roots_73 : decode prog_1_method_20_code 73 = .ok (.iadd, 1) := by decide +kernel
theorem d_IS_roots_74 : decode prog_1_method_20_code 74 = .ok (.istore_n 3, 1) := by decide +kernel
theorem d_IS_roots_75 : decode prog_1_method_20_code 75 = .ok (.iinc 4 1, 3) := by decide +kernel
theorem d_IS_roots_78 : decode prog_1_method_20_code 78 = .ok (.goto (-65), 3) := by decide +kernel
theorem d_IS_roots_81 : decode prog_1_method_20_code 81 = .ok (.iload_n 3, 1) := by decide +kernel
theorem d_IS_roots_82 : decode prog_1_method_20_code 82 = .ok (.ireturn, 1) := by decide +kernel
def B_IS_roots_26 (P : Int32 → Prop) (X : Nat → Prop) (k13 : Int32 → Int32 → Prop) (a1 : Int32) (a2 : Int32) (v3 : Int32) (v4 : Int32) (M : zM) (k26 : Int64 → Int32 → Prop) (v5 : Int64) (v7 : Int32) : Prop := (v7 < 0 → (¬ v5 = (0 : Int64) → ∀ x11 : Int32, x11 = v3 + (0 : Int32) → k13 x11 (v4 + (1 : Int32))) ∧ (v5 = (0 : Int64) → ∀ x12 : Int32, x12 = v3 + (1 : Int32) → k13 x12 (v4 + (1 : Int32)))) ∧ (¬ v7 < 0 → vp_in a1 (zgn 1) ∧ vp_in v7 (zlong (1 + 1 + a1.toNatClampNeg)) ∧ w_Re_residue ((v5 * v4.toInt64) + (M (1 + 1 + a1.toNatClampNeg) v7.toNatClampNeg)) a2.toInt64  (fun r13 => k26 r13 (v7 + (-1 : Int32))))
def L_IS_roots_26 (P : Int32 → Prop) (X : Nat → Prop) (k13 : Int32 → Int32 → Prop) (a1 : Int32) (a2 : Int32) (v3 : Int32) (v4 : Int32) (M : zM) (n : Nat) : Int64 → Int32 → Prop := Nat.rec (fun _ _ => False) (fun _ k => B_IS_roots_26 P X k13 a1 a2 v3 v4 M k) n
def B_IS_roots_13 (P : Int32 → Prop) (X : Nat → Prop) (a1 : Int32) (a2 : Int32) (M : zM) (k13 : Int32 → Int32 → Prop) (v3 : Int32) (v4 : Int32) : Prop := (a2 ≤ v4 → P v3) ∧ (¬ a2 ≤ v4 → ∃ n, L_IS_roots_26 P X k13 a1 a2 v3 v4 M n (0 : Int64) (7 : Int32))
def L_IS_roots_13 (P : Int32 → Prop) (X : Nat → Prop) (a1 : Int32) (a2 : Int32) (M : zM) (n : Nat) : Int32 → Int32 → Prop := Nat.rec (fun _ _ => False) (fun _ k => B_IS_roots_13 P X a1 a2 M k) n
def w_IS_roots (a1 : Int32) (a2 : Int32) (M : zM) (P : Int32 → Prop) (X : Nat → Prop) : Prop := w_IS_requireRegister a1  (w_IS_requireModulus a2  (∃ n, L_IS_roots_13 P X a1 a2 M n (0 : Int32) (0 : Int32)) (fun k => X k)) (fun k => X k)
def ws_IS_roots : List Cond := .code y_IS_roots prog_1_method_20_code 8 (Option.some Jvm.ClassFile.FieldType.int) :: zall
def rm_IS_roots : Room := { frames := 7, cells := 2, slots := 12, locals := 109 }
theorem hd_IS_roots : y_IS_roots.cls ≠ "java/lang/invoke/MethodHandle" ∧ y_IS_roots.cls ≠ "java/lang/invoke/VarHandle" ∧ (parseMethodDescriptor y_IS_roots.desc).map (fun d => d.parameters.length) = some 2 := by decide +kernel
set_option maxHeartbeats 4000000 in
set_option maxRecDepth 100000 in
theorem c_IS_roots (l : Launch) (hst : l.stackTraces = false) (G : zG) (b : Nat) (a1 : Int32) (a2 : Int32) (M : zM) (N : zN) {P : Int32 → Prop} {X : Nat → Prop} (hw : w_IS_roots a1 a2 M P X) : vx_Met l y_IS_roots ws_IS_roots rm_IS_roots (zPc G b M N [.ref (b + 0), .int a1, .int a2]) (zQi G b (fun r M' N' => P r ∧ M' = M ∧ N' = N)) (zXC G b (fun k M' N' => X k ∧ M' = M ∧ N' = N)) 2 12 (zA b) := by
  refine vx_ofW (cc := prog_1_method_20_code) (maxL := 8) (ret := (Option.some Jvm.ClassFile.FieldType.int)) (by decide) rfl ?_
  intro p e s m args below meth c s₁ B hml hno hv
  obtain ⟨rfl, hZ, hK, hT⟩ := hv
  have hx := B.exec
  have hb := B.bytes
  have hr := B.returns
  have hts := atoms_spec (ws := ws_IS_roots) B.pre
  have hta : ∀ w ∈ zall, w.before ([.ref (b + 0), .int a1, .int a2] : List Value).toArray s = true := fun w h => hts w (List.mem_cons_of_mem _ h)
  have hown : s.vm.findClass R_IS = some m.cls := findClass_of_methodNamed B.named
  have hlocks := B.notSynchronized
  have hS : va_S (zA b) s.heap s.heap [] := va_S.rf
  have hl := lv_entry ([.ref (b + 0), .int a1, .int a2]) (n := 8) (Nat.le_of_ble_eq_true rfl)
  rw [lg_entry_eq]
  generalize (lg_sl ([.ref (b + 0), .int a1, .int a2]) ++ List.replicate (8 - (lg_sl ([.ref (b + 0), .int a1, .int a2])).length) Slot.unset).toArray = ls at hl ⊢
  have hl : lv_has ls 8 [(0, .ref (b + 0)), (1, .int a1), (2, .int a2)] := hl
  have lp13 : ∀ (n : Nat) (v3 : Int32) (v4 : Int32) (H : Heap) (ls : Array Slot) (locs : List Loc), va_P G.1 zCl (zws G b M N) H → va_S (zA b) s.heap H locs → lv_has ls 8 [(0, .ref (b + 0)), (1, .int a1), (2, .int a2), (3, .int v3), (4, .int v4)] → L_IS_roots_13 P X a1 a2 M n v3 v4 → W p l e (headSpec ws_IS_roots rm_IS_roots).room s m ([.ref (b + 0), .int a1, .int a2] : List Value).toArray below meth c H locs 2 12 (vx_MQ below (zQi G b (fun r M' N' => P r ∧ M' = M ∧ N' = N)) (zXC G b (fun k M' N' => X k ∧ M' = M ∧ N' = N)) ([.ref (b + 0), .int a1, .int a2] : List Value).toArray s 2 12 (zA b)) (F0 m 13 ls []) := by
    intro  n
    induction n with
    | zero => intro v3 v4 H ls locs hZ hS hl hw; exact False.elim hw
    | succ n13 ih13 =>
      have lp26 : ∀ (v3 : Int32) (v4 : Int32) (n : Nat) (v5 : Int64) (v7 : Int32) (H : Heap) (ls : Array Slot) (locs : List Loc), va_P G.1 zCl (zws G b M N) H → va_S (zA b) s.heap H locs → lv_has ls 8 [(0, .ref (b + 0)), (1, .int a1), (2, .int a2), (3, .int v3), (4, .int v4), (5, .long v5), (7, .int v7)] → L_IS_roots_26 P X (L_IS_roots_13 P X a1 a2 M n13) a1 a2 v3 v4 M n v5 v7 → W p l e (headSpec ws_IS_roots rm_IS_roots).room s m ([.ref (b + 0), .int a1, .int a2] : List Value).toArray below meth c H locs 2 12 (vx_MQ below (zQi G b (fun r M' N' => P r ∧ M' = M ∧ N' = N)) (zXC G b (fun k M' N' => X k ∧ M' = M ∧ N' = N)) ([.ref (b + 0), .int a1, .int a2] : List Value).toArray s 2 12 (zA b)) (F0 m 26 ls []) := by
        intro v3 v4 n
        induction n with
        | zero => intro v5 v7 H ls locs hZ hS hl hw; exact False.elim hw
        | succ n26 ih26 =>
          intro v5 v7 H ls locs hZ hS hl hw
          have hw : B_IS_roots_26 P X (L_IS_roots_13 P X a1 a2 M n13) a1 a2 v3 v4 M (L_IS_roots_26 P X (L_IS_roots_13 P X a1 a2 M n13) a1 a2 v3 v4 M n26) v5 v7 := hw
          unfold B_IS_roots_26 at hw
          refine lv_iload (pc := 26) hx hb d_IS_roots_26 (lv_at hl 6 rfl) ?_
          refine lv_if_lt (pc := 28) (tgt := 60) hx hb d_IS_roots_28 (by decide) (fun hc => ?_) (fun hc => ?_)
          · have hw := hw.1 hc
            refine lv_iload_n (pc := 60) hx hb d_IS_roots_60 rfl (lv_at hl 3 rfl) ?_
            refine lv_lload (pc := 61) hx hb d_IS_roots_61 (lv_at hl 5 rfl) ?_
            refine lv_lconst (pc := 63) (v := 0) hx hb d_IS_roots_63 (by decide) ?_
            refine z_lc_ne (pc := 64) (tgt := 72) hx hb d_IS_roots_64 d_IS_roots_65 (by decide) (fun hc => ?_) (fun hc => ?_)
            · have hw := hw.1 hc
              refine lv_iconst (pc := 72) (v := 0) hx hb d_IS_roots_72 (by decide) ?_
              refine lv_iadd (pc := 73) hx hb d_IS_roots_73 ?_
              refine lv_topi (fun x11 hx11 => ?_)
              have hw := hw x11 hx11
              refine lv_istore_n (pc := 74) (lv' := [(3, .int x11), (0, .ref (b + 0)), (1, .int a1), (2, .int a2), (4, .int v4), (5, .long v5), (7, .int v7)]) hx hb d_IS_roots_74 rfl hl (by decide) rfl (fun ls hl => ?_)
              refine lv_iinc (pc := 75) (k := 4) (v := v4 + (1 : Int32)) (lv' := [(4, .int (v4 + (1 : Int32))), (3, .int x11), (0, .ref (b + 0)), (1, .int a1), (2, .int a2), (5, .long v5), (7, .int v7)]) hx hb d_IS_roots_75 hl rfl (by rfl) (by decide) rfl (fun ls hl => ?_)
              refine lv_goto (pc := 78) (tgt := 13) hx hb d_IS_roots_78 (by decide) ?_
              exact ih13 x11 (v4 + (1 : Int32)) _ _ _ hZ hS (lv_sub hl [2, 3, 4, 1, 0] rfl) hw
            · have hw := hw.2 hc
              refine lv_iconst (pc := 68) (v := 1) hx hb d_IS_roots_68 (by decide) ?_
              refine lv_goto (pc := 69) (tgt := 73) hx hb d_IS_roots_69 (by decide) ?_
              refine lv_iadd (pc := 73) hx hb d_IS_roots_73 ?_
              refine lv_topi (fun x12 hx12 => ?_)
              have hw := hw x12 hx12
              refine lv_istore_n (pc := 74) (lv' := [(3, .int x12), (0, .ref (b + 0)), (1, .int a1), (2, .int a2), (4, .int v4), (5, .long v5), (7, .int v7)]) hx hb d_IS_roots_74 rfl hl (by decide) rfl (fun ls hl => ?_)
              refine lv_iinc (pc := 75) (k := 4) (v := v4 + (1 : Int32)) (lv' := [(4, .int (v4 + (1 : Int32))), (3, .int x12), (0, .ref (b + 0)), (1, .int a1), (2, .int a2), (5, .long v5), (7, .int v7)]) hx hb d_IS_roots_75 hl rfl (by rfl) (by decide) rfl (fun ls hl => ?_)
              refine lv_goto (pc := 78) (tgt := 13) hx hb d_IS_roots_78 (by decide) ?_
              exact ih13 x12 (v4 + (1 : Int32)) _ _ _ hZ hS (lv_sub hl [2, 3, 4, 1, 0] rfl) hw
          · have hw := hw.2 hc
            refine lv_lload (pc := 31) hx hb d_IS_roots_31 (lv_at hl 5 rfl) ?_
            refine lv_iload (pc := 33) hx hb d_IS_roots_33 (lv_at hl 4 rfl) ?_
            refine lv_i2l (pc := 35) (v := v4.toInt64) hx hb d_IS_roots_35 rfl ?_
            refine lv_lmul (pc := 36) hx hb d_IS_roots_36 ?_
            refine lv_aload_n (pc := 37) hx hb d_IS_roots_37 rfl (lv_at hl 0 rfl) ?_
            refine zg_IS_11 (pc := 38) hx hb hta hown hK hZ d_IS_roots_38 ?_
            refine lv_iload_n (pc := 41) hx hb d_IS_roots_41 rfl (lv_at hl 1 rfl) ?_
            obtain ⟨hc, hw⟩ := hw
            refine z_aald (pc := 42) hx hb hK hZ hc d_IS_roots_42 ?_
            refine lv_iload (pc := 43) hx hb d_IS_roots_43 (lv_at hl 6 rfl) ?_
            obtain ⟨hc, hw⟩ := hw
            refine z_lald (pc := 45) hx hb hK hZ hc d_IS_roots_45 ?_
            refine lv_ladd (pc := 46) hx hb d_IS_roots_46 ?_
            refine lv_iload_n (pc := 47) hx hb d_IS_roots_47 rfl (lv_at hl 2 rfl) ?_
            refine lv_i2l (pc := 48) (v := a2.toInt64) hx hb d_IS_roots_48 rfl ?_
            refine z_calll (pc := 49) (va_runS (As := [.long ((v5 * v4.toInt64) + (M (1 + 1 + a1.toNatClampNeg) v7.toNatClampNeg)), .long a2.toInt64]) (rest := []) ⟨hx, hb, hml, hown, hts⟩ (c_Re_residue l G b ((v5 * v4.toInt64) + (M (1 + 1 + a1.toNatClampNeg) v7.toNatClampNeg)) a2.toInt64 M N hw) (va_cwS 2 hts (z_good (zgS wd710 wd466 wd18 wd467)) rfl rfl rfl hd_Re_residue ⟨Nat.le_of_ble_eq_true rfl, Nat.le_of_ble_eq_true rfl⟩) (z_preS hZ hK hT hS) rfl rfl hl.1 rfl (lv_room (Nat.le_of_ble_eq_true rfl)) d_IS_roots_49 ⟨Nat.le_of_ble_eq_true rfl, Nat.le_of_ble_eq_true rfl⟩) hS (fun r13 M14 N15 H locs hw hZ hS => ?_)
            obtain ⟨hw, eM14, eN15⟩ := hw
            rw [eM14, eN15] at hZ
            refine lv_lstore (pc := 52) (lv' := [(5, .long r13), (0, .ref (b + 0)), (1, .int a1), (2, .int a2), (3, .int v3), (4, .int v4), (7, .int v7)]) hx hb d_IS_roots_52 hl (by decide) rfl (fun ls hl => ?_)
            refine lv_iinc (pc := 54) (k := 6) (v := v7 + (-1 : Int32)) (lv' := [(7, .int (v7 + (-1 : Int32))), (5, .long r13), (0, .ref (b + 0)), (1, .int a1), (2, .int a2), (3, .int v3), (4, .int v4)]) hx hb d_IS_roots_54 hl rfl (by rfl) (by decide) rfl (fun ls hl => ?_)
            refine lv_goto (pc := 57) (tgt := 26) hx hb d_IS_roots_57 (by decide) ?_
            exact ih26 r13 (v7 + (-1 : Int32)) _ _ _ hZ hS (lv_sub hl [2, 3, 4, 5, 6, 1, 0] rfl) hw
      intro v3 v4 H ls locs hZ hS hl hw
      have hw : B_IS_roots_13 P X a1 a2 M (L_IS_roots_13 P X a1 a2 M n13) v3 v4 := hw
      unfold B_IS_roots_13 at hw
      refine lv_iload (pc := 13) hx hb d_IS_roots_13 (lv_at hl 4 rfl) ?_
      refine lv_iload_n (pc := 15) hx hb d_IS_roots_15 rfl (lv_at hl 2 rfl) ?_
      refine lv_icmp_ge (pc := 16) (tgt := 81) hx hb d_IS_roots_16 (by decide) (fun hc => ?_) (fun hc => ?_)
      · have hw := hw.1 hc
        refine lv_iload_n (pc := 81) hx hb d_IS_roots_81 rfl (lv_at hl 3 rfl) ?_
        refine W.widen (k := 2) (n := 12) (by decide) (by decide) ?_
        exact vx_ret (z_iret hx hb hr hlocks hK hT hZ hS ⟨hw, rfl, rfl⟩ d_IS_roots_82)
      · have hw := hw.2 hc
        refine lv_lconst (pc := 19) (v := 0) hx hb d_IS_roots_19 (by decide) ?_
        refine lv_lstore (pc := 20) (lv' := [(5, .long (0 : Int64)), (0, .ref (b + 0)), (1, .int a1), (2, .int a2), (3, .int v3), (4, .int v4)]) hx hb d_IS_roots_20 hl (by decide) rfl (fun ls hl => ?_)
        refine lv_bipush (pc := 22) (v := 7) hx hb d_IS_roots_22 (by decide) ?_
        refine lv_istore (pc := 24) (lv' := [(7, .int (7 : Int32)), (5, .long (0 : Int64)), (0, .ref (b + 0)), (1, .int a1), (2, .int a2), (3, .int v3), (4, .int v4)]) hx hb d_IS_roots_24 hl (by decide) rfl (fun ls hl => ?_)
        obtain ⟨n, hw⟩ := hw
        exact lp26 v3 v4 n (0 : Int64) (7 : Int32) _ _ _ hZ hS (lv_sub hl [2, 3, 4, 5, 6, 1, 0] rfl) hw
  unfold w_IS_roots at hw
  refine lv_iload_n (pc := 0) hx hb d_IS_roots_0 rfl (lv_at hl 1 rfl) ?_
  refine z_xcallv (pc := 1) (vx_runS (As := [.int a1]) (rest := []) ⟨hx, hb, hml, hown, hts⟩ (c_IS_requireRegister l hst G b a1 M N hw) (va_cwS 1 hts (z_good (zgS wd223 wd224 wd1 wd225)) rfl rfl rfl hd_IS_requireRegister ⟨Nat.le_of_ble_eq_true rfl, Nat.le_of_ble_eq_true rfl⟩) (z_preS hZ hK hT hS) rfl rfl hl.1 rfl (lv_room (Nat.le_of_ble_eq_true rfl)) d_IS_roots_1 ⟨Nat.le_of_ble_eq_true rfl, Nat.le_of_ble_eq_true rfl⟩) hS (fun k q ce M9 N10 H locs hw hZ hS h1 h2 h3 => ?_) (fun M2 N3 H locs hw hZ hS => ?_)
  · obtain ⟨hw, eM9, eN10⟩ := hw
    rw [eM9, eN10] at hZ
    exact z_xout hno hlocks hK hT hZ hS h1 h2 h3 ⟨hw, rfl, rfl⟩ (by decide) (by decide)
  · obtain ⟨hw, eM2, eN3⟩ := hw
    rw [eM2, eN3] at hZ
    refine lv_iload_n (pc := 4) hx hb d_IS_roots_4 rfl (lv_at hl 2 rfl) ?_
    refine z_xcallv (pc := 5) (vx_runS (As := [.int a2]) (rest := []) ⟨hx, hb, hml, hown, hts⟩ (c_IS_requireModulus l hst G b a2 M N hw) (va_cwS 1 hts (z_good (zgS wd699 wd700 wd1 wd701)) rfl rfl rfl hd_IS_requireModulus ⟨Nat.le_of_ble_eq_true rfl, Nat.le_of_ble_eq_true rfl⟩) (z_preS hZ hK hT hS) rfl rfl hl.1 rfl (lv_room (Nat.le_of_ble_eq_true rfl)) d_IS_roots_5 ⟨Nat.le_of_ble_eq_true rfl, Nat.le_of_ble_eq_true rfl⟩) hS (fun k q ce M7 N8 H locs hw hZ hS h1 h2 h3 => ?_) (fun M5 N6 H locs hw hZ hS => ?_)
    · obtain ⟨hw, eM7, eN8⟩ := hw
      rw [eM7, eN8] at hZ
      exact z_xout hno hlocks hK hT hZ hS h1 h2 h3 ⟨hw, rfl, rfl⟩ (by decide) (by decide)
    · obtain ⟨hw, eM5, eN6⟩ := hw
      rw [eM5, eN6] at hZ
      refine lv_iconst (pc := 8) (v := 0) hx hb d_IS_roots_8 (by decide) ?_
      refine lv_istore_n (pc := 9) (lv' := [(3, .int (0 : Int32)), (0, .ref (b + 0)), (1, .int a1), (2, .int a2)]) hx hb d_IS_roots_9 rfl hl (by decide) rfl (fun ls hl => ?_)
      refine lv_iconst (pc := 10) (v := 0) hx hb d_IS_roots_10 (by decide) ?_
      refine lv_istore (pc := 11) (lv' := [(4, .int (0 : Int32)), (3, .int (0 : Int32)), (0, .ref (b + 0)), (1, .int a1), (2, .int a2)]) hx hb d_IS_roots_11 hl (by decide) rfl (fun ls hl => ?_)
      obtain ⟨n, hw⟩ := hw
      exact lp13  n (0 : Int32) (0 : Int32) _ _ _ hZ hS (lv_sub hl [2, 3, 4, 1, 0] rfl) hw
theorem zg_Mo_78 {p : Program} {l : Launch} {e : Env} {R : Room} {s : State} {m : MethodId} {args : Array Value} {below : List Frame} {meth : Method} {c : Code} {H : Heap} {locs : List Loc} {cells slots : Nat} {Q : State → Prop} {cc : ByteArray} {pc : Nat} {ls : Array Slot} {rest : List Value} {G : zG} {b : Nat} {M : zM} {N : zN} (hx : p.tables.exec = Jvm.exec) (hb : c.code = cc) (hta : ∀ w ∈ zall, w.before args s = true) (hown : s.vm.findClass R_Mo = some m.cls) (hK : va_K G.1 zCl (zty G) s) (hZ : va_P G.1 zCl (zws G b M N) H) (hdg : decode cc pc = .ok (.getfield 78, 3)) (kk : W p l e R s m args below meth c H locs cells slots Q (F0 m (pc + 3) ls (.int (N 99 0) :: rest))) : W p l e R s m args below meth c H locs cells slots Q (F0 m pc ls (.ref (b + 99) :: rest)) :=
  va_get (D := G.1) (ci := 6) (v := .int (N 99 0)) (C := R_Mo) (T := T_Mo) (N := 23) hx hb hta hin_Mo hown hK hZ 99 zo_Mo rfl 0 (by decide) (hta _ wd727) (fun _ h9 => h9) rfl hdg kk
theorem d_Mo_thrown_0 : decode prog_10_method_2_code 0 = .ok (.aload_n 0, 1) := by decide +kernel
theorem d_Mo_thrown_1 : decode prog_10_method_2_code 1 = .ok (.getfield 78, 3) := by decide +kernel
theorem d_Mo_thrown_4 : decode prog_10_method_2_code 4 = .ok (.ireturn, 1) := by decide +kernel
def w_Mo_thrown  (N : zN) (P : Int32 → Prop) : Prop := P (N 99 0)
def ws_Mo_thrown : List Cond := .code y_Mo_thrown prog_10_method_2_code 1 (Option.some Jvm.ClassFile.FieldType.int) :: zall
def rm_Mo_thrown : Room := { frames := 0, cells := 0, slots := 0, locals := 0 }
theorem hd_Mo_thrown : y_Mo_thrown.cls ≠ "java/lang/invoke/MethodHandle" ∧ y_Mo_thrown.cls ≠ "java/lang/invoke/VarHandle" ∧ (parseMethodDescriptor y_Mo_thrown.desc).map (fun d => d.parameters.length) = some 0 := by decide +kernel
set_option maxHeartbeats 4000000 in
set_option maxRecDepth 100000 in
theorem c_Mo_thrown (l : Launch) (G : zG) (b : Nat)  (M : zM) (N : zN) {P : Int32 → Prop} (hw : w_Mo_thrown  N P) : Met l y_Mo_thrown ws_Mo_thrown rm_Mo_thrown (zPc G b M N [.ref (b + 99)]) (zQi G b (fun r M' N' => P r ∧ M' = M ∧ N' = N)) 0 0 (zA b) := by
  refine Met.ofW (cc := prog_10_method_2_code) (maxL := 1) (ret := (Option.some Jvm.ClassFile.FieldType.int)) (by decide) rfl ?_
  intro p e s m args below meth c s₁ B hml hv
  obtain ⟨rfl, hZ, hK, hT⟩ := hv
  have hx := B.exec
  have hb := B.bytes
  have hr := B.returns
  have hts := atoms_spec (ws := ws_Mo_thrown) B.pre
  have hta : ∀ w ∈ zall, w.before ([.ref (b + 99)] : List Value).toArray s = true := fun w h => hts w (List.mem_cons_of_mem _ h)
  have hown : s.vm.findClass R_Mo = some m.cls := findClass_of_methodNamed B.named
  have hlocks := B.notSynchronized
  have hS : va_S (zA b) s.heap s.heap [] := va_S.rf
  have hl := lv_entry ([.ref (b + 99)]) (n := 1) (Nat.le_of_ble_eq_true rfl)
  rw [lg_entry_eq]
  generalize (lg_sl ([.ref (b + 99)]) ++ List.replicate (1 - (lg_sl ([.ref (b + 99)])).length) Slot.unset).toArray = ls at hl ⊢
  have hl : lv_has ls 1 [(0, .ref (b + 99))] := hl
  unfold w_Mo_thrown at hw
  refine lv_aload_n (pc := 0) hx hb d_Mo_thrown_0 rfl (lv_at hl 0 rfl) ?_
  refine zg_Mo_78 (pc := 1) hx hb hta hown hK hZ d_Mo_thrown_1 ?_
  exact z_iret hx hb hr hlocks hK hT hZ hS ⟨hw, rfl, rfl⟩ d_Mo_thrown_4
theorem d_Mo_isRegister_0 : decode prog_10_method_3_code 0 = .ok (.iload_n 0, 1) := by decide +kernel
theorem d_Mo_isRegister_1 : decode prog_10_method_3_code 1 = .ok (.ifCond .lt 12, 3) := by decide +kernel
theorem d_Mo_isRegister_4 : decode prog_10_method_3_code 4 = .ok (.iload_n 0, 1) := by decide +kernel
theorem d_Mo_isRegister_5 : decode prog_10_method_3_code 5 = .ok (.iconst 4, 1) := by decide +kernel
theorem d_Mo_isRegister_6 : decode prog_10_method_3_code 6 = .ok (.if_icmp .ge 7, 3) := by decide +kernel
theorem d_Mo_isRegister_9 : decode prog_10_method_3_code 9 = .ok (.iconst 1, 1) := by decide +kernel
theorem d_Mo_isRegister_10 : decode prog_10_method_3_code 10 = .ok (.goto 4, 3) := by decide +kernel
theorem d_Mo_isRegister_13 : decode prog_10_method_3_code 13 = .ok (.iconst 0, 1) := by decide +kernel
theorem d_Mo_isRegister_14 : decode prog_10_method_3_code 14 = .ok (.ireturn, 1) := by decide +kernel
def w_Mo_isRegister (a0 : Int32) (P : Int32 → Prop) : Prop := (a0 < 0 → narrow .boolean (.int (0 : Int32)) = .int (0 : Int32) ∧ P (0 : Int32)) ∧ (¬ a0 < 0 → ((4 : Int32) ≤ a0 → narrow .boolean (.int (0 : Int32)) = .int (0 : Int32) ∧ P (0 : Int32)) ∧ (¬ (4 : Int32) ≤ a0 → narrow .boolean (.int (1 : Int32)) = .int (1 : Int32) ∧ P (1 : Int32)))
def ws_Mo_isRegister : List Cond := .code y_Mo_isRegister prog_10_method_3_code 1 (Option.some Jvm.ClassFile.FieldType.boolean) :: zall
def rm_Mo_isRegister : Room := { frames := 0, cells := 0, slots := 0, locals := 0 }
theorem hd_Mo_isRegister : y_Mo_isRegister.cls ≠ "java/lang/invoke/MethodHandle" ∧ y_Mo_isRegister.cls ≠ "java/lang/invoke/VarHandle" ∧ (parseMethodDescriptor y_Mo_isRegister.desc).map (fun d => d.parameters.length) = some 1 := by decide +kernel
set_option maxHeartbeats 4000000 in
set_option maxRecDepth 100000 in
theorem c_Mo_isRegister (l : Launch) (G : zG) (b : Nat) (a0 : Int32) (M : zM) (N : zN) {P : Int32 → Prop} (hw : w_Mo_isRegister a0  P) : Met l y_Mo_isRegister ws_Mo_isRegister rm_Mo_isRegister (zPc G b M N [.int a0]) (zQi G b (fun r M' N' => P r ∧ M' = M ∧ N' = N)) 0 0 (zA b) := by
  refine Met.ofW (cc := prog_10_method_3_code) (maxL := 1) (ret := (Option.some Jvm.ClassFile.FieldType.boolean)) (by decide) rfl ?_
  intro p e s m args below meth c s₁ B hml hv
  obtain ⟨rfl, hZ, hK, hT⟩ := hv
  have hx := B.exec
  have hb := B.bytes
  have hr := B.returns
  have hts := atoms_spec (ws := ws_Mo_isRegister) B.pre
  have hta : ∀ w ∈ zall, w.before ([.int a0] : List Value).toArray s = true := fun w h => hts w (List.mem_cons_of_mem _ h)
  have hown : s.vm.findClass R_Mo = some m.cls := findClass_of_methodNamed B.named
  have hlocks := B.notSynchronized
  have hS : va_S (zA b) s.heap s.heap [] := va_S.rf
  have hl := lv_entry ([.int a0]) (n := 1) (Nat.le_of_ble_eq_true rfl)
  rw [lg_entry_eq]
  generalize (lg_sl ([.int a0]) ++ List.replicate (1 - (lg_sl ([.int a0])).length) Slot.unset).toArray = ls at hl ⊢
  have hl : lv_has ls 1 [(0, .int a0)] := hl
  unfold w_Mo_isRegister at hw
  refine lv_iload_n (pc := 0) hx hb d_Mo_isRegister_0 rfl (lv_at hl 0 rfl) ?_
  refine lv_if_lt (pc := 1) (tgt := 13) hx hb d_Mo_isRegister_1 (by decide) (fun hc => ?_) (fun hc => ?_)
  · have hw := hw.1 hc
    refine lv_iconst (pc := 13) (v := 0) hx hb d_Mo_isRegister_13 (by decide) ?_
    exact z_zret hx hb hr hlocks hK hT hZ hS ⟨hw.1, ⟨hw.2, rfl, rfl⟩⟩ d_Mo_isRegister_14
  · have hw := hw.2 hc
    refine lv_iload_n (pc := 4) hx hb d_Mo_isRegister_4 rfl (lv_at hl 0 rfl) ?_
    refine lv_iconst (pc := 5) (v := 4) hx hb d_Mo_isRegister_5 (by decide) ?_
    refine lv_icmp_ge (pc := 6) (tgt := 13) hx hb d_Mo_isRegister_6 (by decide) (fun hc => ?_) (fun hc => ?_)
    · have hw := hw.1 hc
      refine lv_iconst (pc := 13) (v := 0) hx hb d_Mo_isRegister_13 (by decide) ?_
      exact z_zret hx hb hr hlocks hK hT hZ hS ⟨hw.1, ⟨hw.2, rfl, rfl⟩⟩ d_Mo_isRegister_14
    · have hw := hw.2 hc
      refine lv_iconst (pc := 9) (v := 1) hx hb d_Mo_isRegister_9 (by decide) ?_
      refine lv_goto (pc := 10) (tgt := 14) hx hb d_Mo_isRegister_10 (by decide) ?_
      exact z_zret hx hb hr hlocks hK hT hZ hS ⟨hw.1, ⟨hw.2, rfl, rfl⟩⟩ d_Mo_isRegister_14
theorem d_Mo_degreeOf_0 : decode prog_10_method_4_code 0 = .ok (.bipush 15, 2) := by decide +kernel
theorem d_Mo_degreeOf_2 : decode prog_10_method_4_code 2 = .ok (.istore_n 1, 1) := by decide +kernel
theorem d_Mo_degreeOf_3 : decode prog_10_method_4_code 3 = .ok (.iload_n 1, 1) := by decide +kernel
theorem d_Mo_degreeOf_4 : decode prog_10_method_4_code 4 = .ok (.ifCond .lt 17, 3) := by decide +kernel
theorem d_Mo_degreeOf_7 : decode prog_10_method_4_code 7 = .ok (.aload_n 0, 1) := by decide +kernel
theorem d_Mo_degreeOf_8 : decode prog_10_method_4_code 8 = .ok (.iload_n 1, 1) := by decide +kernel
theorem d_Mo_degreeOf_9 : decode prog_10_method_4_code 9 = .ok (.laload, 1) := by decide +kernel
theorem d_Mo_degreeOf_10 : decode prog_10_method_4_code 10 = .ok (.lconst 0, 1) := by decide +kernel
theorem d_Mo_degreeOf_11 : decode prog_10_method_4_code 11 = .ok (.lcmp, 1) := by decide +kernel
theorem d_Mo_degreeOf_12 : decode prog_10_method_4_code 12 = .ok (.ifCond .ne 9, 3) := by decide +kernel
theorem d_Mo_degreeOf_15 : decode prog_10_method_4_code 15 = .ok (.iinc 1 (-1), 3) := by decide +kernel
theorem d_Mo_degreeOf_18 : decode prog_10_method_4_code 18 = .ok (.goto (-15), 3) := by decide +kernel
theorem d_Mo_degreeOf_21 : decode prog_10_method_4_code 21 = .ok (.iload_n 1, 1) := by decide +kernel
theorem d_Mo_degreeOf_22 : decode prog_10_method_4_code 22 = .ok (.ireturn, 1) := by decide +kernel
def B_Mo_degreeOf_3 (P : Int32 → Prop) (a0 : Nat) (M : zM) (k3 : Int32 → Prop) (v1 : Int32) : Prop := (v1 < 0 → P v1) ∧ (¬ v1 < 0 → vp_in v1 (zlong a0) ∧ (¬ (M a0 v1.toNatClampNeg) = (0 : Int64) → P v1) ∧ ((M a0 v1.toNatClampNeg) = (0 : Int64) → k3 (v1 + (-1 : Int32))))
def L_Mo_degreeOf_3 (P : Int32 → Prop) (a0 : Nat) (M : zM) (n : Nat) : Int32 → Prop := Nat.rec (fun _ => False) (fun _ k => B_Mo_degreeOf_3 P a0 M k) n
def w_Mo_degreeOf (a0 : Nat) (M : zM) (P : Int32 → Prop) : Prop := ∃ n, L_Mo_degreeOf_3 P a0 M n (15 : Int32)
def ws_Mo_degreeOf : List Cond := .code y_Mo_degreeOf prog_10_method_4_code 2 (Option.some Jvm.ClassFile.FieldType.int) :: zall
def rm_Mo_degreeOf : Room := { frames := 0, cells := 0, slots := 0, locals := 0 }
theorem hd_Mo_degreeOf : y_Mo_degreeOf.cls ≠ "java/lang/invoke/MethodHandle" ∧ y_Mo_degreeOf.cls ≠ "java/lang/invoke/VarHandle" ∧ (parseMethodDescriptor y_Mo_degreeOf.desc).map (fun d => d.parameters.length) = some 1 := by decide +kernel
set_option maxHeartbeats 4000000 in
set_option maxRecDepth 100000 in
theorem c_Mo_degreeOf (l : Launch) (G : zG) (b : Nat) (a0 : Nat) (M : zM) (N : zN) {P : Int32 → Prop} (hw : w_Mo_degreeOf a0 M P) : Met l y_Mo_degreeOf ws_Mo_degreeOf rm_Mo_degreeOf (zPc G b M N [.ref (b + a0)]) (zQi G b (fun r M' N' => P r ∧ M' = M ∧ N' = N)) 0 0 (zA b) := by
  refine Met.ofW (cc := prog_10_method_4_code) (maxL := 2) (ret := (Option.some Jvm.ClassFile.FieldType.int)) (by decide) rfl ?_
  intro p e s m args below meth c s₁ B hml hv
  obtain ⟨rfl, hZ, hK, hT⟩ := hv
  have hx := B.exec
  have hb := B.bytes
  have hr := B.returns
  have hts := atoms_spec (ws := ws_Mo_degreeOf) B.pre
  have hta : ∀ w ∈ zall, w.before ([.ref (b + a0)] : List Value).toArray s = true := fun w h => hts w (List.mem_cons_of_mem _ h)
  have hown : s.vm.findClass R_Mo = some m.cls := findClass_of_methodNamed B.named
  have hlocks := B.notSynchronized
  have hS : va_S (zA b) s.heap s.heap [] := va_S.rf
  have hl := lv_entry ([.ref (b + a0)]) (n := 2) (Nat.le_of_ble_eq_true rfl)
  rw [lg_entry_eq]
  generalize (lg_sl ([.ref (b + a0)]) ++ List.replicate (2 - (lg_sl ([.ref (b + a0)])).length) Slot.unset).toArray = ls at hl ⊢
  have hl : lv_has ls 2 [(0, .ref (b + a0))] := hl
  have lp3 : ∀ (n : Nat) (v1 : Int32) (H : Heap) (ls : Array Slot) (locs : List Loc), va_P G.1 zCl (zws G b M N) H → va_S (zA b) s.heap H locs → lv_has ls 2 [(0, .ref (b + a0)), (1, .int v1)] → L_Mo_degreeOf_3 P a0 M n v1 → W p l e (headSpec ws_Mo_degreeOf rm_Mo_degreeOf).room s m ([.ref (b + a0)] : List Value).toArray below meth c H locs 0 0 (MQ below (zQi G b (fun r M' N' => P r ∧ M' = M ∧ N' = N)) ([.ref (b + a0)] : List Value).toArray s 0 0 (zA b)) (F0 m 3 ls []) := by
    intro  n
    induction n with
    | zero => intro v1 H ls locs hZ hS hl hw; exact False.elim hw
    | succ n3 ih3 =>
      intro v1 H ls locs hZ hS hl hw
      have hw : B_Mo_degreeOf_3 P a0 M (L_Mo_degreeOf_3 P a0 M n3) v1 := hw
      unfold B_Mo_degreeOf_3 at hw
      refine lv_iload_n (pc := 3) hx hb d_Mo_degreeOf_3 rfl (lv_at hl 1 rfl) ?_
      refine lv_if_lt (pc := 4) (tgt := 21) hx hb d_Mo_degreeOf_4 (by decide) (fun hc => ?_) (fun hc => ?_)
      · have hw := hw.1 hc
        refine lv_iload_n (pc := 21) hx hb d_Mo_degreeOf_21 rfl (lv_at hl 1 rfl) ?_
        exact z_iret hx hb hr hlocks hK hT hZ hS ⟨hw, rfl, rfl⟩ d_Mo_degreeOf_22
      · have hw := hw.2 hc
        refine lv_aload_n (pc := 7) hx hb d_Mo_degreeOf_7 rfl (lv_at hl 0 rfl) ?_
        refine lv_iload_n (pc := 8) hx hb d_Mo_degreeOf_8 rfl (lv_at hl 1 rfl) ?_
        obtain ⟨hc, hw⟩ := hw
        refine z_lald (pc := 9) hx hb hK hZ hc d_Mo_degreeOf_9 ?_
        refine lv_lconst (pc := 10) (v := 0) hx hb d_Mo_degreeOf_10 (by decide) ?_
        refine z_lc_ne (pc := 11) (tgt := 21) hx hb d_Mo_degreeOf_11 d_Mo_degreeOf_12 (by decide) (fun hc => ?_) (fun hc => ?_)
        · have hw := hw.1 hc
          refine lv_iload_n (pc := 21) hx hb d_Mo_degreeOf_21 rfl (lv_at hl 1 rfl) ?_
          exact z_iret hx hb hr hlocks hK hT hZ hS ⟨hw, rfl, rfl⟩ d_Mo_degreeOf_22
        · have hw := hw.2 hc
          refine lv_iinc (pc := 15) (k := 1) (v := v1 + (-1 : Int32)) (lv' := [(1, .int (v1 + (-1 : Int32))), (0, .ref (b + a0))]) hx hb d_Mo_degreeOf_15 hl rfl (by rfl) (by decide) rfl (fun ls hl => ?_)
          refine lv_goto (pc := 18) (tgt := 3) hx hb d_Mo_degreeOf_18 (by decide) ?_
          exact ih3 (v1 + (-1 : Int32)) _ _ _ hZ hS (lv_sub hl [1, 0] rfl) hw
  unfold w_Mo_degreeOf at hw
  refine lv_bipush (pc := 0) (v := 15) hx hb d_Mo_degreeOf_0 (by decide) ?_
  refine lv_istore_n (pc := 2) (lv' := [(1, .int (15 : Int32)), (0, .ref (b + a0))]) hx hb d_Mo_degreeOf_2 rfl hl (by decide) rfl (fun ls hl => ?_)
  obtain ⟨n, hw⟩ := hw
  exact lp3  n (15 : Int32) _ _ _ hZ hS (lv_sub hl [1, 0] rfl) hw
theorem d_Mo_copy_0 : decode prog_10_method_5_code 0 = .ok (.iconst 0, 1) := by decide +kernel
theorem d_Mo_copy_1 : decode prog_10_method_5_code 1 = .ok (.istore_n 2, 1) := by decide +kernel
theorem d_Mo_copy_2 : decode prog_10_method_5_code 2 = .ok (.iload_n 2, 1) := by decide +kernel
theorem d_Mo_copy_3 : decode prog_10_method_5_code 3 = .ok (.bipush 16, 2) := by decide +kernel
theorem d_Mo_copy_5 : decode prog_10_method_5_code 5 = .ok (.if_icmp .ge 15, 3) := by decide +kernel
theorem d_Mo_copy_8 : decode prog_10_method_5_code 8 = .ok (.aload_n 1, 1) := by decide +kernel
theorem d_Mo_copy_9 : decode prog_10_method_5_code 9 = .ok (.iload_n 2, 1) := by decide +kernel
theorem d_Mo_copy_10 : decode prog_10_method_5_code 10 = .ok (.aload_n 0, 1) := by decide +kernel
theorem d_Mo_copy_11 : decode prog_10_method_5_code 11 = .ok (.iload_n 2, 1) := by decide +kernel
theorem d_Mo_copy_12 : decode prog_10_method_5_code 12 = .ok (.laload, 1) := by decide +kernel
theorem d_Mo_copy_13 : decode prog_10_method_5_code 13 = .ok (.lastore, 1) := by decide +kernel
theorem d_Mo_copy_14 : decode prog_10_method_5_code 14 = .ok (.iinc 2 1, 3) := by decide +kernel
theorem d_Mo_copy_17 : decode prog_10_method_5_code 17 = .ok (.goto (-15), 3) := by decide +kernel
theorem d_Mo_copy_20 : decode prog_10_method_5_code 20 = .ok (.return_, 1) := by decide +kernel
def B_Mo_copy_2 (P : zM → Prop) (a0 : Nat) (a1 : Nat) (k2 : Int32 → zM → Prop) (v2 : Int32) (M : zM) : Prop := ((16 : Int32) ≤ v2 → P M) ∧ (¬ (16 : Int32) ≤ v2 → vp_in v2 (zlong a0) ∧ vp_in v2 (zlong a1) ∧ ∀ M1 : zM, M1 = zput M a1 v2.toNatClampNeg (M a0 v2.toNatClampNeg) → k2 (v2 + (1 : Int32)) M1)
def L_Mo_copy_2 (P : zM → Prop) (a0 : Nat) (a1 : Nat) (n : Nat) : Int32 → zM → Prop := Nat.rec (fun _ _ => False) (fun _ k => B_Mo_copy_2 P a0 a1 k) n
def w_Mo_copy (a0 : Nat) (a1 : Nat) (M : zM) (P : zM → Prop) : Prop := ∃ n, L_Mo_copy_2 P a0 a1 n (0 : Int32) M
def ws_Mo_copy : List Cond := .code y_Mo_copy prog_10_method_5_code 3 (Option.none : Option Jvm.ClassFile.FieldType) :: zall
def rm_Mo_copy : Room := { frames := 0, cells := 0, slots := 0, locals := 0 }
theorem hd_Mo_copy : y_Mo_copy.cls ≠ "java/lang/invoke/MethodHandle" ∧ y_Mo_copy.cls ≠ "java/lang/invoke/VarHandle" ∧ (parseMethodDescriptor y_Mo_copy.desc).map (fun d => d.parameters.length) = some 2 := by decide +kernel
set_option maxHeartbeats 4000000 in
set_option maxRecDepth 100000 in
theorem c_Mo_copy (l : Launch) (G : zG) (b : Nat) (a0 : Nat) (a1 : Nat) (M : zM) (N : zN) {P : zM → Prop} (hw : w_Mo_copy a0 a1 M P) : Met l y_Mo_copy ws_Mo_copy rm_Mo_copy (zPc G b M N [.ref (b + a0), .ref (b + a1)]) (zQv G b (fun M' N' => P M' ∧ N' = N)) 0 0 (zA b) := by
  refine Met.ofW (cc := prog_10_method_5_code) (maxL := 3) (ret := (Option.none : Option Jvm.ClassFile.FieldType)) (by decide) rfl ?_
  intro p e s m args below meth c s₁ B hml hv
  obtain ⟨rfl, hZ, hK, hT⟩ := hv
  have hx := B.exec
  have hb := B.bytes
  have hr := B.returns
  have hts := atoms_spec (ws := ws_Mo_copy) B.pre
  have hta : ∀ w ∈ zall, w.before ([.ref (b + a0), .ref (b + a1)] : List Value).toArray s = true := fun w h => hts w (List.mem_cons_of_mem _ h)
  have hown : s.vm.findClass R_Mo = some m.cls := findClass_of_methodNamed B.named
  have hlocks := B.notSynchronized
  have hS : va_S (zA b) s.heap s.heap [] := va_S.rf
  have hl := lv_entry ([.ref (b + a0), .ref (b + a1)]) (n := 3) (Nat.le_of_ble_eq_true rfl)
  rw [lg_entry_eq]
  generalize (lg_sl ([.ref (b + a0), .ref (b + a1)]) ++ List.replicate (3 - (lg_sl ([.ref (b + a0), .ref (b + a1)])).length) Slot.unset).toArray = ls at hl ⊢
  have hl : lv_has ls 3 [(0, .ref (b + a0)), (1, .ref (b + a1))] := hl
  have lp2 : ∀ (n : Nat) (v2 : Int32) (M : zM) (H : Heap) (ls : Array Slot) (locs : List Loc), va_P G.1 zCl (zws G b M N) H → va_S (zA b) s.heap H locs → lv_has ls 3 [(0, .ref (b + a0)), (1, .ref (b + a1)), (2, .int v2)] → L_Mo_copy_2 P a0 a1 n v2 M → W p l e (headSpec ws_Mo_copy rm_Mo_copy).room s m ([.ref (b + a0), .ref (b + a1)] : List Value).toArray below meth c H locs 0 0 (MQ below (zQv G b (fun M' N' => P M' ∧ N' = N)) ([.ref (b + a0), .ref (b + a1)] : List Value).toArray s 0 0 (zA b)) (F0 m 2 ls []) := by
    intro  n
    induction n with
    | zero => intro v2 M H ls locs hZ hS hl hw; exact False.elim hw
    | succ n2 ih2 =>
      intro v2 M H ls locs hZ hS hl hw
      have hw : B_Mo_copy_2 P a0 a1 (L_Mo_copy_2 P a0 a1 n2) v2 M := hw
      unfold B_Mo_copy_2 at hw
      refine lv_iload_n (pc := 2) hx hb d_Mo_copy_2 rfl (lv_at hl 2 rfl) ?_
      refine lv_bipush (pc := 3) (v := 16) hx hb d_Mo_copy_3 (by decide) ?_
      refine lv_icmp_ge (pc := 5) (tgt := 20) hx hb d_Mo_copy_5 (by decide) (fun hc => ?_) (fun hc => ?_)
      · have hw := hw.1 hc
        exact z_vret hx hb hr hlocks hK hT hZ hS ⟨hw, rfl⟩ d_Mo_copy_20
      · have hw := hw.2 hc
        refine lv_aload_n (pc := 8) hx hb d_Mo_copy_8 rfl (lv_at hl 1 rfl) ?_
        refine lv_iload_n (pc := 9) hx hb d_Mo_copy_9 rfl (lv_at hl 2 rfl) ?_
        refine lv_aload_n (pc := 10) hx hb d_Mo_copy_10 rfl (lv_at hl 0 rfl) ?_
        refine lv_iload_n (pc := 11) hx hb d_Mo_copy_11 rfl (lv_at hl 2 rfl) ?_
        obtain ⟨hc, hw⟩ := hw
        refine z_lald (pc := 12) hx hb hK hZ hc d_Mo_copy_12 ?_
        obtain ⟨hc, hw⟩ := hw
        refine z_last (pc := 13) hx hb hK hZ hS hc d_Mo_copy_13 (fun M1 H locs hM1 hZ hS => ?_)
        have hw := hw M1 hM1
        refine lv_iinc (pc := 14) (k := 2) (v := v2 + (1 : Int32)) (lv' := [(2, .int (v2 + (1 : Int32))), (0, .ref (b + a0)), (1, .ref (b + a1))]) hx hb d_Mo_copy_14 hl rfl (by rfl) (by decide) rfl (fun ls hl => ?_)
        refine lv_goto (pc := 17) (tgt := 2) hx hb d_Mo_copy_17 (by decide) ?_
        exact ih2 (v2 + (1 : Int32)) M1 _ _ _ hZ hS (lv_sub hl [1, 2, 0] rfl) hw
  unfold w_Mo_copy at hw
  refine lv_iconst (pc := 0) (v := 0) hx hb d_Mo_copy_0 (by decide) ?_
  refine lv_istore_n (pc := 1) (lv' := [(2, .int (0 : Int32)), (0, .ref (b + a0)), (1, .ref (b + a1))]) hx hb d_Mo_copy_1 rfl hl (by decide) rfl (fun ls hl => ?_)
  obtain ⟨n, hw⟩ := hw
  exact lp2  n (0 : Int32) M _ _ _ hZ hS (lv_sub hl [1, 2, 0] rfl) hw
theorem zg_Mo_7 {p : Program} {l : Launch} {e : Env} {R : Room} {s : State} {m : MethodId} {args : Array Value} {below : List Frame} {meth : Method} {c : Code} {H : Heap} {locs : List Loc} {cells slots : Nat} {Q : State → Prop} {cc : ByteArray} {pc : Nat} {ls : Array Slot} {rest : List Value} {G : zG} {b : Nat} {M : zM} {N : zN} (hx : p.tables.exec = Jvm.exec) (hb : c.code = cc) (hta : ∀ w ∈ zall, w.before args s = true) (hown : s.vm.findClass R_Mo = some m.cls) (hK : va_K G.1 zCl (zty G) s) (hZ : va_P G.1 zCl (zws G b M N) H) (hdg : decode cc pc = .ok (.getfield 7, 3)) (kk : W p l e R s m args below meth c H locs cells slots Q (F0 m (pc + 3) ls (.ref (b + 100) :: rest))) : W p l e R s m args below meth c H locs cells slots Q (F0 m pc ls (.ref (b + 99) :: rest)) :=
  va_get (D := G.1) (ci := 6) (v := .ref (b + 100)) (C := R_Mo) (T := T_Mo) (N := 23) hx hb hta hin_Mo hown hK hZ 99 zo_Mo rfl 1 (by decide) (hta _ wd728) (fun _ h9 => h9) rfl hdg kk
theorem d_Mo_load_0 : decode prog_10_method_6_code 0 = .ok (.iconst 0, 1) := by decide +kernel
theorem d_Mo_load_1 : decode prog_10_method_6_code 1 = .ok (.istore_n 3, 1) := by decide +kernel
theorem d_Mo_load_2 : decode prog_10_method_6_code 2 = .ok (.iload_n 3, 1) := by decide +kernel
theorem d_Mo_load_3 : decode prog_10_method_6_code 3 = .ok (.bipush 16, 2) := by decide +kernel
theorem d_Mo_load_5 : decode prog_10_method_6_code 5 = .ok (.if_icmp .ge 34, 3) := by decide +kernel
theorem d_Mo_load_8 : decode prog_10_method_6_code 8 = .ok (.aload_n 2, 1) := by decide +kernel
theorem d_Mo_load_9 : decode prog_10_method_6_code 9 = .ok (.iload_n 3, 1) := by decide +kernel
theorem d_Mo_load_10 : decode prog_10_method_6_code 10 = .ok (.iload_n 3, 1) := by decide +kernel
theorem d_Mo_load_11 : decode prog_10_method_6_code 11 = .ok (.bipush 8, 2) := by decide +kernel
theorem d_Mo_load_13 : decode prog_10_method_6_code 13 = .ok (.if_icmp .ge 18, 3) := by decide +kernel
theorem d_Mo_load_16 : decode prog_10_method_6_code 16 = .ok (.aload_n 0, 1) := by decide +kernel
theorem d_Mo_load_17 : decode prog_10_method_6_code 17 = .ok (.getfield 7, 3) := by decide +kernel
theorem d_Mo_load_20 : decode prog_10_method_6_code 20 = .ok (.bipush 8, 2) := by decide +kernel
theorem d_Mo_load_22 : decode prog_10_method_6_code 22 = .ok (.iload_n 1, 1) := by decide +kernel
theorem d_Mo_load_23 : decode prog_10_method_6_code 23 = .ok (.imul, 1) := by decide +kernel
theorem d_Mo_load_24 : decode prog_10_method_6_code 24 = .ok (.iload_n 3, 1) := by decide +kernel
theorem d_Mo_load_25 : decode prog_10_method_6_code 25 = .ok (.iadd, 1) := by decide +kernel
theorem d_Mo_load_26 : decode prog_10_method_6_code 26 = .ok (.iaload, 1) := by decide +kernel
theorem d_Mo_load_27 : decode prog_10_method_6_code 27 = .ok (.i2l, 1) := by decide +kernel
theorem d_Mo_load_28 : decode prog_10_method_6_code 28 = .ok (.goto 4, 3) := by decide +kernel
theorem d_Mo_load_31 : decode prog_10_method_6_code 31 = .ok (.lconst 0, 1) := by decide +kernel
theorem d_Mo_load_32 : decode prog_10_method_6_code 32 = .ok (.lastore, 1) := by decide +kernel
theorem d_Mo_load_33 : decode prog_10_method_6_code 33 = .ok (.iinc 3 1, 3) := by decide +kernel
theorem d_Mo_load_36 : decode prog_10_method_6_code 36 = .ok (.goto (-34), 3) := by decide +kernel
theorem d_Mo_load_39 : decode prog_10_method_6_code 39 = .ok (.return_, 1) := by decide +kernel
def B_Mo_load_2 (P : zM → Prop) (a1 : Int32) (a2 : Nat) (N : zN) (k2 : Int32 → zM → Prop) (v3 : Int32) (M : zM) : Prop := ((16 : Int32) ≤ v3 → P M) ∧ (¬ (16 : Int32) ≤ v3 → ((8 : Int32) ≤ v3 → vp_in v3 (zlong a2) ∧ ∀ M1 : zM, M1 = zput M a2 v3.toNatClampNeg (0 : Int64) → k2 (v3 + (1 : Int32)) M1) ∧ (¬ (8 : Int32) ≤ v3 → vp_in (((8 : Int32) * a1) + v3) (zint 100) ∧ vp_in v3 (zlong a2) ∧ ∀ M2 : zM, M2 = zput M a2 v3.toNatClampNeg ((N 100 (((8 : Int32) * a1) + v3).toNatClampNeg).toInt64) → k2 (v3 + (1 : Int32)) M2))
def L_Mo_load_2 (P : zM → Prop) (a1 : Int32) (a2 : Nat) (N : zN) (n : Nat) : Int32 → zM → Prop := Nat.rec (fun _ _ => False) (fun _ k => B_Mo_load_2 P a1 a2 N k) n
def w_Mo_load (a1 : Int32) (a2 : Nat) (M : zM) (N : zN) (P : zM → Prop) : Prop := ∃ n, L_Mo_load_2 P a1 a2 N n (0 : Int32) M
def ws_Mo_load : List Cond := .code y_Mo_load prog_10_method_6_code 4 (Option.none : Option Jvm.ClassFile.FieldType) :: zall
def rm_Mo_load : Room := { frames := 0, cells := 0, slots := 0, locals := 0 }
theorem hd_Mo_load : y_Mo_load.cls ≠ "java/lang/invoke/MethodHandle" ∧ y_Mo_load.cls ≠ "java/lang/invoke/VarHandle" ∧ (parseMethodDescriptor y_Mo_load.desc).map (fun d => d.parameters.length) = some 2 := by decide +kernel
set_option maxHeartbeats 4000000 in
set_option maxRecDepth 100000 in
theorem c_Mo_load (l : Launch) (G : zG) (b : Nat) (a1 : Int32) (a2 : Nat) (M : zM) (N : zN) {P : zM → Prop} (hw : w_Mo_load a1 a2 M N P) : Met l y_Mo_load ws_Mo_load rm_Mo_load (zPc G b M N [.ref (b + 99), .int a1, .ref (b + a2)]) (zQv G b (fun M' N' => P M' ∧ N' = N)) 0 0 (zA b) := by
  refine Met.ofW (cc := prog_10_method_6_code) (maxL := 4) (ret := (Option.none : Option Jvm.ClassFile.FieldType)) (by decide) rfl ?_
  intro p e s m args below meth c s₁ B hml hv
  obtain ⟨rfl, hZ, hK, hT⟩ := hv
  have hx := B.exec
  have hb := B.bytes
  have hr := B.returns
  have hts := atoms_spec (ws := ws_Mo_load) B.pre
  have hta : ∀ w ∈ zall, w.before ([.ref (b + 99), .int a1, .ref (b + a2)] : List Value).toArray s = true := fun w h => hts w (List.mem_cons_of_mem _ h)
  have hown : s.vm.findClass R_Mo = some m.cls := findClass_of_methodNamed B.named
  have hlocks := B.notSynchronized
  have hS : va_S (zA b) s.heap s.heap [] := va_S.rf
  have hl := lv_entry ([.ref (b + 99), .int a1, .ref (b + a2)]) (n := 4) (Nat.le_of_ble_eq_true rfl)
  rw [lg_entry_eq]
  generalize (lg_sl ([.ref (b + 99), .int a1, .ref (b + a2)]) ++ List.replicate (4 - (lg_sl ([.ref (b + 99), .int a1, .ref (b + a2)])).length) Slot.unset).toArray = ls at hl ⊢
  have hl : lv_has ls 4 [(0, .ref (b + 99)), (1, .int a1), (2, .ref (b + a2))] := hl
  have lp2 : ∀ (n : Nat) (v3 : Int32) (M : zM) (H : Heap) (ls : Array Slot) (locs : List Loc), va_P G.1 zCl (zws G b M N) H → va_S (zA b) s.heap H locs → lv_has ls 4 [(0, .ref (b + 99)), (1, .int a1), (2, .ref (b + a2)), (3, .int v3)] → L_Mo_load_2 P a1 a2 N n v3 M → W p l e (headSpec ws_Mo_load rm_Mo_load).room s m ([.ref (b + 99), .int a1, .ref (b + a2)] : List Value).toArray below meth c H locs 0 0 (MQ below (zQv G b (fun M' N' => P M' ∧ N' = N)) ([.ref (b + 99), .int a1, .ref (b + a2)] : List Value).toArray s 0 0 (zA b)) (F0 m 2 ls []) := by
    intro  n
    induction n with
    | zero => intro v3 M H ls locs hZ hS hl hw; exact False.elim hw
    | succ n2 ih2 =>
      intro v3 M H ls locs hZ hS hl hw
      have hw : B_Mo_load_2 P a1 a2 N (L_Mo_load_2 P a1 a2 N n2) v3 M := hw
      unfold B_Mo_load_2 at hw
      refine lv_iload_n (pc := 2) hx hb d_Mo_load_2 rfl (lv_at hl 3 rfl) ?_
      refine lv_bipush (pc := 3) (v := 16) hx hb d_Mo_load_3 (by decide) ?_
      refine lv_icmp_ge (pc := 5) (tgt := 39) hx hb d_Mo_load_5 (by decide) (fun hc => ?_) (fun hc => ?_)
      · have hw := hw.1 hc
        exact z_vret hx hb hr hlocks hK hT hZ hS ⟨hw, rfl⟩ d_Mo_load_39
      · have hw := hw.2 hc
        refine lv_aload_n (pc := 8) hx hb d_Mo_load_8 rfl (lv_at hl 2 rfl) ?_
        refine lv_iload_n (pc := 9) hx hb d_Mo_load_9 rfl (lv_at hl 3 rfl) ?_
        refine lv_iload_n (pc := 10) hx hb d_Mo_load_10 rfl (lv_at hl 3 rfl) ?_
        refine lv_bipush (pc := 11) (v := 8) hx hb d_Mo_load_11 (by decide) ?_
        refine lv_icmp_ge (pc := 13) (tgt := 31) hx hb d_Mo_load_13 (by decide) (fun hc => ?_) (fun hc => ?_)
        · have hw := hw.1 hc
          refine lv_lconst (pc := 31) (v := 0) hx hb d_Mo_load_31 (by decide) ?_
          obtain ⟨hc, hw⟩ := hw
          refine z_last (pc := 32) hx hb hK hZ hS hc d_Mo_load_32 (fun M1 H locs hM1 hZ hS => ?_)
          have hw := hw M1 hM1
          refine lv_iinc (pc := 33) (k := 3) (v := v3 + (1 : Int32)) (lv' := [(3, .int (v3 + (1 : Int32))), (0, .ref (b + 99)), (1, .int a1), (2, .ref (b + a2))]) hx hb d_Mo_load_33 hl rfl (by rfl) (by decide) rfl (fun ls hl => ?_)
          refine lv_goto (pc := 36) (tgt := 2) hx hb d_Mo_load_36 (by decide) ?_
          exact ih2 (v3 + (1 : Int32)) M1 _ _ _ hZ hS (lv_sub hl [1, 2, 3, 0] rfl) hw
        · have hw := hw.2 hc
          refine lv_aload_n (pc := 16) hx hb d_Mo_load_16 rfl (lv_at hl 0 rfl) ?_
          refine zg_Mo_7 (pc := 17) hx hb hta hown hK hZ d_Mo_load_17 ?_
          refine lv_bipush (pc := 20) (v := 8) hx hb d_Mo_load_20 (by decide) ?_
          refine lv_iload_n (pc := 22) hx hb d_Mo_load_22 rfl (lv_at hl 1 rfl) ?_
          refine lv_imul (pc := 23) hx hb d_Mo_load_23 ?_
          refine lv_iload_n (pc := 24) hx hb d_Mo_load_24 rfl (lv_at hl 3 rfl) ?_
          refine lv_iadd (pc := 25) hx hb d_Mo_load_25 ?_
          obtain ⟨hc, hw⟩ := hw
          refine z_iald (pc := 26) hx hb hK hZ hc d_Mo_load_26 ?_
          refine lv_i2l (pc := 27) (v := (N 100 (((8 : Int32) * a1) + v3).toNatClampNeg).toInt64) hx hb d_Mo_load_27 rfl ?_
          refine lv_goto (pc := 28) (tgt := 32) hx hb d_Mo_load_28 (by decide) ?_
          obtain ⟨hc, hw⟩ := hw
          refine z_last (pc := 32) hx hb hK hZ hS hc d_Mo_load_32 (fun M2 H locs hM2 hZ hS => ?_)
          have hw := hw M2 hM2
          refine lv_iinc (pc := 33) (k := 3) (v := v3 + (1 : Int32)) (lv' := [(3, .int (v3 + (1 : Int32))), (0, .ref (b + 99)), (1, .int a1), (2, .ref (b + a2))]) hx hb d_Mo_load_33 hl rfl (by rfl) (by decide) rfl (fun ls hl => ?_)
          refine lv_goto (pc := 36) (tgt := 2) hx hb d_Mo_load_36 (by decide) ?_
          exact ih2 (v3 + (1 : Int32)) M2 _ _ _ hZ hS (lv_sub hl [1, 2, 3, 0] rfl) hw
  unfold w_Mo_load at hw
  refine lv_iconst (pc := 0) (v := 0) hx hb d_Mo_load_0 (by decide) ?_
  refine lv_istore_n (pc := 1) (lv' := [(3, .int (0 : Int32)), (0, .ref (b + 99)), (1, .int a1), (2, .ref (b + a2))]) hx hb d_Mo_load_1 rfl hl (by decide) rfl (fun ls hl => ?_)
  obtain ⟨n, hw⟩ := hw
  exact lp2  n (0 : Int32) M _ _ _ hZ hS (lv_sub hl [1, 2, 3, 0] rfl) hw
theorem d_Mo_fits_0 : decode prog_10_method_7_code 0 = .ok (.aload_n 0, 1) := by decide +kernel
theorem d_Mo_fits_1 : decode prog_10_method_7_code 1 = .ok (.invokestatic 82, 3) := by decide +kernel
theorem d_Mo_fits_4 : decode prog_10_method_7_code 4 = .ok (.bipush 8, 2) := by decide +kernel
theorem d_Mo_fits_6 : decode prog_10_method_7_code 6 = .ok (.if_icmp .ge 7, 3) := by decide +kernel
theorem d_Mo_fits_9 : decode prog_10_method_7_code 9 = .ok (.iconst 1, 1) := by decide +kernel
theorem d_Mo_fits_10 : decode prog_10_method_7_code 10 = .ok (.goto 4, 3) := by decide +kernel
theorem d_Mo_fits_13 : decode prog_10_method_7_code 13 = .ok (.iconst 0, 1) := by decide +kernel
theorem d_Mo_fits_14 : decode prog_10_method_7_code 14 = .ok (.istore_n 1, 1) := by decide +kernel
theorem d_Mo_fits_15 : decode prog_10_method_7_code 15 = .ok (.iconst 0, 1) := by decide +kernel
theorem d_Mo_fits_16 : decode prog_10_method_7_code 16 = .ok (.istore_n 2, 1) := by decide +kernel
theorem d_Mo_fits_17 : decode prog_10_method_7_code 17 = .ok (.iload_n 2, 1) := by decide +kernel
theorem d_Mo_fits_18 : decode prog_10_method_7_code 18 = .ok (.bipush 8, 2) := by decide +kernel
theorem d_Mo_fits_20 : decode prog_10_method_7_code 20 = .ok (.if_icmp .ge 39, 3) := by decide +kernel
theorem d_Mo_fits_23 : decode prog_10_method_7_code 23 = .ok (.iload_n 1, 1) := by decide +kernel
theorem d_Mo_fits_24 : decode prog_10_method_7_code 24 = .ok (.ifCond .eq 27, 3) := by decide +kernel
theorem d_Mo_fits_27 : decode prog_10_method_7_code 27 = .ok (.aload_n 0, 1) := by decide +kernel
theorem d_Mo_fits_28 : decode prog_10_method_7_code 28 = .ok (.iload_n 2, 1) := by decide +kernel
theorem d_Mo_fits_29 : decode prog_10_method_7_code 29 = .ok (.laload, 1) := by decide +kernel
theorem d_Mo_fits_30 : decode prog_10_method_7_code 30 = .ok (.ldc2_w 86, 3) := by decide +kernel
theorem d_Mo_fits_33 : decode prog_10_method_7_code 33 = .ok (.lcmp, 1) := by decide +kernel
theorem d_Mo_fits_34 : decode prog_10_method_7_code 34 = .ok (.ifCond .lt 17, 3) := by decide +kernel
theorem d_Mo_fits_37 : decode prog_10_method_7_code 37 = .ok (.aload_n 0, 1) := by decide +kernel
theorem d_Mo_fits_38 : decode prog_10_method_7_code 38 = .ok (.iload_n 2, 1) := by decide +kernel
theorem d_Mo_fits_39 : decode prog_10_method_7_code 39 = .ok (.laload, 1) := by decide +kernel
theorem d_Mo_fits_40 : decode prog_10_method_7_code 40 = .ok (.ldc2_w 88, 3) := by decide +kernel
theorem d_Mo_fits_43 : decode prog_10_method_7_code 43 = .ok (.lcmp, 1) := by decide +kernel
theorem d_Mo_fits_44 : decode prog_10_method_7_code 44 = .ok (.ifCond .gt 7, 3) := by decide +kernel
theorem d_Mo_fits_47 : decode prog_10_method_7_code 47 = .ok (.iconst 1, 1) := by decide +kernel
theorem d_Mo_fits_48 : decode prog_10_method_7_code 48 = .ok (.goto 4, 3) := by decide +kernel
theorem d_Mo_fits_51 : decode prog_10_method_7_code 51 = .ok (.iconst 0, 1) := by decide +kernel
theorem d_Mo_fits_52 : decode prog_10_method_7_code 52 = .ok (.istore_n 1, 1) := by decide +kernel
theorem d_Mo_fits_53 : decode prog_10_method_7_code 53 = .ok (.iinc 2 1, 3) := by decide +kernel
theorem d_Mo_fits_56 : decode prog_10_method_7_code 56 = .ok (.goto (-39), 3) := by decide +kernel
theorem d_Mo_fits_59 : decode prog_10_method_7_code 59 = .ok (.iload_n 1, 1) := by decide +kernel
theorem d_Mo_fits_60 : decode prog_10_method_7_code 60 = .ok (.ireturn, 1) := by decide +kernel
def B_Mo_fits_17 (P : Int32 → Prop) (a0 : Nat) (M : zM) (k17 : Int32 → Int32 → Prop) (v1 : Int32) (v2 : Int32) : Prop := ((8 : Int32) ≤ v2 → narrow .boolean (.int v1) = .int v1 ∧ P v1) ∧ (¬ (8 : Int32) ≤ v2 → (v1 = 0 → k17 (0 : Int32) (v2 + (1 : Int32))) ∧ (¬ v1 = 0 → vp_in v2 (zlong a0) ∧ ((M a0 v2.toNatClampNeg) < (-99999 : Int64) → k17 (0 : Int32) (v2 + (1 : Int32))) ∧ (¬ (M a0 v2.toNatClampNeg) < (-99999 : Int64) → vp_in v2 (zlong a0) ∧ ((99999 : Int64) < (M a0 v2.toNatClampNeg) → k17 (0 : Int32) (v2 + (1 : Int32))) ∧ (¬ (99999 : Int64) < (M a0 v2.toNatClampNeg) → k17 (1 : Int32) (v2 + (1 : Int32))))))
def L_Mo_fits_17 (P : Int32 → Prop) (a0 : Nat) (M : zM) (n : Nat) : Int32 → Int32 → Prop := Nat.rec (fun _ _ => False) (fun _ k => B_Mo_fits_17 P a0 M k) n
def w_Mo_fits (a0 : Nat) (M : zM) (P : Int32 → Prop) : Prop := w_Mo_degreeOf a0 M (fun r1 => ((8 : Int32) ≤ r1 → ∃ n, L_Mo_fits_17 P a0 M n (0 : Int32) (0 : Int32)) ∧ (¬ (8 : Int32) ≤ r1 → ∃ n, L_Mo_fits_17 P a0 M n (1 : Int32) (0 : Int32)))
def ws_Mo_fits : List Cond := .code y_Mo_fits prog_10_method_7_code 3 (Option.some Jvm.ClassFile.FieldType.boolean) :: zall
def rm_Mo_fits : Room := { frames := 1, cells := 0, slots := 0, locals := 21 }
theorem hd_Mo_fits : y_Mo_fits.cls ≠ "java/lang/invoke/MethodHandle" ∧ y_Mo_fits.cls ≠ "java/lang/invoke/VarHandle" ∧ (parseMethodDescriptor y_Mo_fits.desc).map (fun d => d.parameters.length) = some 1 := by decide +kernel
set_option maxHeartbeats 4000000 in
set_option maxRecDepth 100000 in
theorem c_Mo_fits (l : Launch) (G : zG) (b : Nat) (a0 : Nat) (M : zM) (N : zN) {P : Int32 → Prop} (hw : w_Mo_fits a0 M P) : Met l y_Mo_fits ws_Mo_fits rm_Mo_fits (zPc G b M N [.ref (b + a0)]) (zQi G b (fun r M' N' => P r ∧ M' = M ∧ N' = N)) 0 0 (zA b) := by
  refine Met.ofW (cc := prog_10_method_7_code) (maxL := 3) (ret := (Option.some Jvm.ClassFile.FieldType.boolean)) (by decide) rfl ?_
  intro p e s m args below meth c s₁ B hml hv
  obtain ⟨rfl, hZ, hK, hT⟩ := hv
  have hx := B.exec
  have hb := B.bytes
  have hr := B.returns
  have hts := atoms_spec (ws := ws_Mo_fits) B.pre
  have hta : ∀ w ∈ zall, w.before ([.ref (b + a0)] : List Value).toArray s = true := fun w h => hts w (List.mem_cons_of_mem _ h)
  have hown : s.vm.findClass R_Mo = some m.cls := findClass_of_methodNamed B.named
  have hlocks := B.notSynchronized
  have hS : va_S (zA b) s.heap s.heap [] := va_S.rf
  have hl := lv_entry ([.ref (b + a0)]) (n := 3) (Nat.le_of_ble_eq_true rfl)
  rw [lg_entry_eq]
  generalize (lg_sl ([.ref (b + a0)]) ++ List.replicate (3 - (lg_sl ([.ref (b + a0)])).length) Slot.unset).toArray = ls at hl ⊢
  have hl : lv_has ls 3 [(0, .ref (b + a0))] := hl
  have lp17 : ∀ (n : Nat) (v1 : Int32) (v2 : Int32) (H : Heap) (ls : Array Slot) (locs : List Loc), va_P G.1 zCl (zws G b M N) H → va_S (zA b) s.heap H locs → lv_has ls 3 [(0, .ref (b + a0)), (1, .int v1), (2, .int v2)] → L_Mo_fits_17 P a0 M n v1 v2 → W p l e (headSpec ws_Mo_fits rm_Mo_fits).room s m ([.ref (b + a0)] : List Value).toArray below meth c H locs 0 0 (MQ below (zQi G b (fun r M' N' => P r ∧ M' = M ∧ N' = N)) ([.ref (b + a0)] : List Value).toArray s 0 0 (zA b)) (F0 m 17 ls []) := by
    intro  n
    induction n with
    | zero => intro v1 v2 H ls locs hZ hS hl hw; exact False.elim hw
    | succ n17 ih17 =>
      intro v1 v2 H ls locs hZ hS hl hw
      have hw : B_Mo_fits_17 P a0 M (L_Mo_fits_17 P a0 M n17) v1 v2 := hw
      unfold B_Mo_fits_17 at hw
      refine lv_iload_n (pc := 17) hx hb d_Mo_fits_17 rfl (lv_at hl 2 rfl) ?_
      refine lv_bipush (pc := 18) (v := 8) hx hb d_Mo_fits_18 (by decide) ?_
      refine lv_icmp_ge (pc := 20) (tgt := 59) hx hb d_Mo_fits_20 (by decide) (fun hc => ?_) (fun hc => ?_)
      · have hw := hw.1 hc
        refine lv_iload_n (pc := 59) hx hb d_Mo_fits_59 rfl (lv_at hl 1 rfl) ?_
        exact z_zret hx hb hr hlocks hK hT hZ hS ⟨hw.1, ⟨hw.2, rfl, rfl⟩⟩ d_Mo_fits_60
      · have hw := hw.2 hc
        refine lv_iload_n (pc := 23) hx hb d_Mo_fits_23 rfl (lv_at hl 1 rfl) ?_
        refine lv_if_eq (pc := 24) (tgt := 51) hx hb d_Mo_fits_24 (by decide) (fun hc => ?_) (fun hc => ?_)
        · have hw := hw.1 hc
          refine lv_iconst (pc := 51) (v := 0) hx hb d_Mo_fits_51 (by decide) ?_
          refine lv_istore_n (pc := 52) (lv' := [(1, .int (0 : Int32)), (0, .ref (b + a0)), (2, .int v2)]) hx hb d_Mo_fits_52 rfl hl (by decide) rfl (fun ls hl => ?_)
          refine lv_iinc (pc := 53) (k := 2) (v := v2 + (1 : Int32)) (lv' := [(2, .int (v2 + (1 : Int32))), (1, .int (0 : Int32)), (0, .ref (b + a0))]) hx hb d_Mo_fits_53 hl rfl (by rfl) (by decide) rfl (fun ls hl => ?_)
          refine lv_goto (pc := 56) (tgt := 17) hx hb d_Mo_fits_56 (by decide) ?_
          exact ih17 (0 : Int32) (v2 + (1 : Int32)) _ _ _ hZ hS (lv_sub hl [2, 1, 0] rfl) hw
        · have hw := hw.2 hc
          refine lv_aload_n (pc := 27) hx hb d_Mo_fits_27 rfl (lv_at hl 0 rfl) ?_
          refine lv_iload_n (pc := 28) hx hb d_Mo_fits_28 rfl (lv_at hl 2 rfl) ?_
          obtain ⟨hc, hw⟩ := hw
          refine z_lald (pc := 29) hx hb hK hZ hc d_Mo_fits_29 ?_
          refine lv_ldc2 (pc := 30) (v := -99999) hx hb hown (hta _ wd836) d_Mo_fits_30 ?_
          refine z_lc_lt (pc := 33) (tgt := 51) hx hb d_Mo_fits_33 d_Mo_fits_34 (by decide) (fun hc => ?_) (fun hc => ?_)
          · have hw := hw.1 hc
            refine lv_iconst (pc := 51) (v := 0) hx hb d_Mo_fits_51 (by decide) ?_
            refine lv_istore_n (pc := 52) (lv' := [(1, .int (0 : Int32)), (0, .ref (b + a0)), (2, .int v2)]) hx hb d_Mo_fits_52 rfl hl (by decide) rfl (fun ls hl => ?_)
            refine lv_iinc (pc := 53) (k := 2) (v := v2 + (1 : Int32)) (lv' := [(2, .int (v2 + (1 : Int32))), (1, .int (0 : Int32)), (0, .ref (b + a0))]) hx hb d_Mo_fits_53 hl rfl (by rfl) (by decide) rfl (fun ls hl => ?_)
            refine lv_goto (pc := 56) (tgt := 17) hx hb d_Mo_fits_56 (by decide) ?_
            exact ih17 (0 : Int32) (v2 + (1 : Int32)) _ _ _ hZ hS (lv_sub hl [2, 1, 0] rfl) hw
          · have hw := hw.2 hc
            refine lv_aload_n (pc := 37) hx hb d_Mo_fits_37 rfl (lv_at hl 0 rfl) ?_
            refine lv_iload_n (pc := 38) hx hb d_Mo_fits_38 rfl (lv_at hl 2 rfl) ?_
            obtain ⟨hc, hw⟩ := hw
            refine z_lald (pc := 39) hx hb hK hZ hc d_Mo_fits_39 ?_
            refine lv_ldc2 (pc := 40) (v := 99999) hx hb hown (hta _ wd837) d_Mo_fits_40 ?_
            refine z_lc_gt (pc := 43) (tgt := 51) hx hb d_Mo_fits_43 d_Mo_fits_44 (by decide) (fun hc => ?_) (fun hc => ?_)
            · have hw := hw.1 hc
              refine lv_iconst (pc := 51) (v := 0) hx hb d_Mo_fits_51 (by decide) ?_
              refine lv_istore_n (pc := 52) (lv' := [(1, .int (0 : Int32)), (0, .ref (b + a0)), (2, .int v2)]) hx hb d_Mo_fits_52 rfl hl (by decide) rfl (fun ls hl => ?_)
              refine lv_iinc (pc := 53) (k := 2) (v := v2 + (1 : Int32)) (lv' := [(2, .int (v2 + (1 : Int32))), (1, .int (0 : Int32)), (0, .ref (b + a0))]) hx hb d_Mo_fits_53 hl rfl (by rfl) (by decide) rfl (fun ls hl => ?_)
              refine lv_goto (pc := 56) (tgt := 17) hx hb d_Mo_fits_56 (by decide) ?_
              exact ih17 (0 : Int32) (v2 + (1 : Int32)) _ _ _ hZ hS (lv_sub hl [2, 1, 0] rfl) hw
            · have hw := hw.2 hc
              refine lv_iconst (pc := 47) (v := 1) hx hb d_Mo_fits_47 (by decide) ?_
              refine lv_goto (pc := 48) (tgt := 52) hx hb d_Mo_fits_48 (by decide) ?_
              refine lv_istore_n (pc := 52) (lv' := [(1, .int (1 : Int32)), (0, .ref (b + a0)), (2, .int v2)]) hx hb d_Mo_fits_52 rfl hl (by decide) rfl (fun ls hl => ?_)
              refine lv_iinc (pc := 53) (k := 2) (v := v2 + (1 : Int32)) (lv' := [(2, .int (v2 + (1 : Int32))), (1, .int (1 : Int32)), (0, .ref (b + a0))]) hx hb d_Mo_fits_53 hl rfl (by rfl) (by decide) rfl (fun ls hl => ?_)
              refine lv_goto (pc := 56) (tgt := 17) hx hb d_Mo_fits_56 (by decide) ?_
              exact ih17 (1 : Int32) (v2 + (1 : Int32)) _ _ _ hZ hS (lv_sub hl [2, 1, 0] rfl) hw
  unfold w_Mo_fits at hw
  refine lv_aload_n (pc := 0) hx hb d_Mo_fits_0 rfl (lv_at hl 0 rfl) ?_
  refine z_calli (pc := 1) (va_runS (As := [.ref (b + a0)]) (rest := []) ⟨hx, hb, hml, hown, hts⟩ (c_Mo_degreeOf l G b a0 M N hw) (va_cwS 1 hts (z_good (zgS wd814 wd815 wd7 wd816)) rfl rfl rfl hd_Mo_degreeOf ⟨Nat.le_of_ble_eq_true rfl, Nat.le_of_ble_eq_true rfl⟩) (z_preS hZ hK hT hS) rfl rfl hl.1 rfl (lv_room (Nat.le_of_ble_eq_true rfl)) d_Mo_fits_1 ⟨Nat.le_of_ble_eq_true rfl, Nat.le_of_ble_eq_true rfl⟩) hS (fun r1 M2 N3 H locs hw hZ hS => ?_)
  obtain ⟨hw, eM2, eN3⟩ := hw
  rw [eM2, eN3] at hZ
  refine lv_bipush (pc := 4) (v := 8) hx hb d_Mo_fits_4 (by decide) ?_
  refine lv_icmp_ge (pc := 6) (tgt := 13) hx hb d_Mo_fits_6 (by decide) (fun hc => ?_) (fun hc => ?_)
  · have hw := hw.1 hc
    refine lv_iconst (pc := 13) (v := 0) hx hb d_Mo_fits_13 (by decide) ?_
    refine lv_istore_n (pc := 14) (lv' := [(1, .int (0 : Int32)), (0, .ref (b + a0))]) hx hb d_Mo_fits_14 rfl hl (by decide) rfl (fun ls hl => ?_)
    refine lv_iconst (pc := 15) (v := 0) hx hb d_Mo_fits_15 (by decide) ?_
    refine lv_istore_n (pc := 16) (lv' := [(2, .int (0 : Int32)), (1, .int (0 : Int32)), (0, .ref (b + a0))]) hx hb d_Mo_fits_16 rfl hl (by decide) rfl (fun ls hl => ?_)
    obtain ⟨n, hw⟩ := hw
    exact lp17  n (0 : Int32) (0 : Int32) _ _ _ hZ hS (lv_sub hl [2, 1, 0] rfl) hw
  · have hw := hw.2 hc
    refine lv_iconst (pc := 9) (v := 1) hx hb d_Mo_fits_9 (by decide) ?_
    refine lv_goto (pc := 10) (tgt := 14) hx hb d_Mo_fits_10 (by decide) ?_
    refine lv_istore_n (pc := 14) (lv' := [(1, .int (1 : Int32)), (0, .ref (b + a0))]) hx hb d_Mo_fits_14 rfl hl (by decide) rfl (fun ls hl => ?_)
    refine lv_iconst (pc := 15) (v := 0) hx hb d_Mo_fits_15 (by decide) ?_
    refine lv_istore_n (pc := 16) (lv' := [(2, .int (0 : Int32)), (1, .int (1 : Int32)), (0, .ref (b + a0))]) hx hb d_Mo_fits_16 rfl hl (by decide) rfl (fun ls hl => ?_)
    obtain ⟨n, hw⟩ := hw
    exact lp17  n (1 : Int32) (0 : Int32) _ _ _ hZ hS (lv_sub hl [2, 1, 0] rfl) hw
