theorem xat_IS_requireRegister_9_w : ∀ w ∈ (vx_at0 R_IS 151 (zxn 1) ["java/lang/RuntimeException", "java/lang/Exception"]).filter goodWord, w ∈ lw_tbl := by decide +kernel
theorem xat_IS_requireRegister_9_g : ∀ w ∈ Cond.classLink R_IS 149 (zxn 1) :: Cond.initialized (zxn 1) :: vx_at0 R_IS 151 (zxn 1) ["java/lang/RuntimeException", "java/lang/Exception"], vx_ot w = true := by decide +kernel
theorem xat_IS_requireRegister_9_b : ∀ w ∈ (vx_at0 R_IS 151 (zxn 1) ["java/lang/RuntimeException", "java/lang/Exception"]).filter (fun w => !goodWord w), w ∈ Cond.castable (zxn 1) (zxn 1) :: zdec.map Cond.declares := by decide +kernel
theorem xat_IS_requireRegister_9 {args : Array Value} {s : State} (hta : ∀ w ∈ zall, w.before args s = true) (hn : zNw s) : ∀ w ∈ vx_at0 R_IS 151 (zxn 1) ["java/lang/RuntimeException", "java/lang/Exception"], w.before args s = true :=
  vx_hat (fun w h => hta w (List.mem_filter.mpr ⟨xat_IS_requireRegister_9_w w h, (List.mem_filter.mp h).2⟩)) xat_IS_requireRegister_9_b (fun w h => by
    rcases List.mem_cons.mp h with rfl | h
    · exact va_Nw.use rfl (hn.1 1 (by decide) (by decide))
    · obtain ⟨y, hy, rfl⟩ := List.mem_map.mp h
      exact va_Nw.use rfl (hn.2.1 y hy))
theorem d_IS_requireRegister_0 : decode prog_1_method_21_code 0 = .ok (.iload_n 0, 1) := by decide +kernel
theorem d_IS_requireRegister_1 : decode prog_1_method_21_code 1 = .ok (.ifCond .lt 8, 3) := by decide +kernel
theorem d_IS_requireRegister_4 : decode prog_1_method_21_code 4 = .ok (.iload_n 0, 1) := by decide +kernel
theorem d_IS_requireRegister_5 : decode prog_1_method_21_code 5 = .ok (.iconst 4, 1) := by decide +kernel
theorem d_IS_requireRegister_6 : decode prog_1_method_21_code 6 = .ok (.if_icmp .lt 11, 3) := by decide +kernel
theorem d_IS_requireRegister_9 : decode prog_1_method_21_code 9 = .ok (.new 149, 3) := by decide +kernel
theorem d_IS_requireRegister_12 : decode prog_1_method_21_code 12 = .ok (.dup, 1) := by decide +kernel
theorem d_IS_requireRegister_13 : decode prog_1_method_21_code 13 = .ok (.invokespecial 151, 3) := by decide +kernel
theorem d_IS_requireRegister_16 : decode prog_1_method_21_code 16 = .ok (.athrow, 1) := by decide +kernel
theorem d_IS_requireRegister_17 : decode prog_1_method_21_code 17 = .ok (.return_, 1) := by decide +kernel
def J_IS_requireRegister_9 (P : Prop) (X : Nat → Prop) : Prop := X 1
def w_IS_requireRegister (a0 : Int32) (P : Prop) (X : Nat → Prop) : Prop := (a0 < 0 → J_IS_requireRegister_9 P X) ∧ (¬ a0 < 0 → (a0 < (4 : Int32) → P) ∧ (¬ a0 < (4 : Int32) → J_IS_requireRegister_9 P X))
def ws_IS_requireRegister : List Cond := .code y_IS_requireRegister prog_1_method_21_code 1 (Option.none : Option Jvm.ClassFile.FieldType) :: zall
def rm_IS_requireRegister : Room := { frames := 6, cells := 1, slots := 6, locals := 89 }
theorem hd_IS_requireRegister : y_IS_requireRegister.cls ≠ "java/lang/invoke/MethodHandle" ∧ y_IS_requireRegister.cls ≠ "java/lang/invoke/VarHandle" ∧ (parseMethodDescriptor y_IS_requireRegister.desc).map (fun d => d.parameters.length) = some 1 := by decide +kernel
set_option maxHeartbeats 4000000 in
set_option maxRecDepth 100000 in
theorem c_IS_requireRegister (l : Launch) (hst : l.stackTraces = false) (G : zG) (b : Nat) (a0 : Int32) (M : zM) (N : zN) {P : Prop} {X : Nat → Prop} (hw : w_IS_requireRegister a0  P X) : vx_Met l y_IS_requireRegister ws_IS_requireRegister rm_IS_requireRegister (zPc G b M N [.int a0]) (zQv G b (fun M' N' => P ∧ M' = M ∧ N' = N)) (zXC G b (fun k M' N' => X k ∧ M' = M ∧ N' = N)) 1 6 (zA b) := by
  refine vx_ofW (cc := prog_1_method_21_code) (maxL := 1) (ret := (Option.none : Option Jvm.ClassFile.FieldType)) (by decide) rfl ?_
  intro p e s m args below meth c s₁ B hml hno hv
  obtain ⟨rfl, hZ, hK, hT⟩ := hv
  have hx := B.exec
  have hb := B.bytes
  have hr := B.returns
  have hts := atoms_spec (ws := ws_IS_requireRegister) B.pre
  have hta : ∀ w ∈ zall, w.before ([.int a0] : List Value).toArray s = true := fun w h => hts w (List.mem_cons_of_mem _ h)
  have hown : s.vm.findClass R_IS = some m.cls := findClass_of_methodNamed B.named
  have hlocks := B.notSynchronized
  have hS : va_S (zA b) s.heap s.heap [] := va_S.rf
  have hl := lv_entry ([.int a0]) (n := 1) (Nat.le_of_ble_eq_true rfl)
  rw [lg_entry_eq]
  generalize (lg_sl ([.int a0]) ++ List.replicate (1 - (lg_sl ([.int a0])).length) Slot.unset).toArray = ls at hl ⊢
  have hl : lv_has ls 1 [(0, .int a0)] := hl
  have j9 : ∀  (H : Heap) (ls : Array Slot) (locs : List Loc), va_P G.1 zCl (zws G b M N) H → va_S (zA b) s.heap H locs → lv_has ls 1 [] → J_IS_requireRegister_9 P X → W p l e (headSpec ws_IS_requireRegister rm_IS_requireRegister).room s m ([.int a0] : List Value).toArray below meth c H locs 0 0 (vx_MQ below (zQv G b (fun M' N' => P ∧ M' = M ∧ N' = N)) (zXC G b (fun k M' N' => X k ∧ M' = M ∧ N' = N)) ([.int a0] : List Value).toArray s 1 6 (zA b)) (F0 m 9 ls []) := by
    intro  H ls locs hZ hS hl hw
    unfold J_IS_requireRegister_9 at hw
    exact z_xthrow (k := 1) (pc := 9) hx hb hst hown (hta _ wd226) (hta _ wd11) (xat_IS_requireRegister_9 hta hT.1) (by decide) xat_IS_requireRegister_9_g hno hlocks hK hT hZ hS (hl.1.trans hml.symm) d_IS_requireRegister_9 d_IS_requireRegister_12 d_IS_requireRegister_13 d_IS_requireRegister_16 (Nat.le_of_ble_eq_true rfl) (Nat.le_of_ble_eq_true rfl) (Nat.le_of_ble_eq_true rfl) (Nat.le_of_ble_eq_true rfl) ⟨hw, rfl, rfl⟩ (by decide) (by decide)
  unfold w_IS_requireRegister at hw
  refine lv_iload_n (pc := 0) hx hb d_IS_requireRegister_0 rfl (lv_at hl 0 rfl) ?_
  refine lv_if_lt (pc := 1) (tgt := 9) hx hb d_IS_requireRegister_1 (by decide) (fun hc => ?_) (fun hc => ?_)
  · have hw := hw.1 hc
    exact j9  _ _ _ hZ hS (lv_sub hl [] rfl) hw
  · have hw := hw.2 hc
    refine lv_iload_n (pc := 4) hx hb d_IS_requireRegister_4 rfl (lv_at hl 0 rfl) ?_
    refine lv_iconst (pc := 5) (v := 4) hx hb d_IS_requireRegister_5 (by decide) ?_
    refine lv_icmp_lt (pc := 6) (tgt := 17) hx hb d_IS_requireRegister_6 (by decide) (fun hc => ?_) (fun hc => ?_)
    · have hw := hw.1 hc
      refine W.widen (k := 1) (n := 6) (by decide) (by decide) ?_
      exact vx_ret (z_vret hx hb hr hlocks hK hT hZ hS ⟨hw, rfl, rfl⟩ d_IS_requireRegister_17)
    · have hw := hw.2 hc
      exact j9  _ _ _ hZ hS (lv_sub hl [] rfl) hw
theorem xat_IS_requirePlace_10_w : ∀ w ∈ (vx_at0 R_IS 151 (zxn 1) ["java/lang/RuntimeException", "java/lang/Exception"]).filter goodWord, w ∈ lw_tbl := by decide +kernel
theorem xat_IS_requirePlace_10_g : ∀ w ∈ Cond.classLink R_IS 149 (zxn 1) :: Cond.initialized (zxn 1) :: vx_at0 R_IS 151 (zxn 1) ["java/lang/RuntimeException", "java/lang/Exception"], vx_ot w = true := by decide +kernel
theorem xat_IS_requirePlace_10_b : ∀ w ∈ (vx_at0 R_IS 151 (zxn 1) ["java/lang/RuntimeException", "java/lang/Exception"]).filter (fun w => !goodWord w), w ∈ Cond.castable (zxn 1) (zxn 1) :: zdec.map Cond.declares := by decide +kernel
theorem xat_IS_requirePlace_10 {args : Array Value} {s : State} (hta : ∀ w ∈ zall, w.before args s = true) (hn : zNw s) : ∀ w ∈ vx_at0 R_IS 151 (zxn 1) ["java/lang/RuntimeException", "java/lang/Exception"], w.before args s = true :=
  vx_hat (fun w h => hta w (List.mem_filter.mpr ⟨xat_IS_requirePlace_10_w w h, (List.mem_filter.mp h).2⟩)) xat_IS_requirePlace_10_b (fun w h => by
    rcases List.mem_cons.mp h with rfl | h
    · exact va_Nw.use rfl (hn.1 1 (by decide) (by decide))
    · obtain ⟨y, hy, rfl⟩ := List.mem_map.mp h
      exact va_Nw.use rfl (hn.2.1 y hy))
theorem d_IS_requirePlace_0 : decode prog_1_method_22_code 0 = .ok (.iload_n 0, 1) := by decide +kernel
theorem d_IS_requirePlace_1 : decode prog_1_method_22_code 1 = .ok (.ifCond .lt 9, 3) := by decide +kernel
theorem d_IS_requirePlace_4 : decode prog_1_method_22_code 4 = .ok (.iload_n 0, 1) := by decide +kernel
theorem d_IS_requirePlace_5 : decode prog_1_method_22_code 5 = .ok (.bipush 8, 2) := by decide +kernel
theorem d_IS_requirePlace_7 : decode prog_1_method_22_code 7 = .ok (.if_icmp .lt 11, 3) := by decide +kernel
theorem d_IS_requirePlace_10 : decode prog_1_method_22_code 10 = .ok (.new 149, 3) := by decide +kernel
theorem d_IS_requirePlace_13 : decode prog_1_method_22_code 13 = .ok (.dup, 1) := by decide +kernel
theorem d_IS_requirePlace_14 : decode prog_1_method_22_code 14 = .ok (.invokespecial 151, 3) := by decide +kernel
theorem d_IS_requirePlace_17 : decode prog_1_method_22_code 17 = .ok (.athrow, 1) := by decide +kernel
theorem d_IS_requirePlace_18 : decode prog_1_method_22_code 18 = .ok (.return_, 1) := by decide +kernel
def J_IS_requirePlace_10 (P : Prop) (X : Nat → Prop) : Prop := X 1
def w_IS_requirePlace (a0 : Int32) (P : Prop) (X : Nat → Prop) : Prop := (a0 < 0 → J_IS_requirePlace_10 P X) ∧ (¬ a0 < 0 → (a0 < (8 : Int32) → P) ∧ (¬ a0 < (8 : Int32) → J_IS_requirePlace_10 P X))
def ws_IS_requirePlace : List Cond := .code y_IS_requirePlace prog_1_method_22_code 1 (Option.none : Option Jvm.ClassFile.FieldType) :: zall
def rm_IS_requirePlace : Room := { frames := 6, cells := 1, slots := 6, locals := 89 }
theorem hd_IS_requirePlace : y_IS_requirePlace.cls ≠ "java/lang/invoke/MethodHandle" ∧ y_IS_requirePlace.cls ≠ "java/lang/invoke/VarHandle" ∧ (parseMethodDescriptor y_IS_requirePlace.desc).map (fun d => d.parameters.length) = some 1 := by decide +kernel
set_option maxHeartbeats 4000000 in
set_option maxRecDepth 100000 in
theorem c_IS_requirePlace (l : Launch) (hst : l.stackTraces = false) (G : zG) (b : Nat) (a0 : Int32) (M : zM) (N : zN) {P : Prop} {X : Nat → Prop} (hw : w_IS_requirePlace a0  P X) : vx_Met l y_IS_requirePlace ws_IS_requirePlace rm_IS_requirePlace (zPc G b M N [.int a0]) (zQv G b (fun M' N' => P ∧ M' = M ∧ N' = N)) (zXC G b (fun k M' N' => X k ∧ M' = M ∧ N' = N)) 1 6 (zA b) := by
  refine vx_ofW (cc := prog_1_method_22_code) (maxL := 1) (ret := (Option.none : Option Jvm.ClassFile.FieldType)) (by decide) rfl ?_
  intro p e s m args below meth c s₁ B hml hno hv
  obtain ⟨rfl, hZ, hK, hT⟩ := hv
  have hx := B.exec
  have hb := B.bytes
  have hr := B.returns
  have hts := atoms_spec (ws := ws_IS_requirePlace) B.pre
  have hta : ∀ w ∈ zall, w.before ([.int a0] : List Value).toArray s = true := fun w h => hts w (List.mem_cons_of_mem _ h)
  have hown : s.vm.findClass R_IS = some m.cls := findClass_of_methodNamed B.named
  have hlocks := B.notSynchronized
  have hS : va_S (zA b) s.heap s.heap [] := va_S.rf
  have hl := lv_entry ([.int a0]) (n := 1) (Nat.le_of_ble_eq_true rfl)
  rw [lg_entry_eq]
  generalize (lg_sl ([.int a0]) ++ List.replicate (1 - (lg_sl ([.int a0])).length) Slot.unset).toArray = ls at hl ⊢
  have hl : lv_has ls 1 [(0, .int a0)] := hl
  have j10 : ∀  (H : Heap) (ls : Array Slot) (locs : List Loc), va_P G.1 zCl (zws G b M N) H → va_S (zA b) s.heap H locs → lv_has ls 1 [] → J_IS_requirePlace_10 P X → W p l e (headSpec ws_IS_requirePlace rm_IS_requirePlace).room s m ([.int a0] : List Value).toArray below meth c H locs 0 0 (vx_MQ below (zQv G b (fun M' N' => P ∧ M' = M ∧ N' = N)) (zXC G b (fun k M' N' => X k ∧ M' = M ∧ N' = N)) ([.int a0] : List Value).toArray s 1 6 (zA b)) (F0 m 10 ls []) := by
    intro  H ls locs hZ hS hl hw
    unfold J_IS_requirePlace_10 at hw
    exact z_xthrow (k := 1) (pc := 10) hx hb hst hown (hta _ wd226) (hta _ wd11) (xat_IS_requirePlace_10 hta hT.1) (by decide) xat_IS_requirePlace_10_g hno hlocks hK hT hZ hS (hl.1.trans hml.symm) d_IS_requirePlace_10 d_IS_requirePlace_13 d_IS_requirePlace_14 d_IS_requirePlace_17 (Nat.le_of_ble_eq_true rfl) (Nat.le_of_ble_eq_true rfl) (Nat.le_of_ble_eq_true rfl) (Nat.le_of_ble_eq_true rfl) ⟨hw, rfl, rfl⟩ (by decide) (by decide)
  unfold w_IS_requirePlace at hw
  refine lv_iload_n (pc := 0) hx hb d_IS_requirePlace_0 rfl (lv_at hl 0 rfl) ?_
  refine lv_if_lt (pc := 1) (tgt := 10) hx hb d_IS_requirePlace_1 (by decide) (fun hc => ?_) (fun hc => ?_)
  · have hw := hw.1 hc
    exact j10  _ _ _ hZ hS (lv_sub hl [] rfl) hw
  · have hw := hw.2 hc
    refine lv_iload_n (pc := 4) hx hb d_IS_requirePlace_4 rfl (lv_at hl 0 rfl) ?_
    refine lv_bipush (pc := 5) (v := 8) hx hb d_IS_requirePlace_5 (by decide) ?_
    refine lv_icmp_lt (pc := 7) (tgt := 18) hx hb d_IS_requirePlace_7 (by decide) (fun hc => ?_) (fun hc => ?_)
    · have hw := hw.1 hc
      refine W.widen (k := 1) (n := 6) (by decide) (by decide) ?_
      exact vx_ret (z_vret hx hb hr hlocks hK hT hZ hS ⟨hw, rfl, rfl⟩ d_IS_requirePlace_18)
    · have hw := hw.2 hc
      exact j10  _ _ _ hZ hS (lv_sub hl [] rfl) hw
theorem d_Ro_degreeOf_0 : decode prog_7_method_2_code 0 = .ok (.aload_n 0, 1) := by decide +kernel
theorem d_Ro_degreeOf_1 : decode prog_7_method_2_code 1 = .ok (.arraylength, 1) := by decide +kernel
theorem d_Ro_degreeOf_2 : decode prog_7_method_2_code 2 = .ok (.iconst 1, 1) := by decide +kernel
theorem d_Ro_degreeOf_3 : decode prog_7_method_2_code 3 = .ok (.isub, 1) := by decide +kernel
theorem d_Ro_degreeOf_4 : decode prog_7_method_2_code 4 = .ok (.istore_n 1, 1) := by decide +kernel
theorem d_Ro_degreeOf_5 : decode prog_7_method_2_code 5 = .ok (.iload_n 1, 1) := by decide +kernel
theorem d_Ro_degreeOf_6 : decode prog_7_method_2_code 6 = .ok (.ifCond .lt 19, 3) := by decide +kernel
theorem d_Ro_degreeOf_9 : decode prog_7_method_2_code 9 = .ok (.aload_n 0, 1) := by decide +kernel
theorem d_Ro_degreeOf_10 : decode prog_7_method_2_code 10 = .ok (.iload_n 1, 1) := by decide +kernel
theorem d_Ro_degreeOf_11 : decode prog_7_method_2_code 11 = .ok (.laload, 1) := by decide +kernel
theorem d_Ro_degreeOf_12 : decode prog_7_method_2_code 12 = .ok (.lconst 0, 1) := by decide +kernel
theorem d_Ro_degreeOf_13 : decode prog_7_method_2_code 13 = .ok (.lcmp, 1) := by decide +kernel
theorem d_Ro_degreeOf_14 : decode prog_7_method_2_code 14 = .ok (.ifCond .eq 5, 3) := by decide +kernel
theorem d_Ro_degreeOf_17 : decode prog_7_method_2_code 17 = .ok (.iload_n 1, 1) := by decide +kernel
theorem d_Ro_degreeOf_18 : decode prog_7_method_2_code 18 = .ok (.ireturn, 1) := by decide +kernel
theorem d_Ro_degreeOf_19 : decode prog_7_method_2_code 19 = .ok (.iinc 1 (-1), 3) := by decide +kernel
theorem d_Ro_degreeOf_22 : decode prog_7_method_2_code 22 = .ok (.goto (-17), 3) := by decide +kernel
theorem d_Ro_degreeOf_25 : decode prog_7_method_2_code 25 = .ok (.iconst (-1), 1) := by decide +kernel
theorem d_Ro_degreeOf_26 : decode prog_7_method_2_code 26 = .ok (.ireturn, 1) := by decide +kernel
def B_Ro_degreeOf_5 (P : Int32 → Prop) (a0 : Nat) (M : zM) (k5 : Int32 → Prop) (v1 : Int32) : Prop := (v1 < 0 → P (-1 : Int32)) ∧ (¬ v1 < 0 → vp_in v1 (zlong a0) ∧ ((M a0 v1.toNatClampNeg) = (0 : Int64) → k5 (v1 + (-1 : Int32))) ∧ (¬ (M a0 v1.toNatClampNeg) = (0 : Int64) → P v1))
def L_Ro_degreeOf_5 (P : Int32 → Prop) (a0 : Nat) (M : zM) (n : Nat) : Int32 → Prop := Nat.rec (fun _ => False) (fun _ k => B_Ro_degreeOf_5 P a0 M k) n
def w_Ro_degreeOf (a0 : Nat) (M : zM) (P : Int32 → Prop) : Prop := 0 < zlong a0 ∧ ∀ x1 : Int32, x1 = (Int32.ofNat (zlong a0)) - (1 : Int32) → ∃ n, L_Ro_degreeOf_5 P a0 M n x1
def ws_Ro_degreeOf : List Cond := .code y_Ro_degreeOf prog_7_method_2_code 2 (Option.some Jvm.ClassFile.FieldType.int) :: zall
def rm_Ro_degreeOf : Room := { frames := 0, cells := 0, slots := 0, locals := 0 }
theorem hd_Ro_degreeOf : y_Ro_degreeOf.cls ≠ "java/lang/invoke/MethodHandle" ∧ y_Ro_degreeOf.cls ≠ "java/lang/invoke/VarHandle" ∧ (parseMethodDescriptor y_Ro_degreeOf.desc).map (fun d => d.parameters.length) = some 1 := by decide +kernel
set_option maxHeartbeats 4000000 in
set_option maxRecDepth 100000 in
theorem c_Ro_degreeOf (l : Launch) (G : zG) (b : Nat) (a0 : Nat) (M : zM) (N : zN) {P : Int32 → Prop} (hw : w_Ro_degreeOf a0 M P) : Met l y_Ro_degreeOf ws_Ro_degreeOf rm_Ro_degreeOf (zPc G b M N [.ref (b + a0)]) (zQi G b (fun r M' N' => P r ∧ M' = M ∧ N' = N)) 0 0 (zA b) := by
  refine Met.ofW (cc := prog_7_method_2_code) (maxL := 2) (ret := (Option.some Jvm.ClassFile.FieldType.int)) (by decide) rfl ?_
  intro p e s m args below meth c s₁ B hml hv
  obtain ⟨rfl, hZ, hK, hT⟩ := hv
  have hx := B.exec
  have hb := B.bytes
  have hr := B.returns
  have hts := atoms_spec (ws := ws_Ro_degreeOf) B.pre
  have hta : ∀ w ∈ zall, w.before ([.ref (b + a0)] : List Value).toArray s = true := fun w h => hts w (List.mem_cons_of_mem _ h)
  have hown : s.vm.findClass R_Ro = some m.cls := findClass_of_methodNamed B.named
  have hlocks := B.notSynchronized
  have hS : va_S (zA b) s.heap s.heap [] := va_S.rf
  have hl := lv_entry ([.ref (b + a0)]) (n := 2) (Nat.le_of_ble_eq_true rfl)
  rw [lg_entry_eq]
  generalize (lg_sl ([.ref (b + a0)]) ++ List.replicate (2 - (lg_sl ([.ref (b + a0)])).length) Slot.unset).toArray = ls at hl ⊢
  have hl : lv_has ls 2 [(0, .ref (b + a0))] := hl
  have lp5 : ∀ (n : Nat) (v1 : Int32) (H : Heap) (ls : Array Slot) (locs : List Loc), va_P G.1 zCl (zws G b M N) H → va_S (zA b) s.heap H locs → lv_has ls 2 [(0, .ref (b + a0)), (1, .int v1)] → L_Ro_degreeOf_5 P a0 M n v1 → W p l e (headSpec ws_Ro_degreeOf rm_Ro_degreeOf).room s m ([.ref (b + a0)] : List Value).toArray below meth c H locs 0 0 (MQ below (zQi G b (fun r M' N' => P r ∧ M' = M ∧ N' = N)) ([.ref (b + a0)] : List Value).toArray s 0 0 (zA b)) (F0 m 5 ls []) := by
    intro  n
    induction n with
    | zero => intro v1 H ls locs hZ hS hl hw; exact False.elim hw
    | succ n5 ih5 =>
      intro v1 H ls locs hZ hS hl hw
      have hw : B_Ro_degreeOf_5 P a0 M (L_Ro_degreeOf_5 P a0 M n5) v1 := hw
      unfold B_Ro_degreeOf_5 at hw
      refine lv_iload_n (pc := 5) hx hb d_Ro_degreeOf_5 rfl (lv_at hl 1 rfl) ?_
      refine lv_if_lt (pc := 6) (tgt := 25) hx hb d_Ro_degreeOf_6 (by decide) (fun hc => ?_) (fun hc => ?_)
      · have hw := hw.1 hc
        refine lv_iconst (pc := 25) (v := -1) hx hb d_Ro_degreeOf_25 (by decide) ?_
        exact z_iret hx hb hr hlocks hK hT hZ hS ⟨hw, rfl, rfl⟩ d_Ro_degreeOf_26
      · have hw := hw.2 hc
        refine lv_aload_n (pc := 9) hx hb d_Ro_degreeOf_9 rfl (lv_at hl 0 rfl) ?_
        refine lv_iload_n (pc := 10) hx hb d_Ro_degreeOf_10 rfl (lv_at hl 1 rfl) ?_
        obtain ⟨hc, hw⟩ := hw
        refine z_lald (pc := 11) hx hb hK hZ hc d_Ro_degreeOf_11 ?_
        refine lv_lconst (pc := 12) (v := 0) hx hb d_Ro_degreeOf_12 (by decide) ?_
        refine z_lc_eq (pc := 13) (tgt := 19) hx hb d_Ro_degreeOf_13 d_Ro_degreeOf_14 (by decide) (fun hc => ?_) (fun hc => ?_)
        · have hw := hw.1 hc
          refine lv_iinc (pc := 19) (k := 1) (v := v1 + (-1 : Int32)) (lv' := [(1, .int (v1 + (-1 : Int32))), (0, .ref (b + a0))]) hx hb d_Ro_degreeOf_19 hl rfl (by rfl) (by decide) rfl (fun ls hl => ?_)
          refine lv_goto (pc := 22) (tgt := 5) hx hb d_Ro_degreeOf_22 (by decide) ?_
          exact ih5 (v1 + (-1 : Int32)) _ _ _ hZ hS (lv_sub hl [1, 0] rfl) hw
        · have hw := hw.2 hc
          refine lv_iload_n (pc := 17) hx hb d_Ro_degreeOf_17 rfl (lv_at hl 1 rfl) ?_
          exact z_iret hx hb hr hlocks hK hT hZ hS ⟨hw, rfl, rfl⟩ d_Ro_degreeOf_18
  unfold w_Ro_degreeOf at hw
  refine lv_aload_n (pc := 0) hx hb d_Ro_degreeOf_0 rfl (lv_at hl 0 rfl) ?_
  obtain ⟨hc, hw⟩ := hw
  refine z_alen (pc := 1) hx hb hK hZ hc d_Ro_degreeOf_1 ?_
  refine lv_iconst (pc := 2) (v := 1) hx hb d_Ro_degreeOf_2 (by decide) ?_
  refine lv_isub (pc := 3) hx hb d_Ro_degreeOf_3 ?_
  refine lv_topi (fun x1 hx1 => ?_)
  have hw := hw x1 hx1
  refine lv_istore_n (pc := 4) (lv' := [(1, .int x1), (0, .ref (b + a0))]) hx hb d_Ro_degreeOf_4 rfl hl (by decide) rfl (fun ls hl => ?_)
  obtain ⟨n, hw⟩ := hw
  exact lp5  n x1 _ _ _ hZ hS (lv_sub hl [1, 0] rfl) hw
theorem zg_IS_11 {p : Program} {l : Launch} {e : Env} {R : Room} {s : State} {m : MethodId} {args : Array Value} {below : List Frame} {meth : Method} {c : Code} {H : Heap} {locs : List Loc} {cells slots : Nat} {Q : State → Prop} {cc : ByteArray} {pc : Nat} {ls : Array Slot} {rest : List Value} {G : zG} {b : Nat} {M : zM} {N : zN} (hx : p.tables.exec = Jvm.exec) (hb : c.code = cc) (hta : ∀ w ∈ zall, w.before args s = true) (hown : s.vm.findClass R_IS = some m.cls) (hK : va_K G.1 zCl (zty G) s) (hZ : va_P G.1 zCl (zws G b M N) H) (hdg : decode cc pc = .ok (.getfield 11, 3)) (kk : W p l e R s m args below meth c H locs cells slots Q (F0 m (pc + 3) ls (.ref (b + 1) :: rest))) : W p l e R s m args below meth c H locs cells slots Q (F0 m pc ls (.ref (b + 0) :: rest)) :=
  va_get (D := G.1) (ci := 5) (v := .ref (b + 1)) (C := R_IS) (T := T_IS) (N := 7) hx hb hta hin_IS hown hK hZ 0 zo_IS rfl 0 (by decide) (hta _ wd188) (fun _ h9 => h9) rfl hdg kk
theorem xat_IS_put_20_w : ∀ w ∈ (vx_at0 R_IS 52 (zxn 2) ["java/lang/RuntimeException", "java/lang/Exception"]).filter goodWord, w ∈ lw_tbl := by decide +kernel
theorem xat_IS_put_20_g : ∀ w ∈ Cond.classLink R_IS 50 (zxn 2) :: Cond.initialized (zxn 2) :: vx_at0 R_IS 52 (zxn 2) ["java/lang/RuntimeException", "java/lang/Exception"], vx_ot w = true := by decide +kernel
theorem xat_IS_put_20_b : ∀ w ∈ (vx_at0 R_IS 52 (zxn 2) ["java/lang/RuntimeException", "java/lang/Exception"]).filter (fun w => !goodWord w), w ∈ Cond.castable (zxn 2) (zxn 2) :: zdec.map Cond.declares := by decide +kernel
theorem xat_IS_put_20 {args : Array Value} {s : State} (hta : ∀ w ∈ zall, w.before args s = true) (hn : zNw s) : ∀ w ∈ vx_at0 R_IS 52 (zxn 2) ["java/lang/RuntimeException", "java/lang/Exception"], w.before args s = true :=
  vx_hat (fun w h => hta w (List.mem_filter.mpr ⟨xat_IS_put_20_w w h, (List.mem_filter.mp h).2⟩)) xat_IS_put_20_b (fun w h => by
    rcases List.mem_cons.mp h with rfl | h
    · exact va_Nw.use rfl (hn.1 2 (by decide) (by decide))
    · obtain ⟨y, hy, rfl⟩ := List.mem_map.mp h
      exact va_Nw.use rfl (hn.2.1 y hy))
theorem d_IS_put_0 : decode prog_1_method_2_code 0 = .ok (.iload_n 1, 1) := by decide +kernel
theorem d_IS_put_1 : decode prog_1_method_2_code 1 = .ok (.invokestatic 41, 3) := by decide +kernel
theorem d_IS_put_4 : decode prog_1_method_2_code 4 = .ok (.iload_n 2, 1) := by decide +kernel
theorem d_IS_put_5 : decode prog_1_method_2_code 5 = .ok (.invokestatic 45, 3) := by decide +kernel
theorem d_IS_put_8 : decode prog_1_method_2_code 8 = .ok (.iload_n 3, 1) := by decide +kernel
theorem d_IS_put_9 : decode prog_1_method_2_code 9 = .ok (.ldc 48, 2) := by decide +kernel
theorem d_IS_put_11 : decode prog_1_method_2_code 11 = .ok (.if_icmp .lt 9, 3) := by decide +kernel
theorem d_IS_put_14 : decode prog_1_method_2_code 14 = .ok (.iload_n 3, 1) := by decide +kernel
theorem d_IS_put_15 : decode prog_1_method_2_code 15 = .ok (.ldc 49, 2) := by decide +kernel
theorem d_IS_put_17 : decode prog_1_method_2_code 17 = .ok (.if_icmp .le 11, 3) := by decide +kernel
theorem d_IS_put_20 : decode prog_1_method_2_code 20 = .ok (.new 50, 3) := by decide +kernel
theorem d_IS_put_23 : decode prog_1_method_2_code 23 = .ok (.dup, 1) := by decide +kernel
theorem d_IS_put_24 : decode prog_1_method_2_code 24 = .ok (.invokespecial 52, 3) := by decide +kernel
theorem d_IS_put_27 : decode prog_1_method_2_code 27 = .ok (.athrow, 1) := by decide +kernel
theorem d_IS_put_28 : decode prog_1_method_2_code 28 = .ok (.aload_n 0, 1) := by decide +kernel
theorem d_IS_put_29 : decode prog_1_method_2_code 29 = .ok (.getfield 11, 3) := by decide +kernel
theorem d_IS_put_32 : decode prog_1_method_2_code 32 = .ok (.iload_n 1, 1) := by decide +kernel
theorem d_IS_put_33 : decode prog_1_method_2_code 33 = .ok (.aaload, 1) := by decide +kernel
theorem d_IS_put_34 : decode prog_1_method_2_code 34 = .ok (.iload_n 2, 1) := by decide +kernel
theorem d_IS_put_35 : decode prog_1_method_2_code 35 = .ok (.iload_n 3, 1) := by decide +kernel
theorem d_IS_put_36 : decode prog_1_method_2_code 36 = .ok (.i2l, 1) := by decide +kernel
theorem d_IS_put_37 : decode prog_1_method_2_code 37 = .ok (.lastore, 1) := by decide +kernel
theorem d_IS_put_38 : decode prog_1_method_2_code 38 = .ok (.aload_n 0, 1) := by decide +kernel
theorem d_IS_put_39 : decode prog_1_method_2_code 39 = .ok (.getfield 11, 3) := by decide +kernel
theorem d_IS_put_42 : decode prog_1_method_2_code 42 = .ok (.iload_n 1, 1) := by decide +kernel
theorem d_IS_put_43 : decode prog_1_method_2_code 43 = .ok (.aaload, 1) := by decide +kernel
theorem d_IS_put_44 : decode prog_1_method_2_code 44 = .ok (.invokestatic 53, 3) := by decide +kernel
theorem d_IS_put_47 : decode prog_1_method_2_code 47 = .ok (.ireturn, 1) := by decide +kernel
def J_IS_put_20 (P : Int32 → zM → Prop) (X : Nat → zM → Prop) (M : zM) : Prop := X 2 M
def w_IS_put (a1 : Int32) (a2 : Int32) (a3 : Int32) (M : zM) (P : Int32 → zM → Prop) (X : Nat → zM → Prop) : Prop := w_IS_requireRegister a1  (w_IS_requirePlace a2  ((a3 < (-99999 : Int32) → J_IS_put_20 P X M) ∧ (¬ a3 < (-99999 : Int32) → (a3 ≤ (99999 : Int32) → vp_in a1 (zgn 1) ∧ vp_in a2 (zlong (1 + 1 + a1.toNatClampNeg)) ∧ ∀ M7 : zM, M7 = zput M (1 + 1 + a1.toNatClampNeg) a2.toNatClampNeg a3.toInt64 → vp_in a1 (zgn 1) ∧ w_Ro_degreeOf (1 + 1 + a1.toNatClampNeg) M7 (fun r8 => P r8 M7)) ∧ (¬ a3 ≤ (99999 : Int32) → J_IS_put_20 P X M))) (fun k => X k M)) (fun k => X k M)
def ws_IS_put : List Cond := .code y_IS_put prog_1_method_2_code 4 (Option.some Jvm.ClassFile.FieldType.int) :: zall
def rm_IS_put : Room := { frames := 7, cells := 3, slots := 18, locals := 109 }
theorem hd_IS_put : y_IS_put.cls ≠ "java/lang/invoke/MethodHandle" ∧ y_IS_put.cls ≠ "java/lang/invoke/VarHandle" ∧ (parseMethodDescriptor y_IS_put.desc).map (fun d => d.parameters.length) = some 3 := by decide +kernel
set_option maxHeartbeats 4000000 in
set_option maxRecDepth 100000 in
theorem c_IS_put (l : Launch) (hst : l.stackTraces = false) (G : zG) (b : Nat) (a1 : Int32) (a2 : Int32) (a3 : Int32) (M : zM) (N : zN) {P : Int32 → zM → Prop} {X : Nat → zM → Prop} (hw : w_IS_put a1 a2 a3 M P X) : vx_Met l y_IS_put ws_IS_put rm_IS_put (zPc G b M N [.ref (b + 0), .int a1, .int a2, .int a3]) (zQi G b (fun r M' N' => P r M' ∧ N' = N)) (zXC G b (fun k M' N' => X k M' ∧ N' = N)) 3 18 (zA b) := by
  refine vx_ofW (cc := prog_1_method_2_code) (maxL := 4) (ret := (Option.some Jvm.ClassFile.FieldType.int)) (by decide) rfl ?_
  intro p e s m args below meth c s₁ B hml hno hv
  obtain ⟨rfl, hZ, hK, hT⟩ := hv
  have hx := B.exec
  have hb := B.bytes
  have hr := B.returns
  have hts := atoms_spec (ws := ws_IS_put) B.pre
  have hta : ∀ w ∈ zall, w.before ([.ref (b + 0), .int a1, .int a2, .int a3] : List Value).toArray s = true := fun w h => hts w (List.mem_cons_of_mem _ h)
  have hown : s.vm.findClass R_IS = some m.cls := findClass_of_methodNamed B.named
  have hlocks := B.notSynchronized
  have hS : va_S (zA b) s.heap s.heap [] := va_S.rf
  have hl := lv_entry ([.ref (b + 0), .int a1, .int a2, .int a3]) (n := 4) (Nat.le_of_ble_eq_true rfl)
  rw [lg_entry_eq]
  generalize (lg_sl ([.ref (b + 0), .int a1, .int a2, .int a3]) ++ List.replicate (4 - (lg_sl ([.ref (b + 0), .int a1, .int a2, .int a3])).length) Slot.unset).toArray = ls at hl ⊢
  have hl : lv_has ls 4 [(0, .ref (b + 0)), (1, .int a1), (2, .int a2), (3, .int a3)] := hl
  have j20 : ∀ (M : zM) (H : Heap) (ls : Array Slot) (locs : List Loc), va_P G.1 zCl (zws G b M N) H → va_S (zA b) s.heap H locs → lv_has ls 4 [] → J_IS_put_20 P X M → W p l e (headSpec ws_IS_put rm_IS_put).room s m ([.ref (b + 0), .int a1, .int a2, .int a3] : List Value).toArray below meth c H locs 2 12 (vx_MQ below (zQi G b (fun r M' N' => P r M' ∧ N' = N)) (zXC G b (fun k M' N' => X k M' ∧ N' = N)) ([.ref (b + 0), .int a1, .int a2, .int a3] : List Value).toArray s 3 18 (zA b)) (F0 m 20 ls []) := by
    intro M H ls locs hZ hS hl hw
    unfold J_IS_put_20 at hw
    exact z_xthrow (k := 2) (pc := 20) hx hb hst hown (hta _ wd296) (hta _ wd12) (xat_IS_put_20 hta hT.1) (by decide) xat_IS_put_20_g hno hlocks hK hT hZ hS (hl.1.trans hml.symm) d_IS_put_20 d_IS_put_23 d_IS_put_24 d_IS_put_27 (Nat.le_of_ble_eq_true rfl) (Nat.le_of_ble_eq_true rfl) (Nat.le_of_ble_eq_true rfl) (Nat.le_of_ble_eq_true rfl) ⟨hw, rfl⟩ (by decide) (by decide)
  unfold w_IS_put at hw
  refine lv_iload_n (pc := 0) hx hb d_IS_put_0 rfl (lv_at hl 1 rfl) ?_
  refine z_xcallv (pc := 1) (vx_runS (As := [.int a1]) (rest := []) ⟨hx, hb, hml, hown, hts⟩ (c_IS_requireRegister l hst G b a1 M N hw) (va_cwS 1 hts (z_good (zgS wd223 wd224 wd1 wd225)) rfl rfl rfl hd_IS_requireRegister ⟨Nat.le_of_ble_eq_true rfl, Nat.le_of_ble_eq_true rfl⟩) (z_preS hZ hK hT hS) rfl rfl hl.1 rfl (lv_room (Nat.le_of_ble_eq_true rfl)) d_IS_put_1 ⟨Nat.le_of_ble_eq_true rfl, Nat.le_of_ble_eq_true rfl⟩) hS (fun k q ce M13 N14 H locs hw hZ hS h1 h2 h3 => ?_) (fun M2 N3 H locs hw hZ hS => ?_)
  · obtain ⟨hw, eM13, eN14⟩ := hw
    rw [eM13, eN14] at hZ
    exact z_xout hno hlocks hK hT hZ hS h1 h2 h3 ⟨hw, rfl⟩ (by decide) (by decide)
  · obtain ⟨hw, eM2, eN3⟩ := hw
    rw [eM2, eN3] at hZ
    refine lv_iload_n (pc := 4) hx hb d_IS_put_4 rfl (lv_at hl 2 rfl) ?_
    refine z_xcallv (pc := 5) (vx_runS (As := [.int a2]) (rest := []) ⟨hx, hb, hml, hown, hts⟩ (c_IS_requirePlace l hst G b a2 M N hw) (va_cwS 1 hts (z_good (zgS wd291 wd292 wd1 wd293)) rfl rfl rfl hd_IS_requirePlace ⟨Nat.le_of_ble_eq_true rfl, Nat.le_of_ble_eq_true rfl⟩) (z_preS hZ hK hT hS) rfl rfl hl.1 rfl (lv_room (Nat.le_of_ble_eq_true rfl)) d_IS_put_5 ⟨Nat.le_of_ble_eq_true rfl, Nat.le_of_ble_eq_true rfl⟩) hS (fun k q ce M11 N12 H locs hw hZ hS h1 h2 h3 => ?_) (fun M5 N6 H locs hw hZ hS => ?_)
    · obtain ⟨hw, eM11, eN12⟩ := hw
      rw [eM11, eN12] at hZ
      exact z_xout hno hlocks hK hT hZ hS h1 h2 h3 ⟨hw, rfl⟩ (by decide) (by decide)
    · obtain ⟨hw, eM5, eN6⟩ := hw
      rw [eM5, eN6] at hZ
      refine lv_iload_n (pc := 8) hx hb d_IS_put_8 rfl (lv_at hl 3 rfl) ?_
      refine lv_ldc (pc := 9) (v := -99999) hx hb hown (hta _ wd294) d_IS_put_9 ?_
      refine lv_icmp_lt (pc := 11) (tgt := 20) hx hb d_IS_put_11 (by decide) (fun hc => ?_) (fun hc => ?_)
      · have hw := hw.1 hc
        exact j20 M _ _ _ hZ hS (lv_sub hl [] rfl) hw
      · have hw := hw.2 hc
        refine lv_iload_n (pc := 14) hx hb d_IS_put_14 rfl (lv_at hl 3 rfl) ?_
        refine lv_ldc (pc := 15) (v := 99999) hx hb hown (hta _ wd295) d_IS_put_15 ?_
        refine lv_icmp_le (pc := 17) (tgt := 28) hx hb d_IS_put_17 (by decide) (fun hc => ?_) (fun hc => ?_)
        · have hw := hw.1 hc
          refine lv_aload_n (pc := 28) hx hb d_IS_put_28 rfl (lv_at hl 0 rfl) ?_
          refine zg_IS_11 (pc := 29) hx hb hta hown hK hZ d_IS_put_29 ?_
          refine lv_iload_n (pc := 32) hx hb d_IS_put_32 rfl (lv_at hl 1 rfl) ?_
          obtain ⟨hc, hw⟩ := hw
          refine z_aald (pc := 33) hx hb hK hZ hc d_IS_put_33 ?_
          refine lv_iload_n (pc := 34) hx hb d_IS_put_34 rfl (lv_at hl 2 rfl) ?_
          refine lv_iload_n (pc := 35) hx hb d_IS_put_35 rfl (lv_at hl 3 rfl) ?_
          refine lv_i2l (pc := 36) (v := a3.toInt64) hx hb d_IS_put_36 rfl ?_
          obtain ⟨hc, hw⟩ := hw
          refine z_last (pc := 37) hx hb hK hZ hS hc d_IS_put_37 (fun M7 H locs hM7 hZ hS => ?_)
          have hw := hw M7 hM7
          refine lv_aload_n (pc := 38) hx hb d_IS_put_38 rfl (lv_at hl 0 rfl) ?_
          refine zg_IS_11 (pc := 39) hx hb hta hown hK hZ d_IS_put_39 ?_
          refine lv_iload_n (pc := 42) hx hb d_IS_put_42 rfl (lv_at hl 1 rfl) ?_
          obtain ⟨hc, hw⟩ := hw
          refine z_aald (pc := 43) hx hb hK hZ hc d_IS_put_43 ?_
          refine z_calli (pc := 44) (va_runS (As := [.ref (b + (1 + 1 + a1.toNatClampNeg))]) (rest := []) ⟨hx, hb, hml, hown, hts⟩ (c_Ro_degreeOf l G b (1 + 1 + a1.toNatClampNeg) M7 N hw) (va_cwS 1 hts (z_good (zgS wd311 wd312 wd13 wd313)) rfl rfl rfl hd_Ro_degreeOf ⟨Nat.le_of_ble_eq_true rfl, Nat.le_of_ble_eq_true rfl⟩) (z_preS hZ hK hT hS) rfl rfl hl.1 rfl (lv_room (Nat.le_of_ble_eq_true rfl)) d_IS_put_44 ⟨Nat.le_of_ble_eq_true rfl, Nat.le_of_ble_eq_true rfl⟩) hS (fun r8 M9 N10 H locs hw hZ hS => ?_)
          obtain ⟨hw, eM9, eN10⟩ := hw
          rw [eM9, eN10] at hZ
          refine W.widen (k := 3) (n := 18) (by decide) (by decide) ?_
          exact vx_ret (z_iret hx hb hr hlocks hK hT hZ hS ⟨hw, rfl⟩ d_IS_put_47)
        · have hw := hw.2 hc
          exact j20 M _ _ _ hZ hS (lv_sub hl [] rfl) hw
theorem d_IS_coefficient_0 : decode prog_1_method_3_code 0 = .ok (.iload_n 1, 1) := by decide +kernel
theorem d_IS_coefficient_1 : decode prog_1_method_3_code 1 = .ok (.invokestatic 41, 3) := by decide +kernel
theorem d_IS_coefficient_4 : decode prog_1_method_3_code 4 = .ok (.iload_n 2, 1) := by decide +kernel
theorem d_IS_coefficient_5 : decode prog_1_method_3_code 5 = .ok (.invokestatic 45, 3) := by decide +kernel
theorem d_IS_coefficient_8 : decode prog_1_method_3_code 8 = .ok (.aload_n 0, 1) := by decide +kernel
theorem d_IS_coefficient_9 : decode prog_1_method_3_code 9 = .ok (.getfield 11, 3) := by decide +kernel
theorem d_IS_coefficient_12 : decode prog_1_method_3_code 12 = .ok (.iload_n 1, 1) := by decide +kernel
theorem d_IS_coefficient_13 : decode prog_1_method_3_code 13 = .ok (.aaload, 1) := by decide +kernel
theorem d_IS_coefficient_14 : decode prog_1_method_3_code 14 = .ok (.iload_n 2, 1) := by decide +kernel
theorem d_IS_coefficient_15 : decode prog_1_method_3_code 15 = .ok (.laload, 1) := by decide +kernel
theorem d_IS_coefficient_16 : decode prog_1_method_3_code 16 = .ok (.l2i, 1) := by decide +kernel
theorem d_IS_coefficient_17 : decode prog_1_method_3_code 17 = .ok (.ireturn, 1) := by decide +kernel
def w_IS_coefficient (a1 : Int32) (a2 : Int32) (M : zM) (P : Int32 → Prop) (X : Nat → Prop) : Prop := w_IS_requireRegister a1  (w_IS_requirePlace a2  (vp_in a1 (zgn 1) ∧ vp_in a2 (zlong (1 + 1 + a1.toNatClampNeg)) ∧ P ((M (1 + 1 + a1.toNatClampNeg) a2.toNatClampNeg).toInt32)) (fun k => X k)) (fun k => X k)
def ws_IS_coefficient : List Cond := .code y_IS_coefficient prog_1_method_3_code 3 (Option.some Jvm.ClassFile.FieldType.int) :: zall
def rm_IS_coefficient : Room := { frames := 7, cells := 2, slots := 12, locals := 109 }
theorem hd_IS_coefficient : y_IS_coefficient.cls ≠ "java/lang/invoke/MethodHandle" ∧ y_IS_coefficient.cls ≠ "java/lang/invoke/VarHandle" ∧ (parseMethodDescriptor y_IS_coefficient.desc).map (fun d => d.parameters.length) = some 2 := by decide +kernel
set_option maxHeartbeats 4000000 in
set_option maxRecDepth 100000 in
theorem c_IS_coefficient (l : Launch) (hst : l.stackTraces = false) (G : zG) (b : Nat) (a1 : Int32) (a2 : Int32) (M : zM) (N : zN) {P : Int32 → Prop} {X : Nat → Prop} (hw : w_IS_coefficient a1 a2 M P X) : vx_Met l y_IS_coefficient ws_IS_coefficient rm_IS_coefficient (zPc G b M N [.ref (b + 0), .int a1, .int a2]) (zQi G b (fun r M' N' => P r ∧ M' = M ∧ N' = N)) (zXC G b (fun k M' N' => X k ∧ M' = M ∧ N' = N)) 2 12 (zA b) := by
  refine vx_ofW (cc := prog_1_method_3_code) (maxL := 3) (ret := (Option.some Jvm.ClassFile.FieldType.int)) (by decide) rfl ?_
  intro p e s m args below meth c s₁ B hml hno hv
  obtain ⟨rfl, hZ, hK, hT⟩ := hv
  have hx := B.exec
  have hb := B.bytes
  have hr := B.returns
  have hts := atoms_spec (ws := ws_IS_coefficient) B.pre
  have hta : ∀ w ∈ zall, w.before ([.ref (b + 0), .int a1, .int a2] : List Value).toArray s = true := fun w h => hts w (List.mem_cons_of_mem _ h)
  have hown : s.vm.findClass R_IS = some m.cls := findClass_of_methodNamed B.named
  have hlocks := B.notSynchronized
  have hS : va_S (zA b) s.heap s.heap [] := va_S.rf
  have hl := lv_entry ([.ref (b + 0), .int a1, .int a2]) (n := 3) (Nat.le_of_ble_eq_true rfl)
  rw [lg_entry_eq]
  generalize (lg_sl ([.ref (b + 0), .int a1, .int a2]) ++ List.replicate (3 - (lg_sl ([.ref (b + 0), .int a1, .int a2])).length) Slot.unset).toArray = ls at hl ⊢
  have hl : lv_has ls 3 [(0, .ref (b + 0)), (1, .int a1), (2, .int a2)] := hl
  unfold w_IS_coefficient at hw
  refine lv_iload_n (pc := 0) hx hb d_IS_coefficient_0 rfl (lv_at hl 1 rfl) ?_
  refine z_xcallv (pc := 1) (vx_runS (As := [.int a1]) (rest := []) ⟨hx, hb, hml, hown, hts⟩ (c_IS_requireRegister l hst G b a1 M N hw) (va_cwS 1 hts (z_good (zgS wd223 wd224 wd1 wd225)) rfl rfl rfl hd_IS_requireRegister ⟨Nat.le_of_ble_eq_true rfl, Nat.le_of_ble_eq_true rfl⟩) (z_preS hZ hK hT hS) rfl rfl hl.1 rfl (lv_room (Nat.le_of_ble_eq_true rfl)) d_IS_coefficient_1 ⟨Nat.le_of_ble_eq_true rfl, Nat.le_of_ble_eq_true rfl⟩) hS (fun k q ce M9 N10 H locs hw hZ hS h1 h2 h3 => ?_) (fun M2 N3 H locs hw hZ hS => ?_)
  · obtain ⟨hw, eM9, eN10⟩ := hw
    rw [eM9, eN10] at hZ
    exact z_xout hno hlocks hK hT hZ hS h1 h2 h3 ⟨hw, rfl, rfl⟩ (by decide) (by decide)
  · obtain ⟨hw, eM2, eN3⟩ := hw
    rw [eM2, eN3] at hZ
    refine lv_iload_n (pc := 4) hx hb d_IS_coefficient_4 rfl (lv_at hl 2 rfl) ?_
    refine z_xcallv (pc := 5) (vx_runS (As := [.int a2]) (rest := []) ⟨hx, hb, hml, hown, hts⟩ (c_IS_requirePlace l hst G b a2 M N hw) (va_cwS 1 hts (z_good (zgS wd291 wd292 wd1 wd293)) rfl rfl rfl hd_IS_requirePlace ⟨Nat.le_of_ble_eq_true rfl, Nat.le_of_ble_eq_true rfl⟩) (z_preS hZ hK hT hS) rfl rfl hl.1 rfl (lv_room (Nat.le_of_ble_eq_true rfl)) d_IS_coefficient_5 ⟨Nat.le_of_ble_eq_true rfl, Nat.le_of_ble_eq_true rfl⟩) hS (fun k q ce M7 N8 H locs hw hZ hS h1 h2 h3 => ?_) (fun M5 N6 H locs hw hZ hS => ?_)
    · obtain ⟨hw, eM7, eN8⟩ := hw
      rw [eM7, eN8] at hZ
      exact z_xout hno hlocks hK hT hZ hS h1 h2 h3 ⟨hw, rfl, rfl⟩ (by decide) (by decide)
    · obtain ⟨hw, eM5, eN6⟩ := hw
      rw [eM5, eN6] at hZ
      refine lv_aload_n (pc := 8) hx hb d_IS_coefficient_8 rfl (lv_at hl 0 rfl) ?_
      refine zg_IS_11 (pc := 9) hx hb hta hown hK hZ d_IS_coefficient_9 ?_
      refine lv_iload_n (pc := 12) hx hb d_IS_coefficient_12 rfl (lv_at hl 1 rfl) ?_
      obtain ⟨hc, hw⟩ := hw
      refine z_aald (pc := 13) hx hb hK hZ hc d_IS_coefficient_13 ?_
      refine lv_iload_n (pc := 14) hx hb d_IS_coefficient_14 rfl (lv_at hl 2 rfl) ?_
      obtain ⟨hc, hw⟩ := hw
      refine z_lald (pc := 15) hx hb hK hZ hc d_IS_coefficient_15 ?_
      refine lv_l2i (pc := 16) (v := (M (1 + 1 + a1.toNatClampNeg) a2.toNatClampNeg).toInt32) hx hb d_IS_coefficient_16 rfl ?_
      refine W.widen (k := 2) (n := 12) (by decide) (by decide) ?_
      exact vx_ret (z_iret hx hb hr hlocks hK hT hZ hS ⟨hw, rfl, rfl⟩ d_IS_coefficient_17)
theorem d_IS_degree_0 : decode prog_1_method_4_code 0 = .ok (.iload_n 1, 1) := by decide +kernel
theorem d_IS_degree_1 : decode prog_1_method_4_code 1 = .ok (.invokestatic 41, 3) := by decide +kernel
theorem d_IS_degree_4 : decode prog_1_method_4_code 4 = .ok (.aload_n 0, 1) := by decide +kernel
theorem d_IS_degree_5 : decode prog_1_method_4_code 5 = .ok (.getfield 11, 3) := by decide +kernel
theorem d_IS_degree_8 : decode prog_1_method_4_code 8 = .ok (.iload_n 1, 1) := by decide +kernel
theorem d_IS_degree_9 : decode prog_1_method_4_code 9 = .ok (.aaload, 1) := by decide +kernel
theorem d_IS_degree_10 : decode prog_1_method_4_code 10 = .ok (.invokestatic 53, 3) := by decide +kernel
theorem d_IS_degree_13 : decode prog_1_method_4_code 13 = .ok (.ireturn, 1) := by decide +kernel
def w_IS_degree (a1 : Int32) (M : zM) (P : Int32 → Prop) (X : Nat → Prop) : Prop := w_IS_requireRegister a1  (vp_in a1 (zgn 1) ∧ w_Ro_degreeOf (1 + 1 + a1.toNatClampNeg) M (fun r4 => P r4)) (fun k => X k)
def ws_IS_degree : List Cond := .code y_IS_degree prog_1_method_4_code 2 (Option.some Jvm.ClassFile.FieldType.int) :: zall
def rm_IS_degree : Room := { frames := 7, cells := 1, slots := 6, locals := 109 }
theorem hd_IS_degree : y_IS_degree.cls ≠ "java/lang/invoke/MethodHandle" ∧ y_IS_degree.cls ≠ "java/lang/invoke/VarHandle" ∧ (parseMethodDescriptor y_IS_degree.desc).map (fun d => d.parameters.length) = some 1 := by decide +kernel
set_option maxHeartbeats 4000000 in
set_option maxRecDepth 100000 in
theorem c_IS_degree (l : Launch) (hst : l.stackTraces = false) (G : zG) (b : Nat) (a1 : Int32) (M : zM) (N : zN) {P : Int32 → Prop} {X : Nat → Prop} (hw : w_IS_degree a1 M P X) : vx_Met l y_IS_degree ws_IS_degree rm_IS_degree (zPc G b M N [.ref (b + 0), .int a1]) (zQi G b (fun r M' N' => P r ∧ M' = M ∧ N' = N)) (zXC G b (fun k M' N' => X k ∧ M' = M ∧ N' = N)) 1 6 (zA b) := by
  refine vx_ofW (cc := prog_1_method_4_code) (maxL := 2) (ret := (Option.some Jvm.ClassFile.FieldType.int)) (by decide) rfl ?_
  intro p e s m args below meth c s₁ B hml hno hv
  obtain ⟨rfl, hZ, hK, hT⟩ := hv
  have hx := B.exec
  have hb := B.bytes
  have hr := B.returns
  have hts := atoms_spec (ws := ws_IS_degree) B.pre
  have hta : ∀ w ∈ zall, w.before ([.ref (b + 0), .int a1] : List Value).toArray s = true := fun w h => hts w (List.mem_cons_of_mem _ h)
  have hown : s.vm.findClass R_IS = some m.cls := findClass_of_methodNamed B.named
  have hlocks := B.notSynchronized
  have hS : va_S (zA b) s.heap s.heap [] := va_S.rf
  have hl := lv_entry ([.ref (b + 0), .int a1]) (n := 2) (Nat.le_of_ble_eq_true rfl)
  rw [lg_entry_eq]
  generalize (lg_sl ([.ref (b + 0), .int a1]) ++ List.replicate (2 - (lg_sl ([.ref (b + 0), .int a1])).length) Slot.unset).toArray = ls at hl ⊢
  have hl : lv_has ls 2 [(0, .ref (b + 0)), (1, .int a1)] := hl
  unfold w_IS_degree at hw
  refine lv_iload_n (pc := 0) hx hb d_IS_degree_0 rfl (lv_at hl 1 rfl) ?_
  refine z_xcallv (pc := 1) (vx_runS (As := [.int a1]) (rest := []) ⟨hx, hb, hml, hown, hts⟩ (c_IS_requireRegister l hst G b a1 M N hw) (va_cwS 1 hts (z_good (zgS wd223 wd224 wd1 wd225)) rfl rfl rfl hd_IS_requireRegister ⟨Nat.le_of_ble_eq_true rfl, Nat.le_of_ble_eq_true rfl⟩) (z_preS hZ hK hT hS) rfl rfl hl.1 rfl (lv_room (Nat.le_of_ble_eq_true rfl)) d_IS_degree_1 ⟨Nat.le_of_ble_eq_true rfl, Nat.le_of_ble_eq_true rfl⟩) hS (fun k q ce M7 N8 H locs hw hZ hS h1 h2 h3 => ?_) (fun M2 N3 H locs hw hZ hS => ?_)
  · obtain ⟨hw, eM7, eN8⟩ := hw
    rw [eM7, eN8] at hZ
    exact z_xout hno hlocks hK hT hZ hS h1 h2 h3 ⟨hw, rfl, rfl⟩ (by decide) (by decide)
  · obtain ⟨hw, eM2, eN3⟩ := hw
    rw [eM2, eN3] at hZ
    refine lv_aload_n (pc := 4) hx hb d_IS_degree_4 rfl (lv_at hl 0 rfl) ?_
    refine zg_IS_11 (pc := 5) hx hb hta hown hK hZ d_IS_degree_5 ?_
    refine lv_iload_n (pc := 8) hx hb d_IS_degree_8 rfl (lv_at hl 1 rfl) ?_
    obtain ⟨hc, hw⟩ := hw
    refine z_aald (pc := 9) hx hb hK hZ hc d_IS_degree_9 ?_
    refine z_calli (pc := 10) (va_runS (As := [.ref (b + (1 + 1 + a1.toNatClampNeg))]) (rest := []) ⟨hx, hb, hml, hown, hts⟩ (c_Ro_degreeOf l G b (1 + 1 + a1.toNatClampNeg) M N hw) (va_cwS 1 hts (z_good (zgS wd311 wd312 wd13 wd313)) rfl rfl rfl hd_Ro_degreeOf ⟨Nat.le_of_ble_eq_true rfl, Nat.le_of_ble_eq_true rfl⟩) (z_preS hZ hK hT hS) rfl rfl hl.1 rfl (lv_room (Nat.le_of_ble_eq_true rfl)) d_IS_degree_10 ⟨Nat.le_of_ble_eq_true rfl, Nat.le_of_ble_eq_true rfl⟩) hS (fun r4 M5 N6 H locs hw hZ hS => ?_)
    obtain ⟨hw, eM5, eN6⟩ := hw
    rw [eM5, eN6] at hZ
    refine W.widen (k := 1) (n := 6) (by decide) (by decide) ?_
    exact vx_ret (z_iret hx hb hr hlocks hK hT hZ hS ⟨hw, rfl, rfl⟩ d_IS_degree_13)
theorem d_Ar_fillJ_0 : decode prog_20_method_101_code 0 = .ok (.iconst 0, 1) := by decide +kernel
theorem d_Ar_fillJ_1 : decode prog_20_method_101_code 1 = .ok (.istore_n 3, 1) := by decide +kernel
theorem d_Ar_fillJ_2 : decode prog_20_method_101_code 2 = .ok (.aload_n 0, 1) := by decide +kernel
theorem d_Ar_fillJ_3 : decode prog_20_method_101_code 3 = .ok (.arraylength, 1) := by decide +kernel
theorem d_Ar_fillJ_4 : decode prog_20_method_101_code 4 = .ok (.istore 4, 2) := by decide +kernel
theorem d_Ar_fillJ_6 : decode prog_20_method_101_code 6 = .ok (.iload_n 3, 1) := by decide +kernel
theorem d_Ar_fillJ_7 : decode prog_20_method_101_code 7 = .ok (.iload 4, 2) := by decide +kernel
theorem d_Ar_fillJ_9 : decode prog_20_method_101_code 9 = .ok (.if_icmp .ge 13, 3) := by decide +kernel
theorem d_Ar_fillJ_12 : decode prog_20_method_101_code 12 = .ok (.aload_n 0, 1) := by decide +kernel
theorem d_Ar_fillJ_13 : decode prog_20_method_101_code 13 = .ok (.iload_n 3, 1) := by decide +kernel
theorem d_Ar_fillJ_14 : decode prog_20_method_101_code 14 = .ok (.lload_n 1, 1) := by decide +kernel
theorem d_Ar_fillJ_15 : decode prog_20_method_101_code 15 = .ok (.lastore, 1) := by decide +kernel
theorem d_Ar_fillJ_16 : decode prog_20_method_101_code 16 = .ok (.iinc 3 1, 3) := by decide +kernel
theorem d_Ar_fillJ_19 : decode prog_20_method_101_code 19 = .ok (.goto (-13), 3) := by decide +kernel
theorem d_Ar_fillJ_22 : decode prog_20_method_101_code 22 = .ok (.return_, 1) := by decide +kernel
def B_Ar_fillJ_6 (P : zM → Prop) (a0 : Nat) (a1 : Int64) (v4 : Int32) (k6 : Int32 → zM → Prop) (v3 : Int32) (M : zM) : Prop := (v4 ≤ v3 → P M) ∧ (¬ v4 ≤ v3 → vp_in v3 (zlong a0) ∧ ∀ M2 : zM, M2 = zput M a0 v3.toNatClampNeg a1 → k6 (v3 + (1 : Int32)) M2)
def L_Ar_fillJ_6 (P : zM → Prop) (a0 : Nat) (a1 : Int64) (v4 : Int32) (n : Nat) : Int32 → zM → Prop := Nat.rec (fun _ _ => False) (fun _ k => B_Ar_fillJ_6 P a0 a1 v4 k) n
def w_Ar_fillJ (a0 : Nat) (a1 : Int64) (M : zM) (P : zM → Prop) : Prop := 0 < zlong a0 ∧ ∀ x1 : Int32, x1 = Int32.ofNat (zlong a0) → ∃ n, L_Ar_fillJ_6 P a0 a1 x1 n (0 : Int32) M
def ws_Ar_fillJ : List Cond := .code y_Ar_fillJ prog_20_method_101_code 5 (Option.none : Option Jvm.ClassFile.FieldType) :: zall
def rm_Ar_fillJ : Room := { frames := 0, cells := 0, slots := 0, locals := 0 }
theorem hd_Ar_fillJ : y_Ar_fillJ.cls ≠ "java/lang/invoke/MethodHandle" ∧ y_Ar_fillJ.cls ≠ "java/lang/invoke/VarHandle" ∧ (parseMethodDescriptor y_Ar_fillJ.desc).map (fun d => d.parameters.length) = some 2 := by decide +kernel
set_option maxHeartbeats 4000000 in
set_option maxRecDepth 100000 in
theorem c_Ar_fillJ (l : Launch) (G : zG) (b : Nat) (a0 : Nat) (a1 : Int64) (M : zM) (N : zN) {P : zM → Prop} (hw : w_Ar_fillJ a0 a1 M P) : Met l y_Ar_fillJ ws_Ar_fillJ rm_Ar_fillJ (zPc G b M N [.ref (b + a0), .long a1]) (zQv G b (fun M' N' => P M' ∧ N' = N)) 0 0 (zA b) := by
  refine Met.ofW (cc := prog_20_method_101_code) (maxL := 5) (ret := (Option.none : Option Jvm.ClassFile.FieldType)) (by decide) rfl ?_
  intro p e s m args below meth c s₁ B hml hv
  obtain ⟨rfl, hZ, hK, hT⟩ := hv
  have hx := B.exec
  have hb := B.bytes
  have hr := B.returns
  have hts := atoms_spec (ws := ws_Ar_fillJ) B.pre
  have hta : ∀ w ∈ zall, w.before ([.ref (b + a0), .long a1] : List Value).toArray s = true := fun w h => hts w (List.mem_cons_of_mem _ h)
  have hown : s.vm.findClass R_Ar = some m.cls := findClass_of_methodNamed B.named
  have hlocks := B.notSynchronized
  have hS : va_S (zA b) s.heap s.heap [] := va_S.rf
  have hl := lv_entry ([.ref (b + a0), .long a1]) (n := 5) (Nat.le_of_ble_eq_true rfl)
  rw [lg_entry_eq]
  generalize (lg_sl ([.ref (b + a0), .long a1]) ++ List.replicate (5 - (lg_sl ([.ref (b + a0), .long a1])).length) Slot.unset).toArray = ls at hl ⊢
  have hl : lv_has ls 5 [(0, .ref (b + a0)), (1, .long a1)] := hl
  have lp6 : ∀ (v4 : Int32) (n : Nat) (v3 : Int32) (M : zM) (H : Heap) (ls : Array Slot) (locs : List Loc), va_P G.1 zCl (zws G b M N) H → va_S (zA b) s.heap H locs → lv_has ls 5 [(0, .ref (b + a0)), (1, .long a1), (3, .int v3), (4, .int v4)] → L_Ar_fillJ_6 P a0 a1 v4 n v3 M → W p l e (headSpec ws_Ar_fillJ rm_Ar_fillJ).room s m ([.ref (b + a0), .long a1] : List Value).toArray below meth c H locs 0 0 (MQ below (zQv G b (fun M' N' => P M' ∧ N' = N)) ([.ref (b + a0), .long a1] : List Value).toArray s 0 0 (zA b)) (F0 m 6 ls []) := by
    intro v4 n
    induction n with
    | zero => intro v3 M H ls locs hZ hS hl hw; exact False.elim hw
    | succ n6 ih6 =>
      intro v3 M H ls locs hZ hS hl hw
      have hw : B_Ar_fillJ_6 P a0 a1 v4 (L_Ar_fillJ_6 P a0 a1 v4 n6) v3 M := hw
      unfold B_Ar_fillJ_6 at hw
      refine lv_iload_n (pc := 6) hx hb d_Ar_fillJ_6 rfl (lv_at hl 2 rfl) ?_
      refine lv_iload (pc := 7) hx hb d_Ar_fillJ_7 (lv_at hl 3 rfl) ?_
      refine lv_icmp_ge (pc := 9) (tgt := 22) hx hb d_Ar_fillJ_9 (by decide) (fun hc => ?_) (fun hc => ?_)
      · have hw := hw.1 hc
        exact z_vret hx hb hr hlocks hK hT hZ hS ⟨hw, rfl⟩ d_Ar_fillJ_22
      · have hw := hw.2 hc
        refine lv_aload_n (pc := 12) hx hb d_Ar_fillJ_12 rfl (lv_at hl 0 rfl) ?_
        refine lv_iload_n (pc := 13) hx hb d_Ar_fillJ_13 rfl (lv_at hl 2 rfl) ?_
        refine lv_lload_n (pc := 14) hx hb d_Ar_fillJ_14 rfl (lv_at hl 1 rfl) ?_
        obtain ⟨hc, hw⟩ := hw
        refine z_last (pc := 15) hx hb hK hZ hS hc d_Ar_fillJ_15 (fun M2 H locs hM2 hZ hS => ?_)
        have hw := hw M2 hM2
        refine lv_iinc (pc := 16) (k := 2) (v := v3 + (1 : Int32)) (lv' := [(3, .int (v3 + (1 : Int32))), (0, .ref (b + a0)), (1, .long a1), (4, .int v4)]) hx hb d_Ar_fillJ_16 hl rfl (by rfl) (by decide) rfl (fun ls hl => ?_)
        refine lv_goto (pc := 19) (tgt := 6) hx hb d_Ar_fillJ_19 (by decide) ?_
        exact ih6 (v3 + (1 : Int32)) M2 _ _ _ hZ hS (lv_sub hl [1, 2, 0, 3] rfl) hw
  unfold w_Ar_fillJ at hw
  refine lv_iconst (pc := 0) (v := 0) hx hb d_Ar_fillJ_0 (by decide) ?_
  refine lv_istore_n (pc := 1) (lv' := [(3, .int (0 : Int32)), (0, .ref (b + a0)), (1, .long a1)]) hx hb d_Ar_fillJ_1 rfl hl (by decide) rfl (fun ls hl => ?_)
  refine lv_aload_n (pc := 2) hx hb d_Ar_fillJ_2 rfl (lv_at hl 1 rfl) ?_
  obtain ⟨hc, hw⟩ := hw
  refine z_alen (pc := 3) hx hb hK hZ hc d_Ar_fillJ_3 ?_
  refine lv_topi (fun x1 hx1 => ?_)
  have hw := hw x1 hx1
  refine lv_istore (pc := 4) (lv' := [(4, .int x1), (3, .int (0 : Int32)), (0, .ref (b + a0)), (1, .long a1)]) hx hb d_Ar_fillJ_4 hl (by decide) rfl (fun ls hl => ?_)
  obtain ⟨n, hw⟩ := hw
  exact lp6 x1 n (0 : Int32) M _ _ _ hZ hS (lv_sub hl [2, 3, 1, 0] rfl) hw
theorem d_IS_isWithinLimits_0 : decode prog_1_method_27_code 0 = .ok (.iconst 0, 1) := by decide +kernel
theorem d_IS_isWithinLimits_1 : decode prog_1_method_27_code 1 = .ok (.istore_n 1, 1) := by decide +kernel
theorem d_IS_isWithinLimits_2 : decode prog_1_method_27_code 2 = .ok (.iload_n 1, 1) := by decide +kernel
theorem d_IS_isWithinLimits_3 : decode prog_1_method_27_code 3 = .ok (.aload_n 0, 1) := by decide +kernel
theorem d_IS_isWithinLimits_4 : decode prog_1_method_27_code 4 = .ok (.arraylength, 1) := by decide +kernel
theorem d_IS_isWithinLimits_5 : decode prog_1_method_27_code 5 = .ok (.if_icmp .ge 42, 3) := by decide +kernel
theorem d_IS_isWithinLimits_8 : decode prog_1_method_27_code 8 = .ok (.iload_n 1, 1) := by decide +kernel
theorem d_IS_isWithinLimits_9 : decode prog_1_method_27_code 9 = .ok (.bipush 8, 2) := by decide +kernel
theorem d_IS_isWithinLimits_11 : decode prog_1_method_27_code 11 = .ok (.if_icmp .ge 9, 3) := by decide +kernel
theorem d_IS_isWithinLimits_14 : decode prog_1_method_27_code 14 = .ok (.ldc2_w 158, 3) := by decide +kernel
theorem d_IS_isWithinLimits_17 : decode prog_1_method_27_code 17 = .ok (.goto 4, 3) := by decide +kernel
theorem d_IS_isWithinLimits_20 : decode prog_1_method_27_code 20 = .ok (.lconst 0, 1) := by decide +kernel
theorem d_IS_isWithinLimits_21 : decode prog_1_method_27_code 21 = .ok (.lstore_n 2, 1) := by decide +kernel
theorem d_IS_isWithinLimits_22 : decode prog_1_method_27_code 22 = .ok (.aload_n 0, 1) := by decide +kernel
theorem d_IS_isWithinLimits_23 : decode prog_1_method_27_code 23 = .ok (.iload_n 1, 1) := by decide +kernel
theorem d_IS_isWithinLimits_24 : decode prog_1_method_27_code 24 = .ok (.laload, 1) := by decide +kernel
theorem d_IS_isWithinLimits_25 : decode prog_1_method_27_code 25 = .ok (.lload_n 2, 1) := by decide +kernel
theorem d_IS_isWithinLimits_26 : decode prog_1_method_27_code 26 = .ok (.lneg, 1) := by decide +kernel
theorem d_IS_isWithinLimits_27 : decode prog_1_method_27_code 27 = .ok (.lcmp, 1) := by decide +kernel
theorem d_IS_isWithinLimits_28 : decode prog_1_method_27_code 28 = .ok (.ifCond .lt 11, 3) := by decide +kernel
theorem d_IS_isWithinLimits_31 : decode prog_1_method_27_code 31 = .ok (.aload_n 0, 1) := by decide +kernel
theorem d_IS_isWithinLimits_32 : decode prog_1_method_27_code 32 = .ok (.iload_n 1, 1) := by decide +kernel
theorem d_IS_isWithinLimits_33 : decode prog_1_method_27_code 33 = .ok (.laload, 1) := by decide +kernel
theorem d_IS_isWithinLimits_34 : decode prog_1_method_27_code 34 = .ok (.lload_n 2, 1) := by decide +kernel
theorem d_IS_isWithinLimits_35 : decode prog_1_method_27_code 35 = .ok (.lcmp, 1) := by decide +kernel
theorem d_IS_isWithinLimits_36 : decode prog_1_method_27_code 36 = .ok (.ifCond .le 5, 3) := by decide +kernel
theorem d_IS_isWithinLimits_39 : decode prog_1_method_27_code 39 = .ok (.iconst 0, 1) := by decide +kernel
theorem d_IS_isWithinLimits_40 : decode prog_1_method_27_code 40 = .ok (.ireturn, 1) := by decide +kernel
theorem d_IS_isWithinLimits_41 : decode prog_1_method_27_code 41 = .ok (.iinc 1 1, 3) := by decide +kernel
theorem d_IS_isWithinLimits_44 : decode prog_1_method_27_code 44 = .ok (.goto (-42), 3) := by decide +kernel
theorem d_IS_isWithinLimits_47 : decode prog_1_method_27_code 47 = .ok (.iconst 1, 1) := by decide +kernel
theorem d_IS_isWithinLimits_48 : decode prog_1_method_27_code 48 = .ok (.ireturn, 1) := by decide +kernel
def J_IS_isWithinLimits_21 (P : Int32 → Prop) (k2 : Int32 → Prop) (a0 : Nat) (v1 : Int32) (t0 : Int64) (M : zM) : Prop := vp_in v1 (zlong a0) ∧ ((M a0 v1.toNatClampNeg) < (-t0) → narrow .boolean (.int (0 : Int32)) = .int (0 : Int32) ∧ P (0 : Int32)) ∧ (¬ (M a0 v1.toNatClampNeg) < (-t0) → vp_in v1 (zlong a0) ∧ ((M a0 v1.toNatClampNeg) ≤ t0 → k2 (v1 + (1 : Int32))) ∧ (¬ (M a0 v1.toNatClampNeg) ≤ t0 → narrow .boolean (.int (0 : Int32)) = .int (0 : Int32) ∧ P (0 : Int32)))
def B_IS_isWithinLimits_2 (P : Int32 → Prop) (a0 : Nat) (M : zM) (k2 : Int32 → Prop) (v1 : Int32) : Prop := 0 < zlong a0 ∧ ((Int32.ofNat (zlong a0)) ≤ v1 → narrow .boolean (.int (1 : Int32)) = .int (1 : Int32) ∧ P (1 : Int32)) ∧ (¬ (Int32.ofNat (zlong a0)) ≤ v1 → ((8 : Int32) ≤ v1 → J_IS_isWithinLimits_21 P k2 a0 v1 (0 : Int64) M) ∧ (¬ (8 : Int32) ≤ v1 → J_IS_isWithinLimits_21 P k2 a0 v1 (99999 : Int64) M))
def L_IS_isWithinLimits_2 (P : Int32 → Prop) (a0 : Nat) (M : zM) (n : Nat) : Int32 → Prop := Nat.rec (fun _ => False) (fun _ k => B_IS_isWithinLimits_2 P a0 M k) n
def w_IS_isWithinLimits (a0 : Nat) (M : zM) (P : Int32 → Prop) : Prop := ∃ n, L_IS_isWithinLimits_2 P a0 M n (0 : Int32)
def ws_IS_isWithinLimits : List Cond := .code y_IS_isWithinLimits prog_1_method_27_code 4 (Option.some Jvm.ClassFile.FieldType.boolean) :: zall
def rm_IS_isWithinLimits : Room := { frames := 0, cells := 0, slots := 0, locals := 0 }
theorem hd_IS_isWithinLimits : y_IS_isWithinLimits.cls ≠ "java/lang/invoke/MethodHandle" ∧ y_IS_isWithinLimits.cls ≠ "java/lang/invoke/VarHandle" ∧ (parseMethodDescriptor y_IS_isWithinLimits.desc).map (fun d => d.parameters.length) = some 1 := by decide +kernel
set_option maxHeartbeats 4000000 in
set_option maxRecDepth 100000 in
theorem c_IS_isWithinLimits (l : Launch) (G : zG) (b : Nat) (a0 : Nat) (M : zM) (N : zN) {P : Int32 → Prop} (hw : w_IS_isWithinLimits a0 M P) : Met l y_IS_isWithinLimits ws_IS_isWithinLimits rm_IS_isWithinLimits (zPc G b M N [.ref (b + a0)]) (zQi G b (fun r M' N' => P r ∧ M' = M ∧ N' = N)) 0 0 (zA b) := by
  refine Met.ofW (cc := prog_1_method_27_code) (maxL := 4) (ret := (Option.some Jvm.ClassFile.FieldType.boolean)) (by decide) rfl ?_
  intro p e s m args below meth c s₁ B hml hv
  obtain ⟨rfl, hZ, hK, hT⟩ := hv
  have hx := B.exec
  have hb := B.bytes
  have hr := B.returns
  have hts := atoms_spec (ws := ws_IS_isWithinLimits) B.pre
  have hta : ∀ w ∈ zall, w.before ([.ref (b + a0)] : List Value).toArray s = true := fun w h => hts w (List.mem_cons_of_mem _ h)
  have hown : s.vm.findClass R_IS = some m.cls := findClass_of_methodNamed B.named
  have hlocks := B.notSynchronized
  have hS : va_S (zA b) s.heap s.heap [] := va_S.rf
  have hl := lv_entry ([.ref (b + a0)]) (n := 4) (Nat.le_of_ble_eq_true rfl)
  rw [lg_entry_eq]
  generalize (lg_sl ([.ref (b + a0)]) ++ List.replicate (4 - (lg_sl ([.ref (b + a0)])).length) Slot.unset).toArray = ls at hl ⊢
  have hl : lv_has ls 4 [(0, .ref (b + a0))] := hl
  have lp2 : ∀ (n : Nat) (v1 : Int32) (H : Heap) (ls : Array Slot) (locs : List Loc), va_P G.1 zCl (zws G b M N) H → va_S (zA b) s.heap H locs → lv_has ls 4 [(0, .ref (b + a0)), (1, .int v1)] → L_IS_isWithinLimits_2 P a0 M n v1 → W p l e (headSpec ws_IS_isWithinLimits rm_IS_isWithinLimits).room s m ([.ref (b + a0)] : List Value).toArray below meth c H locs 0 0 (MQ below (zQi G b (fun r M' N' => P r ∧ M' = M ∧ N' = N)) ([.ref (b + a0)] : List Value).toArray s 0 0 (zA b)) (F0 m 2 ls []) := by
    intro  n
    induction n with
    | zero => intro v1 H ls locs hZ hS hl hw; exact False.elim hw
    | succ n2 ih2 =>
      have j21 : ∀ (v1 : Int32) (t0 : Int64) (H : Heap) (ls : Array Slot) (locs : List Loc), va_P G.1 zCl (zws G b M N) H → va_S (zA b) s.heap H locs → lv_has ls 4 [(0, .ref (b + a0)), (1, .int v1)] → J_IS_isWithinLimits_21 P (L_IS_isWithinLimits_2 P a0 M n2) a0 v1 t0 M → W p l e (headSpec ws_IS_isWithinLimits rm_IS_isWithinLimits).room s m ([.ref (b + a0)] : List Value).toArray below meth c H locs 0 0 (MQ below (zQi G b (fun r M' N' => P r ∧ M' = M ∧ N' = N)) ([.ref (b + a0)] : List Value).toArray s 0 0 (zA b)) (F0 m 21 ls [.long t0]) := by
        intro v1 t0 H ls locs hZ hS hl hw
        unfold J_IS_isWithinLimits_21 at hw
        refine lv_lstore_n (pc := 21) (lv' := [(2, .long t0), (0, .ref (b + a0)), (1, .int v1)]) hx hb d_IS_isWithinLimits_21 rfl hl (by decide) rfl (fun ls hl => ?_)
        refine lv_aload_n (pc := 22) hx hb d_IS_isWithinLimits_22 rfl (lv_at hl 1 rfl) ?_
        refine lv_iload_n (pc := 23) hx hb d_IS_isWithinLimits_23 rfl (lv_at hl 2 rfl) ?_
        obtain ⟨hc, hw⟩ := hw
        refine z_lald (pc := 24) hx hb hK hZ hc d_IS_isWithinLimits_24 ?_
        refine lv_lload_n (pc := 25) hx hb d_IS_isWithinLimits_25 rfl (lv_at hl 0 rfl) ?_
        refine lv_lneg (pc := 26) hx hb d_IS_isWithinLimits_26 ?_
        refine z_lc_lt (pc := 27) (tgt := 39) hx hb d_IS_isWithinLimits_27 d_IS_isWithinLimits_28 (by decide) (fun hc => ?_) (fun hc => ?_)
        · have hw := hw.1 hc
          refine lv_iconst (pc := 39) (v := 0) hx hb d_IS_isWithinLimits_39 (by decide) ?_
          exact z_zret hx hb hr hlocks hK hT hZ hS ⟨hw.1, ⟨hw.2, rfl, rfl⟩⟩ d_IS_isWithinLimits_40
        · have hw := hw.2 hc
          refine lv_aload_n (pc := 31) hx hb d_IS_isWithinLimits_31 rfl (lv_at hl 1 rfl) ?_
          refine lv_iload_n (pc := 32) hx hb d_IS_isWithinLimits_32 rfl (lv_at hl 2 rfl) ?_
          obtain ⟨hc, hw⟩ := hw
          refine z_lald (pc := 33) hx hb hK hZ hc d_IS_isWithinLimits_33 ?_
          refine lv_lload_n (pc := 34) hx hb d_IS_isWithinLimits_34 rfl (lv_at hl 0 rfl) ?_
          refine z_lc_le (pc := 35) (tgt := 41) hx hb d_IS_isWithinLimits_35 d_IS_isWithinLimits_36 (by decide) (fun hc => ?_) (fun hc => ?_)
          · have hw := hw.1 hc
            refine lv_iinc (pc := 41) (k := 2) (v := v1 + (1 : Int32)) (lv' := [(1, .int (v1 + (1 : Int32))), (2, .long t0), (0, .ref (b + a0))]) hx hb d_IS_isWithinLimits_41 hl rfl (by rfl) (by decide) rfl (fun ls hl => ?_)
            refine lv_goto (pc := 44) (tgt := 2) hx hb d_IS_isWithinLimits_44 (by decide) ?_
            exact ih2 (v1 + (1 : Int32)) _ _ _ hZ hS (lv_sub hl [2, 0] rfl) hw
          · have hw := hw.2 hc
            refine lv_iconst (pc := 39) (v := 0) hx hb d_IS_isWithinLimits_39 (by decide) ?_
            exact z_zret hx hb hr hlocks hK hT hZ hS ⟨hw.1, ⟨hw.2, rfl, rfl⟩⟩ d_IS_isWithinLimits_40
      intro v1 H ls locs hZ hS hl hw
      have hw : B_IS_isWithinLimits_2 P a0 M (L_IS_isWithinLimits_2 P a0 M n2) v1 := hw
      unfold B_IS_isWithinLimits_2 at hw
      refine lv_iload_n (pc := 2) hx hb d_IS_isWithinLimits_2 rfl (lv_at hl 1 rfl) ?_
      refine lv_aload_n (pc := 3) hx hb d_IS_isWithinLimits_3 rfl (lv_at hl 0 rfl) ?_
      obtain ⟨hc, hw⟩ := hw
      refine z_alen (pc := 4) hx hb hK hZ hc d_IS_isWithinLimits_4 ?_
      refine lv_icmp_ge (pc := 5) (tgt := 47) hx hb d_IS_isWithinLimits_5 (by decide) (fun hc => ?_) (fun hc => ?_)
      · have hw := hw.1 hc
        refine lv_iconst (pc := 47) (v := 1) hx hb d_IS_isWithinLimits_47 (by decide) ?_
        exact z_zret hx hb hr hlocks hK hT hZ hS ⟨hw.1, ⟨hw.2, rfl, rfl⟩⟩ d_IS_isWithinLimits_48
      · have hw := hw.2 hc
        refine lv_iload_n (pc := 8) hx hb d_IS_isWithinLimits_8 rfl (lv_at hl 1 rfl) ?_
        refine lv_bipush (pc := 9) (v := 8) hx hb d_IS_isWithinLimits_9 (by decide) ?_
        refine lv_icmp_ge (pc := 11) (tgt := 20) hx hb d_IS_isWithinLimits_11 (by decide) (fun hc => ?_) (fun hc => ?_)
        · have hw := hw.1 hc
          refine lv_lconst (pc := 20) (v := 0) hx hb d_IS_isWithinLimits_20 (by decide) ?_
          exact j21 v1 (0 : Int64) _ _ _ hZ hS hl hw
        · have hw := hw.2 hc
          refine lv_ldc2 (pc := 14) (v := 99999) hx hb hown (hta _ wd346) d_IS_isWithinLimits_14 ?_
          refine lv_goto (pc := 17) (tgt := 21) hx hb d_IS_isWithinLimits_17 (by decide) ?_
          exact j21 v1 (99999 : Int64) _ _ _ hZ hS hl hw
  unfold w_IS_isWithinLimits at hw
  refine lv_iconst (pc := 0) (v := 0) hx hb d_IS_isWithinLimits_0 (by decide) ?_
  refine lv_istore_n (pc := 1) (lv' := [(1, .int (0 : Int32)), (0, .ref (b + a0))]) hx hb d_IS_isWithinLimits_1 rfl hl (by decide) rfl (fun ls hl => ?_)
  obtain ⟨n, hw⟩ := hw
  exact lp2  n (0 : Int32) _ _ _ hZ hS (lv_sub hl [1, 0] rfl) hw
theorem d_Ro_copyInto_0 : decode prog_7_method_4_code 0 = .ok (.aload_n 0, 1) := by decide +kernel
theorem d_Ro_copyInto_1 : decode prog_7_method_4_code 1 = .ok (.iconst 0, 1) := by decide +kernel
theorem d_Ro_copyInto_2 : decode prog_7_method_4_code 2 = .ok (.aload_n 1, 1) := by decide +kernel
theorem d_Ro_copyInto_3 : decode prog_7_method_4_code 3 = .ok (.iconst 0, 1) := by decide +kernel
theorem d_Ro_copyInto_4 : decode prog_7_method_4_code 4 = .ok (.bipush 8, 2) := by decide +kernel
theorem d_Ro_copyInto_6 : decode prog_7_method_4_code 6 = .ok (.invokestatic 15, 3) := by decide +kernel
theorem d_Ro_copyInto_9 : decode prog_7_method_4_code 9 = .ok (.return_, 1) := by decide +kernel
def w_Ro_copyInto (a0 : Nat) (a1 : Nat) (M : zM) (P : zM → Prop) : Prop := 8 ≤ zlong a0 ∧ 8 ≤ zlong a1 ∧ ∀ M1 : zM, M1 = zcpy M a0 a1 0 0 8 → P M1
def ws_Ro_copyInto : List Cond := .code y_Ro_copyInto prog_7_method_4_code 2 (Option.none : Option Jvm.ClassFile.FieldType) :: zall
def rm_Ro_copyInto : Room := { frames := 1, cells := 0, slots := 0, locals := 38 }
theorem hd_Ro_copyInto : y_Ro_copyInto.cls ≠ "java/lang/invoke/MethodHandle" ∧ y_Ro_copyInto.cls ≠ "java/lang/invoke/VarHandle" ∧ (parseMethodDescriptor y_Ro_copyInto.desc).map (fun d => d.parameters.length) = some 2 := by decide +kernel
set_option maxHeartbeats 4000000 in
set_option maxRecDepth 100000 in
theorem c_Ro_copyInto (l : Launch) (G : zG) (b : Nat) (a0 : Nat) (a1 : Nat) (M : zM) (N : zN) {P : zM → Prop} (hw : w_Ro_copyInto a0 a1 M P) : Met l y_Ro_copyInto ws_Ro_copyInto rm_Ro_copyInto (zPc G b M N [.ref (b + a0), .ref (b + a1)]) (zQv G b (fun M' N' => P M' ∧ N' = N)) 0 0 (zA b) := by
  refine Met.ofW (cc := prog_7_method_4_code) (maxL := 2) (ret := (Option.none : Option Jvm.ClassFile.FieldType)) (by decide) rfl ?_
  intro p e s m args below meth c s₁ B hml hv
  obtain ⟨rfl, hZ, hK, hT⟩ := hv
  have hx := B.exec
  have hb := B.bytes
  have hr := B.returns
  have hts := atoms_spec (ws := ws_Ro_copyInto) B.pre
  have hta : ∀ w ∈ zall, w.before ([.ref (b + a0), .ref (b + a1)] : List Value).toArray s = true := fun w h => hts w (List.mem_cons_of_mem _ h)
  have hown : s.vm.findClass R_Ro = some m.cls := findClass_of_methodNamed B.named
  have hlocks := B.notSynchronized
  have hS : va_S (zA b) s.heap s.heap [] := va_S.rf
  have hl := lv_entry ([.ref (b + a0), .ref (b + a1)]) (n := 2) (Nat.le_of_ble_eq_true rfl)
  rw [lg_entry_eq]
  generalize (lg_sl ([.ref (b + a0), .ref (b + a1)]) ++ List.replicate (2 - (lg_sl ([.ref (b + a0), .ref (b + a1)])).length) Slot.unset).toArray = ls at hl ⊢
  have hl : lv_has ls 2 [(0, .ref (b + a0)), (1, .ref (b + a1))] := hl
  unfold w_Ro_copyInto at hw
  refine lv_aload_n (pc := 0) hx hb d_Ro_copyInto_0 rfl (lv_at hl 0 rfl) ?_
  refine lv_iconst (pc := 1) (v := 0) hx hb d_Ro_copyInto_1 (by decide) ?_
  refine lv_aload_n (pc := 2) hx hb d_Ro_copyInto_2 rfl (lv_at hl 1 rfl) ?_
  refine lv_iconst (pc := 3) (v := 0) hx hb d_Ro_copyInto_3 (by decide) ?_
  refine lv_bipush (pc := 4) (v := 8) hx hb d_Ro_copyInto_4 (by decide) ?_
  obtain ⟨hc1, hc2, hw⟩ := hw
  refine z_copy8 (pc := 6) hx hb (hml.trans hl.1.symm) hta hown (hta _ wd365) hK hZ hS hc1 hc2 (Nat.le_of_ble_eq_true rfl) (Nat.le_of_ble_eq_true rfl) d_Ro_copyInto_6 (fun M1 H locs hM1 hZ hS => ?_)
  have hw := hw M1 hM1
  exact z_vret hx hb hr hlocks hK hT hZ hS ⟨hw, rfl⟩ d_Ro_copyInto_9
theorem xat_IS_keep_7_w : ∀ w ∈ (vx_at0 R_IS 157 (zxn 3) ["java/lang/RuntimeException", "java/lang/Exception"]).filter goodWord, w ∈ lw_tbl := by decide +kernel
theorem xat_IS_keep_7_g : ∀ w ∈ Cond.classLink R_IS 155 (zxn 3) :: Cond.initialized (zxn 3) :: vx_at0 R_IS 157 (zxn 3) ["java/lang/RuntimeException", "java/lang/Exception"], vx_ot w = true := by decide +kernel
theorem xat_IS_keep_7_b : ∀ w ∈ (vx_at0 R_IS 157 (zxn 3) ["java/lang/RuntimeException", "java/lang/Exception"]).filter (fun w => !goodWord w), w ∈ Cond.castable (zxn 3) (zxn 3) :: zdec.map Cond.declares := by decide +kernel
theorem xat_IS_keep_7 {args : Array Value} {s : State} (hta : ∀ w ∈ zall, w.before args s = true) (hn : zNw s) : ∀ w ∈ vx_at0 R_IS 157 (zxn 3) ["java/lang/RuntimeException", "java/lang/Exception"], w.before args s = true :=
  vx_hat (fun w h => hta w (List.mem_filter.mpr ⟨xat_IS_keep_7_w w h, (List.mem_filter.mp h).2⟩)) xat_IS_keep_7_b (fun w h => by
    rcases List.mem_cons.mp h with rfl | h
    · exact va_Nw.use rfl (hn.1 3 (by decide) (by decide))
    · obtain ⟨y, hy, rfl⟩ := List.mem_map.mp h
      exact va_Nw.use rfl (hn.2.1 y hy))
theorem d_IS_keep_0 : decode prog_1_method_26_code 0 = .ok (.aload_n 2, 1) := by decide +kernel
theorem d_IS_keep_1 : decode prog_1_method_26_code 1 = .ok (.invokestatic 119, 3) := by decide +kernel
theorem d_IS_keep_4 : decode prog_1_method_26_code 4 = .ok (.ifCond .ne 11, 3) := by decide +kernel
theorem d_IS_keep_7 : decode prog_1_method_26_code 7 = .ok (.new 155, 3) := by decide +kernel
theorem d_IS_keep_10 : decode prog_1_method_26_code 10 = .ok (.dup, 1) := by decide +kernel
theorem d_IS_keep_11 : decode prog_1_method_26_code 11 = .ok (.invokespecial 157, 3) := by decide +kernel
theorem d_IS_keep_14 : decode prog_1_method_26_code 14 = .ok (.athrow, 1) := by decide +kernel
theorem d_IS_keep_15 : decode prog_1_method_26_code 15 = .ok (.aload_n 2, 1) := by decide +kernel
theorem d_IS_keep_16 : decode prog_1_method_26_code 16 = .ok (.aload_n 0, 1) := by decide +kernel
theorem d_IS_keep_17 : decode prog_1_method_26_code 17 = .ok (.getfield 11, 3) := by decide +kernel
theorem d_IS_keep_20 : decode prog_1_method_26_code 20 = .ok (.iload_n 1, 1) := by decide +kernel
theorem d_IS_keep_21 : decode prog_1_method_26_code 21 = .ok (.aaload, 1) := by decide +kernel
theorem d_IS_keep_22 : decode prog_1_method_26_code 22 = .ok (.invokestatic 123, 3) := by decide +kernel
theorem d_IS_keep_25 : decode prog_1_method_26_code 25 = .ok (.aload_n 0, 1) := by decide +kernel
theorem d_IS_keep_26 : decode prog_1_method_26_code 26 = .ok (.getfield 11, 3) := by decide +kernel
theorem d_IS_keep_29 : decode prog_1_method_26_code 29 = .ok (.iload_n 1, 1) := by decide +kernel
theorem d_IS_keep_30 : decode prog_1_method_26_code 30 = .ok (.aaload, 1) := by decide +kernel
theorem d_IS_keep_31 : decode prog_1_method_26_code 31 = .ok (.invokestatic 53, 3) := by decide +kernel
theorem d_IS_keep_34 : decode prog_1_method_26_code 34 = .ok (.ireturn, 1) := by decide +kernel
def w_IS_keep (a1 : Int32) (a2 : Nat) (M : zM) (P : Int32 → zM → Prop) (X : Nat → zM → Prop) : Prop := w_IS_isWithinLimits a2 M (fun r1 => (¬ r1 = 0 → vp_in a1 (zgn 1) ∧ w_Ro_copyInto a2 (1 + 1 + a1.toNatClampNeg) M (fun M5 => vp_in a1 (zgn 1) ∧ w_Ro_degreeOf (1 + 1 + a1.toNatClampNeg) M5 (fun r7 => P r7 M5))) ∧ (r1 = 0 → X 3 M))
def ws_IS_keep : List Cond := .code y_IS_keep prog_1_method_26_code 3 (Option.some Jvm.ClassFile.FieldType.int) :: zall
def rm_IS_keep : Room := { frames := 6, cells := 1, slots := 6, locals := 89 }
theorem hd_IS_keep : y_IS_keep.cls ≠ "java/lang/invoke/MethodHandle" ∧ y_IS_keep.cls ≠ "java/lang/invoke/VarHandle" ∧ (parseMethodDescriptor y_IS_keep.desc).map (fun d => d.parameters.length) = some 2 := by decide +kernel
set_option maxHeartbeats 4000000 in
set_option maxRecDepth 100000 in
theorem c_IS_keep (l : Launch) (hst : l.stackTraces = false) (G : zG) (b : Nat) (a1 : Int32) (a2 : Nat) (M : zM) (N : zN) {P : Int32 → zM → Prop} {X : Nat → zM → Prop} (hw : w_IS_keep a1 a2 M P X) : vx_Met l y_IS_keep ws_IS_keep rm_IS_keep (zPc G b M N [.ref (b + 0), .int a1, .ref (b + a2)]) (zQi G b (fun r M' N' => P r M' ∧ N' = N)) (zXC G b (fun k M' N' => X k M' ∧ N' = N)) 1 6 (zA b) := by
  refine vx_ofW (cc := prog_1_method_26_code) (maxL := 3) (ret := (Option.some Jvm.ClassFile.FieldType.int)) (by decide) rfl ?_
  intro p e s m args below meth c s₁ B hml hno hv
  obtain ⟨rfl, hZ, hK, hT⟩ := hv
  have hx := B.exec
  have hb := B.bytes
  have hr := B.returns
  have hts := atoms_spec (ws := ws_IS_keep) B.pre
  have hta : ∀ w ∈ zall, w.before ([.ref (b + 0), .int a1, .ref (b + a2)] : List Value).toArray s = true := fun w h => hts w (List.mem_cons_of_mem _ h)
  have hown : s.vm.findClass R_IS = some m.cls := findClass_of_methodNamed B.named
  have hlocks := B.notSynchronized
  have hS : va_S (zA b) s.heap s.heap [] := va_S.rf
  have hl := lv_entry ([.ref (b + 0), .int a1, .ref (b + a2)]) (n := 3) (Nat.le_of_ble_eq_true rfl)
  rw [lg_entry_eq]
  generalize (lg_sl ([.ref (b + 0), .int a1, .ref (b + a2)]) ++ List.replicate (3 - (lg_sl ([.ref (b + 0), .int a1, .ref (b + a2)])).length) Slot.unset).toArray = ls at hl ⊢
  have hl : lv_has ls 3 [(0, .ref (b + 0)), (1, .int a1), (2, .ref (b + a2))] := hl
  unfold w_IS_keep at hw
  refine lv_aload_n (pc := 0) hx hb d_IS_keep_0 rfl (lv_at hl 2 rfl) ?_
  refine z_calli (pc := 1) (va_runS (As := [.ref (b + a2)]) (rest := []) ⟨hx, hb, hml, hown, hts⟩ (c_IS_isWithinLimits l G b a2 M N hw) (va_cwS 1 hts (z_good (zgS wd343 wd344 wd1 wd345)) rfl rfl rfl hd_IS_isWithinLimits ⟨Nat.le_of_ble_eq_true rfl, Nat.le_of_ble_eq_true rfl⟩) (z_preS hZ hK hT hS) rfl rfl hl.1 rfl (lv_room (Nat.le_of_ble_eq_true rfl)) d_IS_keep_1 ⟨Nat.le_of_ble_eq_true rfl, Nat.le_of_ble_eq_true rfl⟩) hS (fun r1 M2 N3 H locs hw hZ hS => ?_)
  obtain ⟨hw, eM2, eN3⟩ := hw
  rw [eM2, eN3] at hZ
  refine lv_if_ne (pc := 4) (tgt := 15) hx hb d_IS_keep_4 (by decide) (fun hc => ?_) (fun hc => ?_)
  · have hw := hw.1 hc
    refine lv_aload_n (pc := 15) hx hb d_IS_keep_15 rfl (lv_at hl 2 rfl) ?_
    refine lv_aload_n (pc := 16) hx hb d_IS_keep_16 rfl (lv_at hl 0 rfl) ?_
    refine zg_IS_11 (pc := 17) hx hb hta hown hK hZ d_IS_keep_17 ?_
    refine lv_iload_n (pc := 20) hx hb d_IS_keep_20 rfl (lv_at hl 1 rfl) ?_
    obtain ⟨hc, hw⟩ := hw
    refine z_aald (pc := 21) hx hb hK hZ hc d_IS_keep_21 ?_
    refine z_callv (pc := 22) (va_runS (As := [.ref (b + a2), .ref (b + (1 + 1 + a1.toNatClampNeg))]) (rest := []) ⟨hx, hb, hml, hown, hts⟩ (c_Ro_copyInto l G b a2 (1 + 1 + a1.toNatClampNeg) M N hw) (va_cwS 2 hts (z_good (zgS wd362 wd363 wd13 wd364)) rfl rfl rfl hd_Ro_copyInto ⟨Nat.le_of_ble_eq_true rfl, Nat.le_of_ble_eq_true rfl⟩) (z_preS hZ hK hT hS) rfl rfl hl.1 rfl (lv_room (Nat.le_of_ble_eq_true rfl)) d_IS_keep_22 ⟨Nat.le_of_ble_eq_true rfl, Nat.le_of_ble_eq_true rfl⟩) hS (fun M5 N6 H locs hw hZ hS => ?_)
    obtain ⟨hw, eN6⟩ := hw
    rw [eN6] at hZ
    refine lv_aload_n (pc := 25) hx hb d_IS_keep_25 rfl (lv_at hl 0 rfl) ?_
    refine zg_IS_11 (pc := 26) hx hb hta hown hK hZ d_IS_keep_26 ?_
    refine lv_iload_n (pc := 29) hx hb d_IS_keep_29 rfl (lv_at hl 1 rfl) ?_
    obtain ⟨hc, hw⟩ := hw
    refine z_aald (pc := 30) hx hb hK hZ hc d_IS_keep_30 ?_
    refine z_calli (pc := 31) (va_runS (As := [.ref (b + (1 + 1 + a1.toNatClampNeg))]) (rest := []) ⟨hx, hb, hml, hown, hts⟩ (c_Ro_degreeOf l G b (1 + 1 + a1.toNatClampNeg) M5 N hw) (va_cwS 1 hts (z_good (zgS wd311 wd312 wd13 wd313)) rfl rfl rfl hd_Ro_degreeOf ⟨Nat.le_of_ble_eq_true rfl, Nat.le_of_ble_eq_true rfl⟩) (z_preS hZ hK hT hS) rfl rfl hl.1 rfl (lv_room (Nat.le_of_ble_eq_true rfl)) d_IS_keep_31 ⟨Nat.le_of_ble_eq_true rfl, Nat.le_of_ble_eq_true rfl⟩) hS (fun r7 M8 N9 H locs hw hZ hS => ?_)
    obtain ⟨hw, eM8, eN9⟩ := hw
    rw [eM8, eN9] at hZ
    refine W.widen (k := 1) (n := 6) (by decide) (by decide) ?_
    exact vx_ret (z_iret hx hb hr hlocks hK hT hZ hS ⟨hw, rfl⟩ d_IS_keep_34)
  · have hw := hw.2 hc
    exact z_xthrow (k := 3) (pc := 7) hx hb hst hown (hta _ wd347) (hta _ wd15) (xat_IS_keep_7 hta hT.1) (by decide) xat_IS_keep_7_g hno hlocks hK hT hZ hS (hl.1.trans hml.symm) d_IS_keep_7 d_IS_keep_10 d_IS_keep_11 d_IS_keep_14 (Nat.le_of_ble_eq_true rfl) (Nat.le_of_ble_eq_true rfl) (Nat.le_of_ble_eq_true rfl) (Nat.le_of_ble_eq_true rfl) ⟨hw, rfl⟩ (by decide) (by decide)
theorem zg_IS_14 {p : Program} {l : Launch} {e : Env} {R : Room} {s : State} {m : MethodId} {args : Array Value} {below : List Frame} {meth : Method} {c : Code} {H : Heap} {locs : List Loc} {cells slots : Nat} {Q : State → Prop} {cc : ByteArray} {pc : Nat} {ls : Array Slot} {rest : List Value} {G : zG} {b : Nat} {M : zM} {N : zN} (hx : p.tables.exec = Jvm.exec) (hb : c.code = cc) (hta : ∀ w ∈ zall, w.before args s = true) (hown : s.vm.findClass R_IS = some m.cls) (hK : va_K G.1 zCl (zty G) s) (hZ : va_P G.1 zCl (zws G b M N) H) (hdg : decode cc pc = .ok (.getfield 14, 3)) (kk : W p l e R s m args below meth c H locs cells slots Q (F0 m (pc + 3) ls (.ref (b + 6) :: rest))) : W p l e R s m args below meth c H locs cells slots Q (F0 m pc ls (.ref (b + 0) :: rest)) :=
  va_get (D := G.1) (ci := 5) (v := .ref (b + 6)) (C := R_IS) (T := T_IS) (N := 7) hx hb hta hin_IS hown hK hZ 0 zo_IS rfl 1 (by decide) (hta _ wd189) (fun _ h9 => h9) rfl hdg kk
theorem wsel1 : Cond.selects R_IS y_IS_keep y_IS_keep ∈ zall := List.mem_filter.mpr ⟨List.mem_append_left _ (List.mem_of_getElem? (i := 1) rfl), by decide +kernel⟩
theorem d_IS_add_0 : decode prog_1_method_5_code 0 = .ok (.iload_n 1, 1) := by decide +kernel
theorem d_IS_add_1 : decode prog_1_method_5_code 1 = .ok (.invokestatic 41, 3) := by decide +kernel
theorem d_IS_add_4 : decode prog_1_method_5_code 4 = .ok (.iload_n 2, 1) := by decide +kernel
theorem d_IS_add_5 : decode prog_1_method_5_code 5 = .ok (.invokestatic 41, 3) := by decide +kernel
theorem d_IS_add_8 : decode prog_1_method_5_code 8 = .ok (.iload_n 3, 1) := by decide +kernel
theorem d_IS_add_9 : decode prog_1_method_5_code 9 = .ok (.invokestatic 41, 3) := by decide +kernel
theorem d_IS_add_12 : decode prog_1_method_5_code 12 = .ok (.aload_n 0, 1) := by decide +kernel
theorem d_IS_add_13 : decode prog_1_method_5_code 13 = .ok (.getfield 14, 3) := by decide +kernel
theorem d_IS_add_16 : decode prog_1_method_5_code 16 = .ok (.lconst 0, 1) := by decide +kernel
theorem d_IS_add_17 : decode prog_1_method_5_code 17 = .ok (.invokestatic 59, 3) := by decide +kernel
theorem d_IS_add_20 : decode prog_1_method_5_code 20 = .ok (.iconst 0, 1) := by decide +kernel
theorem d_IS_add_21 : decode prog_1_method_5_code 21 = .ok (.istore 5, 2) := by decide +kernel
theorem d_IS_add_23 : decode prog_1_method_5_code 23 = .ok (.iload 5, 2) := by decide +kernel
theorem d_IS_add_25 : decode prog_1_method_5_code 25 = .ok (.bipush 8, 2) := by decide +kernel
theorem d_IS_add_27 : decode prog_1_method_5_code 27 = .ok (.if_icmp .ge 62, 3) := by decide +kernel
theorem d_IS_add_30 : decode prog_1_method_5_code 30 = .ok (.aload_n 0, 1) := by decide +kernel
theorem d_IS_add_31 : decode prog_1_method_5_code 31 = .ok (.getfield 14, 3) := by decide +kernel
theorem d_IS_add_34 : decode prog_1_method_5_code 34 = .ok (.iload 5, 2) := by decide +kernel
theorem d_IS_add_36 : decode prog_1_method_5_code 36 = .ok (.iload 4, 2) := by decide +kernel
theorem d_IS_add_38 : decode prog_1_method_5_code 38 = .ok (.ifCond .eq 25, 3) := by decide +kernel
theorem d_IS_add_41 : decode prog_1_method_5_code 41 = .ok (.aload_n 0, 1) := by decide +kernel
theorem d_IS_add_42 : decode prog_1_method_5_code 42 = .ok (.getfield 11, 3) := by decide +kernel
theorem d_IS_add_45 : decode prog_1_method_5_code 45 = .ok (.iload_n 2, 1) := by decide +kernel
theorem d_IS_add_46 : decode prog_1_method_5_code 46 = .ok (.aaload, 1) := by decide +kernel
theorem d_IS_add_47 : decode prog_1_method_5_code 47 = .ok (.iload 5, 2) := by decide +kernel
theorem d_IS_add_49 : decode prog_1_method_5_code 49 = .ok (.laload, 1) := by decide +kernel
theorem d_IS_add_50 : decode prog_1_method_5_code 50 = .ok (.aload_n 0, 1) := by decide +kernel
theorem d_IS_add_51 : decode prog_1_method_5_code 51 = .ok (.getfield 11, 3) := by decide +kernel
theorem d_IS_add_54 : decode prog_1_method_5_code 54 = .ok (.iload_n 3, 1) := by decide +kernel
theorem d_IS_add_55 : decode prog_1_method_5_code 55 = .ok (.aaload, 1) := by decide +kernel
theorem d_IS_add_56 : decode prog_1_method_5_code 56 = .ok (.iload 5, 2) := by decide +kernel
theorem d_IS_add_58 : decode prog_1_method_5_code 58 = .ok (.laload, 1) := by decide +kernel
theorem d_IS_add_59 : decode prog_1_method_5_code 59 = .ok (.lsub, 1) := by decide +kernel
theorem d_IS_add_60 : decode prog_1_method_5_code 60 = .ok (.goto 22, 3) := by decide +kernel
theorem d_IS_add_63 : decode prog_1_method_5_code 63 = .ok (.aload_n 0, 1) := by decide +kernel
theorem d_IS_add_64 : decode prog_1_method_5_code 64 = .ok (.getfield 11, 3) := by decide +kernel
theorem d_IS_add_67 : decode prog_1_method_5_code 67 = .ok (.iload_n 2, 1) := by decide +kernel
theorem d_IS_add_68 : decode prog_1_method_5_code 68 = .ok (.aaload, 1) := by decide +kernel
theorem d_IS_add_69 : decode prog_1_method_5_code 69 = .ok (.iload 5, 2) := by decide +kernel
theorem d_IS_add_71 : decode prog_1_method_5_code 71 = .ok (.laload, 1) := by decide +kernel
theorem d_IS_add_72 : decode prog_1_method_5_code 72 = .ok (.aload_n 0, 1) := by decide +kernel
theorem d_IS_add_73 : decode prog_1_method_5_code 73 = .ok (.getfield 11, 3) := by decide +kernel
theorem d_IS_add_76 : decode prog_1_method_5_code 76 = .ok (.iload_n 3, 1) := by decide +kernel
theorem d_IS_add_77 : decode prog_1_method_5_code 77 = .ok (.aaload, 1) := by decide +kernel
theorem d_IS_add_78 : decode prog_1_method_5_code 78 = .ok (.iload 5, 2) := by decide +kernel
theorem d_IS_add_80 : decode prog_1_method_5_code 80 = .ok (.laload, 1) := by decide +kernel
theorem d_IS_add_81 : decode prog_1_method_5_code 81 = .ok (.ladd, 1) := by decide +kernel
theorem d_IS_add_82 : decode prog_1_method_5_code 82 = .ok (.lastore, 1) := by decide +kernel
theorem d_IS_add_83 : decode prog_1_method_5_code 83 = .ok (.iinc 5 1, 3) := by decide +kernel
theorem d_IS_add_86 : decode prog_1_method_5_code 86 = .ok (.goto (-63), 3) := by decide +kernel
theorem d_IS_add_89 : decode prog_1_method_5_code 89 = .ok (.aload_n 0, 1) := by decide +kernel
theorem d_IS_add_90 : decode prog_1_method_5_code 90 = .ok (.iload_n 1, 1) := by decide +kernel
theorem d_IS_add_91 : decode prog_1_method_5_code 91 = .ok (.aload_n 0, 1) := by decide +kernel
theorem d_IS_add_92 : decode prog_1_method_5_code 92 = .ok (.getfield 14, 3) := by decide +kernel
theorem d_IS_add_95 : decode prog_1_method_5_code 95 = .ok (.invokevirtual 65, 3) := by decide +kernel
theorem d_IS_add_98 : decode prog_1_method_5_code 98 = .ok (.ireturn, 1) := by decide +kernel
def B_IS_add_23 (P : Int32 → zM → Prop) (X : Nat → zM → Prop) (a1 : Int32) (a2 : Int32) (a3 : Int32) (a4 : Int32) (k23 : Int32 → zM → Prop) (v5 : Int32) (M : zM) : Prop := ((8 : Int32) ≤ v5 → w_IS_keep a1 6 M (fun r19 M20 => P r19 M20) (fun k M22 => X k M22)) ∧ (¬ (8 : Int32) ≤ v5 → (a4 = 0 → vp_in a2 (zgn 1) ∧ vp_in v5 (zlong (1 + 1 + a2.toNatClampNeg)) ∧ vp_in a3 (zgn 1) ∧ vp_in v5 (zlong (1 + 1 + a3.toNatClampNeg)) ∧ vp_in v5 (zlong 6) ∧ ∀ M24 : zM, M24 = zput M 6 v5.toNatClampNeg ((M (1 + 1 + a2.toNatClampNeg) v5.toNatClampNeg) + (M (1 + 1 + a3.toNatClampNeg) v5.toNatClampNeg)) → k23 (v5 + (1 : Int32)) M24) ∧ (¬ a4 = 0 → vp_in a2 (zgn 1) ∧ vp_in v5 (zlong (1 + 1 + a2.toNatClampNeg)) ∧ vp_in a3 (zgn 1) ∧ vp_in v5 (zlong (1 + 1 + a3.toNatClampNeg)) ∧ vp_in v5 (zlong 6) ∧ ∀ M25 : zM, M25 = zput M 6 v5.toNatClampNeg ((M (1 + 1 + a2.toNatClampNeg) v5.toNatClampNeg) - (M (1 + 1 + a3.toNatClampNeg) v5.toNatClampNeg)) → k23 (v5 + (1 : Int32)) M25))
def L_IS_add_23 (P : Int32 → zM → Prop) (X : Nat → zM → Prop) (a1 : Int32) (a2 : Int32) (a3 : Int32) (a4 : Int32) (n : Nat) : Int32 → zM → Prop := Nat.rec (fun _ _ => False) (fun _ k => B_IS_add_23 P X a1 a2 a3 a4 k) n
def w_IS_add (a1 : Int32) (a2 : Int32) (a3 : Int32) (a4 : Int32) (M : zM) (P : Int32 → zM → Prop) (X : Nat → zM → Prop) : Prop := w_IS_requireRegister a1  (w_IS_requireRegister a2  (w_IS_requireRegister a3  (w_Ar_fillJ 6 (0 : Int64) M (fun M11 => ∃ n, L_IS_add_23 P X a1 a2 a3 a4 n (0 : Int32) M11)) (fun k => X k M)) (fun k => X k M)) (fun k => X k M)
def ws_IS_add : List Cond := .code y_IS_add prog_1_method_5_code 6 (Option.some Jvm.ClassFile.FieldType.int) :: zall
def rm_IS_add : Room := { frames := 7, cells := 4, slots := 24, locals := 111 }
theorem hd_IS_add : y_IS_add.cls ≠ "java/lang/invoke/MethodHandle" ∧ y_IS_add.cls ≠ "java/lang/invoke/VarHandle" ∧ (parseMethodDescriptor y_IS_add.desc).map (fun d => d.parameters.length) = some 4 := by decide +kernel
set_option maxHeartbeats 4000000 in
set_option maxRecDepth 100000 in
theorem c_IS_add (l : Launch) (hst : l.stackTraces = false) (G : zG) (b : Nat) (a1 : Int32) (a2 : Int32) (a3 : Int32) (a4 : Int32) (M : zM) (N : zN) {P : Int32 → zM → Prop} {X : Nat → zM → Prop} (hw : w_IS_add a1 a2 a3 a4 M P X) : vx_Met l y_IS_add ws_IS_add rm_IS_add (zPc G b M N [.ref (b + 0), .int a1, .int a2, .int a3, .int a4]) (zQi G b (fun r M' N' => P r M' ∧ N' = N)) (zXC G b (fun k M' N' => X k M' ∧ N' = N)) 4 24 (zA b) := by
  refine vx_ofW (cc := prog_1_method_5_code) (maxL := 6) (ret := (Option.some Jvm.ClassFile.FieldType.int)) (by decide) rfl ?_
  intro p e s m args below meth c s₁ B hml hno hv
  obtain ⟨rfl, hZ, hK, hT⟩ := hv
  have hx := B.exec
  have hb := B.bytes
  have hr := B.returns
  have hts := atoms_spec (ws := ws_IS_add) B.pre
  have hta : ∀ w ∈ zall, w.before ([.ref (b + 0), .int a1, .int a2, .int a3, .int a4] : List Value).toArray s = true := fun w h => hts w (List.mem_cons_of_mem _ h)
  have hown : s.vm.findClass R_IS = some m.cls := findClass_of_methodNamed B.named
  have hlocks := B.notSynchronized
  have hS : va_S (zA b) s.heap s.heap [] := va_S.rf
  have hl := lv_entry ([.ref (b + 0), .int a1, .int a2, .int a3, .int a4]) (n := 6) (Nat.le_of_ble_eq_true rfl)
  rw [lg_entry_eq]
  generalize (lg_sl ([.ref (b + 0), .int a1, .int a2, .int a3, .int a4]) ++ List.replicate (6 - (lg_sl ([.ref (b + 0), .int a1, .int a2, .int a3, .int a4])).length) Slot.unset).toArray = ls at hl ⊢
  have hl : lv_has ls 6 [(0, .ref (b + 0)), (1, .int a1), (2, .int a2), (3, .int a3), (4, .int a4)] := hl
  have lp23 : ∀ (n : Nat) (v5 : Int32) (M : zM) (H : Heap) (ls : Array Slot) (locs : List Loc), va_P G.1 zCl (zws G b M N) H → va_S (zA b) s.heap H locs → lv_has ls 6 [(0, .ref (b + 0)), (1, .int a1), (2, .int a2), (3, .int a3), (4, .int a4), (5, .int v5)] → L_IS_add_23 P X a1 a2 a3 a4 n v5 M → W p l e (headSpec ws_IS_add rm_IS_add).room s m ([.ref (b + 0), .int a1, .int a2, .int a3, .int a4] : List Value).toArray below meth c H locs 3 18 (vx_MQ below (zQi G b (fun r M' N' => P r M' ∧ N' = N)) (zXC G b (fun k M' N' => X k M' ∧ N' = N)) ([.ref (b + 0), .int a1, .int a2, .int a3, .int a4] : List Value).toArray s 4 24 (zA b)) (F0 m 23 ls []) := by
    intro  n
    induction n with
    | zero => intro v5 M H ls locs hZ hS hl hw; exact False.elim hw
    | succ n23 ih23 =>
      intro v5 M H ls locs hZ hS hl hw
      have hw : B_IS_add_23 P X a1 a2 a3 a4 (L_IS_add_23 P X a1 a2 a3 a4 n23) v5 M := hw
      unfold B_IS_add_23 at hw
      refine lv_iload (pc := 23) hx hb d_IS_add_23 (lv_at hl 5 rfl) ?_
      refine lv_bipush (pc := 25) (v := 8) hx hb d_IS_add_25 (by decide) ?_
      refine lv_icmp_ge (pc := 27) (tgt := 89) hx hb d_IS_add_27 (by decide) (fun hc => ?_) (fun hc => ?_)
      · have hw := hw.1 hc
        refine lv_aload_n (pc := 89) hx hb d_IS_add_89 rfl (lv_at hl 0 rfl) ?_
        refine lv_iload_n (pc := 90) hx hb d_IS_add_90 rfl (lv_at hl 1 rfl) ?_
        refine lv_aload_n (pc := 91) hx hb d_IS_add_91 rfl (lv_at hl 0 rfl) ?_
        refine zg_IS_14 (pc := 92) hx hb hta hown hK hZ d_IS_add_92 ?_
        refine z_xcalli (pc := 95) (vx_runV (C := R_IS) (b := b + 0) (As := [.int a1, .ref (b + 6)]) (rest := []) ⟨hx, hb, hml, hown, hts⟩ (c_IS_keep l hst G b a1 6 M N hw) (cwV 2 hts (z_good (zgV wd339 wd341 wsel1 wd1 wd342)) rfl rfl rfl ⟨rfl, hd_IS_keep⟩ ⟨Nat.le_of_ble_eq_true rfl, Nat.le_of_ble_eq_true rfl⟩) (z_preV zo_IS rfl rfl hZ hK hT hS) rfl rfl hl.1 rfl (lv_room (Nat.le_of_ble_eq_true rfl)) d_IS_add_95 ⟨Nat.le_of_ble_eq_true rfl, Nat.le_of_ble_eq_true rfl⟩) hS (fun k q ce M22 N23 H locs hw hZ hS h1 h2 h3 => ?_) (fun r19 M20 N21 H locs hw hZ hS => ?_)
        · obtain ⟨hw, eN23⟩ := hw
          rw [eN23] at hZ
          exact z_xout hno hlocks hK hT hZ hS h1 h2 h3 ⟨hw, rfl⟩ (by decide) (by decide)
        · obtain ⟨hw, eN21⟩ := hw
          rw [eN21] at hZ
          refine W.widen (k := 4) (n := 24) (by decide) (by decide) ?_
          exact vx_ret (z_iret hx hb hr hlocks hK hT hZ hS ⟨hw, rfl⟩ d_IS_add_98)
      · have hw := hw.2 hc
        refine lv_aload_n (pc := 30) hx hb d_IS_add_30 rfl (lv_at hl 0 rfl) ?_
        refine zg_IS_14 (pc := 31) hx hb hta hown hK hZ d_IS_add_31 ?_
        refine lv_iload (pc := 34) hx hb d_IS_add_34 (lv_at hl 5 rfl) ?_
        refine lv_iload (pc := 36) hx hb d_IS_add_36 (lv_at hl 4 rfl) ?_
        refine lv_if_eq (pc := 38) (tgt := 63) hx hb d_IS_add_38 (by decide) (fun hc => ?_) (fun hc => ?_)
        · have hw := hw.1 hc
          refine lv_aload_n (pc := 63) hx hb d_IS_add_63 rfl (lv_at hl 0 rfl) ?_
          refine zg_IS_11 (pc := 64) hx hb hta hown hK hZ d_IS_add_64 ?_
          refine lv_iload_n (pc := 67) hx hb d_IS_add_67 rfl (lv_at hl 2 rfl) ?_
          obtain ⟨hc, hw⟩ := hw
          refine z_aald (pc := 68) hx hb hK hZ hc d_IS_add_68 ?_
          refine lv_iload (pc := 69) hx hb d_IS_add_69 (lv_at hl 5 rfl) ?_
          obtain ⟨hc, hw⟩ := hw
          refine z_lald (pc := 71) hx hb hK hZ hc d_IS_add_71 ?_
          refine lv_aload_n (pc := 72) hx hb d_IS_add_72 rfl (lv_at hl 0 rfl) ?_
          refine zg_IS_11 (pc := 73) hx hb hta hown hK hZ d_IS_add_73 ?_
          refine lv_iload_n (pc := 76) hx hb d_IS_add_76 rfl (lv_at hl 3 rfl) ?_
          obtain ⟨hc, hw⟩ := hw
          refine z_aald (pc := 77) hx hb hK hZ hc d_IS_add_77 ?_
          refine lv_iload (pc := 78) hx hb d_IS_add_78 (lv_at hl 5 rfl) ?_
          obtain ⟨hc, hw⟩ := hw
          refine z_lald (pc := 80) hx hb hK hZ hc d_IS_add_80 ?_
          refine lv_ladd (pc := 81) hx hb d_IS_add_81 ?_
          obtain ⟨hc, hw⟩ := hw
          refine z_last (pc := 82) hx hb hK hZ hS hc d_IS_add_82 (fun M24 H locs hM24 hZ hS => ?_)
          have hw := hw M24 hM24
          refine lv_iinc (pc := 83) (k := 5) (v := v5 + (1 : Int32)) (lv' := [(5, .int (v5 + (1 : Int32))), (0, .ref (b + 0)), (1, .int a1), (2, .int a2), (3, .int a3), (4, .int a4)]) hx hb d_IS_add_83 hl rfl (by rfl) (by decide) rfl (fun ls hl => ?_)
          refine lv_goto (pc := 86) (tgt := 23) hx hb d_IS_add_86 (by decide) ?_
          exact ih23 (v5 + (1 : Int32)) M24 _ _ _ hZ hS (lv_sub hl [1, 2, 3, 4, 5, 0] rfl) hw
        · have hw := hw.2 hc
          refine lv_aload_n (pc := 41) hx hb d_IS_add_41 rfl (lv_at hl 0 rfl) ?_
          refine zg_IS_11 (pc := 42) hx hb hta hown hK hZ d_IS_add_42 ?_
          refine lv_iload_n (pc := 45) hx hb d_IS_add_45 rfl (lv_at hl 2 rfl) ?_
          obtain ⟨hc, hw⟩ := hw
          refine z_aald (pc := 46) hx hb hK hZ hc d_IS_add_46 ?_
          refine lv_iload (pc := 47) hx hb d_IS_add_47 (lv_at hl 5 rfl) ?_
          obtain ⟨hc, hw⟩ := hw
          refine z_lald (pc := 49) hx hb hK hZ hc d_IS_add_49 ?_
          refine lv_aload_n (pc := 50) hx hb d_IS_add_50 rfl (lv_at hl 0 rfl) ?_
          refine zg_IS_11 (pc := 51) hx hb hta hown hK hZ d_IS_add_51 ?_
          refine lv_iload_n (pc := 54) hx hb d_IS_add_54 rfl (lv_at hl 3 rfl) ?_
          obtain ⟨hc, hw⟩ := hw
          refine z_aald (pc := 55) hx hb hK hZ hc d_IS_add_55 ?_
          refine lv_iload (pc := 56) hx hb d_IS_add_56 (lv_at hl 5 rfl) ?_
          obtain ⟨hc, hw⟩ := hw
          refine z_lald (pc := 58) hx hb hK hZ hc d_IS_add_58 ?_
          refine lv_lsub (pc := 59) hx hb d_IS_add_59 ?_
          refine lv_goto (pc := 60) (tgt := 82) hx hb d_IS_add_60 (by decide) ?_
          obtain ⟨hc, hw⟩ := hw
          refine z_last (pc := 82) hx hb hK hZ hS hc d_IS_add_82 (fun M25 H locs hM25 hZ hS => ?_)
          have hw := hw M25 hM25
          refine lv_iinc (pc := 83) (k := 5) (v := v5 + (1 : Int32)) (lv' := [(5, .int (v5 + (1 : Int32))), (0, .ref (b + 0)), (1, .int a1), (2, .int a2), (3, .int a3), (4, .int a4)]) hx hb d_IS_add_83 hl rfl (by rfl) (by decide) rfl (fun ls hl => ?_)
          refine lv_goto (pc := 86) (tgt := 23) hx hb d_IS_add_86 (by decide) ?_
          exact ih23 (v5 + (1 : Int32)) M25 _ _ _ hZ hS (lv_sub hl [1, 2, 3, 4, 5, 0] rfl) hw
  unfold w_IS_add at hw
  refine lv_iload_n (pc := 0) hx hb d_IS_add_0 rfl (lv_at hl 1 rfl) ?_
  refine z_xcallv (pc := 1) (vx_runS (As := [.int a1]) (rest := []) ⟨hx, hb, hml, hown, hts⟩ (c_IS_requireRegister l hst G b a1 M N hw) (va_cwS 1 hts (z_good (zgS wd223 wd224 wd1 wd225)) rfl rfl rfl hd_IS_requireRegister ⟨Nat.le_of_ble_eq_true rfl, Nat.le_of_ble_eq_true rfl⟩) (z_preS hZ hK hT hS) rfl rfl hl.1 rfl (lv_room (Nat.le_of_ble_eq_true rfl)) d_IS_add_1 ⟨Nat.le_of_ble_eq_true rfl, Nat.le_of_ble_eq_true rfl⟩) hS (fun k q ce M17 N18 H locs hw hZ hS h1 h2 h3 => ?_) (fun M2 N3 H locs hw hZ hS => ?_)
  · obtain ⟨hw, eM17, eN18⟩ := hw
    rw [eM17, eN18] at hZ
    exact z_xout hno hlocks hK hT hZ hS h1 h2 h3 ⟨hw, rfl⟩ (by decide) (by decide)
  · obtain ⟨hw, eM2, eN3⟩ := hw
    rw [eM2, eN3] at hZ
    refine lv_iload_n (pc := 4) hx hb d_IS_add_4 rfl (lv_at hl 2 rfl) ?_
    refine z_xcallv (pc := 5) (vx_runS (As := [.int a2]) (rest := []) ⟨hx, hb, hml, hown, hts⟩ (c_IS_requireRegister l hst G b a2 M N hw) (va_cwS 1 hts (z_good (zgS wd223 wd224 wd1 wd225)) rfl rfl rfl hd_IS_requireRegister ⟨Nat.le_of_ble_eq_true rfl, Nat.le_of_ble_eq_true rfl⟩) (z_preS hZ hK hT hS) rfl rfl hl.1 rfl (lv_room (Nat.le_of_ble_eq_true rfl)) d_IS_add_5 ⟨Nat.le_of_ble_eq_true rfl, Nat.le_of_ble_eq_true rfl⟩) hS (fun k q ce M15 N16 H locs hw hZ hS h1 h2 h3 => ?_) (fun M5 N6 H locs hw hZ hS => ?_)
    · obtain ⟨hw, eM15, eN16⟩ := hw
      rw [eM15, eN16] at hZ
      exact z_xout hno hlocks hK hT hZ hS h1 h2 h3 ⟨hw, rfl⟩ (by decide) (by decide)
    · obtain ⟨hw, eM5, eN6⟩ := hw
      rw [eM5, eN6] at hZ
      refine lv_iload_n (pc := 8) hx hb d_IS_add_8 rfl (lv_at hl 3 rfl) ?_
      refine z_xcallv (pc := 9) (vx_runS (As := [.int a3]) (rest := []) ⟨hx, hb, hml, hown, hts⟩ (c_IS_requireRegister l hst G b a3 M N hw) (va_cwS 1 hts (z_good (zgS wd223 wd224 wd1 wd225)) rfl rfl rfl hd_IS_requireRegister ⟨Nat.le_of_ble_eq_true rfl, Nat.le_of_ble_eq_true rfl⟩) (z_preS hZ hK hT hS) rfl rfl hl.1 rfl (lv_room (Nat.le_of_ble_eq_true rfl)) d_IS_add_9 ⟨Nat.le_of_ble_eq_true rfl, Nat.le_of_ble_eq_true rfl⟩) hS (fun k q ce M13 N14 H locs hw hZ hS h1 h2 h3 => ?_) (fun M8 N9 H locs hw hZ hS => ?_)
      · obtain ⟨hw, eM13, eN14⟩ := hw
        rw [eM13, eN14] at hZ
        exact z_xout hno hlocks hK hT hZ hS h1 h2 h3 ⟨hw, rfl⟩ (by decide) (by decide)
      · obtain ⟨hw, eM8, eN9⟩ := hw
        rw [eM8, eN9] at hZ
        refine lv_aload_n (pc := 12) hx hb d_IS_add_12 rfl (lv_at hl 0 rfl) ?_
        refine zg_IS_14 (pc := 13) hx hb hta hown hK hZ d_IS_add_13 ?_
        refine lv_lconst (pc := 16) (v := 0) hx hb d_IS_add_16 (by decide) ?_
        refine z_callv (pc := 17) (va_runS (As := [.ref (b + 6), .long (0 : Int64)]) (rest := []) ⟨hx, hb, hml, hown, hts⟩ (c_Ar_fillJ l G b 6 (0 : Int64) M N hw) (va_cwS 2 hts (z_good (zgS wd336 wd337 wd14 wd338)) rfl rfl rfl hd_Ar_fillJ ⟨Nat.le_of_ble_eq_true rfl, Nat.le_of_ble_eq_true rfl⟩) (z_preS hZ hK hT hS) rfl rfl hl.1 rfl (lv_room (Nat.le_of_ble_eq_true rfl)) d_IS_add_17 ⟨Nat.le_of_ble_eq_true rfl, Nat.le_of_ble_eq_true rfl⟩) hS (fun M11 N12 H locs hw hZ hS => ?_)
        obtain ⟨hw, eN12⟩ := hw
        rw [eN12] at hZ
        refine lv_iconst (pc := 20) (v := 0) hx hb d_IS_add_20 (by decide) ?_
        refine lv_istore (pc := 21) (lv' := [(5, .int (0 : Int32)), (0, .ref (b + 0)), (1, .int a1), (2, .int a2), (3, .int a3), (4, .int a4)]) hx hb d_IS_add_21 hl (by decide) rfl (fun ls hl => ?_)
        obtain ⟨n, hw⟩ := hw
        exact lp23  n (0 : Int32) M11 _ _ _ hZ hS (lv_sub hl [1, 2, 3, 4, 5, 0] rfl) hw
theorem d_IS_multiply_0 : decode prog_1_method_6_code 0 = .ok (.iload_n 1, 1) := by decide +kernel
theorem d_IS_multiply_1 : decode prog_1_method_6_code 1 = .ok (.invokestatic 41, 3) := by decide +kernel
theorem d_IS_multiply_4 : decode prog_1_method_6_code 4 = .ok (.iload_n 2, 1) := by decide +kernel
theorem d_IS_multiply_5 : decode prog_1_method_6_code 5 = .ok (.invokestatic 41, 3) := by decide +kernel
theorem d_IS_multiply_8 : decode prog_1_method_6_code 8 = .ok (.iload_n 3, 1) := by decide +kernel
theorem d_IS_multiply_9 : decode prog_1_method_6_code 9 = .ok (.invokestatic 41, 3) := by decide +kernel
theorem d_IS_multiply_12 : decode prog_1_method_6_code 12 = .ok (.aload_n 0, 1) := by decide +kernel
theorem d_IS_multiply_13 : decode prog_1_method_6_code 13 = .ok (.getfield 14, 3) := by decide +kernel
theorem d_IS_multiply_16 : decode prog_1_method_6_code 16 = .ok (.lconst 0, 1) := by decide +kernel
theorem d_IS_multiply_17 : decode prog_1_method_6_code 17 = .ok (.invokestatic 59, 3) := by decide +kernel
theorem d_IS_multiply_20 : decode prog_1_method_6_code 20 = .ok (.iconst 0, 1) := by decide +kernel
theorem d_IS_multiply_21 : decode prog_1_method_6_code 21 = .ok (.istore 4, 2) := by decide +kernel
theorem d_IS_multiply_23 : decode prog_1_method_6_code 23 = .ok (.iload 4, 2) := by decide +kernel
theorem d_IS_multiply_25 : decode prog_1_method_6_code 25 = .ok (.bipush 8, 2) := by decide +kernel
theorem d_IS_multiply_27 : decode prog_1_method_6_code 27 = .ok (.if_icmp .ge 57, 3) := by decide +kernel
theorem d_IS_multiply_30 : decode prog_1_method_6_code 30 = .ok (.iconst 0, 1) := by decide +kernel
theorem d_IS_multiply_31 : decode prog_1_method_6_code 31 = .ok (.istore 5, 2) := by decide +kernel
theorem d_IS_multiply_33 : decode prog_1_method_6_code 33 = .ok (.iload 5, 2) := by decide +kernel
theorem d_IS_multiply_35 : decode prog_1_method_6_code 35 = .ok (.bipush 8, 2) := by decide +kernel
theorem d_IS_multiply_37 : decode prog_1_method_6_code 37 = .ok (.if_icmp .ge 41, 3) := by decide +kernel
theorem d_IS_multiply_40 : decode prog_1_method_6_code 40 = .ok (.aload_n 0, 1) := by decide +kernel
theorem d_IS_multiply_41 : decode prog_1_method_6_code 41 = .ok (.getfield 14, 3) := by decide +kernel
theorem d_IS_multiply_44 : decode prog_1_method_6_code 44 = .ok (.iload 4, 2) := by decide +kernel
theorem d_IS_multiply_46 : decode prog_1_method_6_code 46 = .ok (.iload 5, 2) := by decide +kernel
theorem d_IS_multiply_48 : decode prog_1_method_6_code 48 = .ok (.iadd, 1) := by decide +kernel
theorem d_IS_multiply_49 : decode prog_1_method_6_code 49 = .ok (.dup2, 1) := by decide +kernel
theorem d_IS_multiply_50 : decode prog_1_method_6_code 50 = .ok (.laload, 1) := by decide +kernel
theorem d_IS_multiply_51 : decode prog_1_method_6_code 51 = .ok (.aload_n 0, 1) := by decide +kernel
theorem d_IS_multiply_52 : decode prog_1_method_6_code 52 = .ok (.getfield 11, 3) := by decide +kernel
theorem d_IS_multiply_55 : decode prog_1_method_6_code 55 = .ok (.iload_n 2, 1) := by decide +kernel
theorem d_IS_multiply_56 : decode prog_1_method_6_code 56 = .ok (.aaload, 1) := by decide +kernel
theorem d_IS_multiply_57 : decode prog_1_method_6_code 57 = .ok (.iload 4, 2) := by decide +kernel
theorem d_IS_multiply_59 : decode prog_1_method_6_code 59 = .ok (.laload, 1) := by decide +kernel
theorem d_IS_multiply_60 : decode prog_1_method_6_code 60 = .ok (.aload_n 0, 1) := by decide +kernel
theorem d_IS_multiply_61 : decode prog_1_method_6_code 61 = .ok (.getfield 11, 3) := by decide +kernel
theorem d_IS_multiply_64 : decode prog_1_method_6_code 64 = .ok (.iload_n 3, 1) := by decide +kernel
theorem d_IS_multiply_65 : decode prog_1_method_6_code 65 = .ok (.aaload, 1) := by decide +kernel
theorem d_IS_multiply_66 : decode prog_1_method_6_code 66 = .ok (.iload 5, 2) := by decide +kernel
theorem d_IS_multiply_68 : decode prog_1_method_6_code 68 = .ok (.laload, 1) := by decide +kernel
theorem d_IS_multiply_69 : decode prog_1_method_6_code 69 = .ok (.lmul, 1) := by decide +kernel
theorem d_IS_multiply_70 : decode prog_1_method_6_code 70 = .ok (.ladd, 1) := by decide +kernel
theorem d_IS_multiply_71 : decode prog_1_method_6_code 71 = .ok (.lastore, 1) := by decide +kernel
theorem d_IS_multiply_72 : decode prog_1_method_6_code 72 = .ok (.iinc 5 1, 3) := by decide +kernel
theorem d_IS_multiply_75 : decode prog_1_method_6_code 75 = .ok (.goto (-42), 3) := by decide +kernel
theorem d_IS_multiply_78 : decode prog_1_method_6_code 78 = .ok (.iinc 4 1, 3) := by decide +kernel
theorem d_IS_multiply_81 : decode prog_1_method_6_code 81 = .ok (.goto (-58), 3) := by decide +kernel
theorem d_IS_multiply_84 : decode prog_1_method_6_code 84 = .ok (.aload_n 0, 1) := by decide +kernel
theorem d_IS_multiply_85 : decode prog_1_method_6_code 85 = .ok (.iload_n 1, 1) := by decide +kernel
theorem d_IS_multiply_86 : decode prog_1_method_6_code 86 = .ok (.aload_n 0, 1) := by decide +kernel
theorem d_IS_multiply_87 : decode prog_1_method_6_code 87 = .ok (.getfield 14, 3) := by decide +kernel
theorem d_IS_multiply_90 : decode prog_1_method_6_code 90 = .ok (.invokevirtual 65, 3) := by decide +kernel
theorem d_IS_multiply_93 : decode prog_1_method_6_code 93 = .ok (.ireturn, 1) := by decide +kernel
def B_IS_multiply_33 (P : Int32 → zM → Prop) (X : Nat → zM → Prop) (k23 : Int32 → zM → Prop) (a1 : Int32) (a2 : Int32) (a3 : Int32) (v4 : Int32) (k33 : Int32 → zM → Prop) (v5 : Int32) (M : zM) : Prop := ((8 : Int32) ≤ v5 → k23 (v4 + (1 : Int32)) M) ∧ (¬ (8 : Int32) ≤ v5 → vp_in (v4 + v5) (zlong 6) ∧ vp_in a2 (zgn 1) ∧ vp_in v4 (zlong (1 + 1 + a2.toNatClampNeg)) ∧ vp_in a3 (zgn 1) ∧ vp_in v5 (zlong (1 + 1 + a3.toNatClampNeg)) ∧ vp_in (v4 + v5) (zlong 6) ∧ ∀ M24 : zM, M24 = zput M 6 (v4 + v5).toNatClampNeg ((M 6 (v4 + v5).toNatClampNeg) + ((M (1 + 1 + a2.toNatClampNeg) v4.toNatClampNeg) * (M (1 + 1 + a3.toNatClampNeg) v5.toNatClampNeg))) → k33 (v5 + (1 : Int32)) M24)
def L_IS_multiply_33 (P : Int32 → zM → Prop) (X : Nat → zM → Prop) (k23 : Int32 → zM → Prop) (a1 : Int32) (a2 : Int32) (a3 : Int32) (v4 : Int32) (n : Nat) : Int32 → zM → Prop := Nat.rec (fun _ _ => False) (fun _ k => B_IS_multiply_33 P X k23 a1 a2 a3 v4 k) n
def B_IS_multiply_23 (P : Int32 → zM → Prop) (X : Nat → zM → Prop) (a1 : Int32) (a2 : Int32) (a3 : Int32) (k23 : Int32 → zM → Prop) (v4 : Int32) (M : zM) : Prop := ((8 : Int32) ≤ v4 → w_IS_keep a1 6 M (fun r19 M20 => P r19 M20) (fun k M22 => X k M22)) ∧ (¬ (8 : Int32) ≤ v4 → ∃ n, L_IS_multiply_33 P X k23 a1 a2 a3 v4 n (0 : Int32) M)
def L_IS_multiply_23 (P : Int32 → zM → Prop) (X : Nat → zM → Prop) (a1 : Int32) (a2 : Int32) (a3 : Int32) (n : Nat) : Int32 → zM → Prop := Nat.rec (fun _ _ => False) (fun _ k => B_IS_multiply_23 P X a1 a2 a3 k) n
def w_IS_multiply (a1 : Int32) (a2 : Int32) (a3 : Int32) (M : zM) (P : Int32 → zM → Prop) (X : Nat → zM → Prop) : Prop := w_IS_requireRegister a1  (w_IS_requireRegister a2  (w_IS_requireRegister a3  (w_Ar_fillJ 6 (0 : Int64) M (fun M11 => ∃ n, L_IS_multiply_23 P X a1 a2 a3 n (0 : Int32) M11)) (fun k => X k M)) (fun k => X k M)) (fun k => X k M)
def ws_IS_multiply : List Cond := .code y_IS_multiply prog_1_method_6_code 6 (Option.some Jvm.ClassFile.FieldType.int) :: zall
def rm_IS_multiply : Room := { frames := 7, cells := 4, slots := 24, locals := 111 }
theorem hd_IS_multiply : y_IS_multiply.cls ≠ "java/lang/invoke/MethodHandle" ∧ y_IS_multiply.cls ≠ "java/lang/invoke/VarHandle" ∧ (parseMethodDescriptor y_IS_multiply.desc).map (fun d => d.parameters.length) = some 3 := by decide +kernel
set_option maxHeartbeats 4000000 in
set_option maxRecDepth 100000 in
theorem c_IS_multiply (l : Launch) (hst : l.stackTraces = false) (G : zG) (b : Nat) (a1 : Int32) (a2 : Int32) (a3 : Int32) (M : zM) (N : zN) {P : Int32 → zM → Prop} {X : Nat → zM → Prop} (hw : w_IS_multiply a1 a2 a3 M P X) : vx_Met l y_IS_multiply ws_IS_multiply rm_IS_multiply (zPc G b M N [.ref (b + 0), .int a1, .int a2, .int a3]) (zQi G b (fun r M' N' => P r M' ∧ N' = N)) (zXC G b (fun k M' N' => X k M' ∧ N' = N)) 4 24 (zA b) := by
  refine vx_ofW (cc := prog_1_method_6_code) (maxL := 6) (ret := (Option.some Jvm.ClassFile.FieldType.int)) (by decide) rfl ?_
  intro p e s m args below meth c s₁ B hml hno hv
  obtain ⟨rfl, hZ, hK, hT⟩ := hv
  have hx := B.exec
  have hb := B.bytes
  have hr := B.returns
  have hts := atoms_spec (ws := ws_IS_multiply) B.pre
  have hta : ∀ w ∈ zall, w.before ([.ref (b + 0), .int a1, .int a2, .int a3] : List Value).toArray s = true := fun w h => hts w (List.mem_cons_of_mem _ h)
  have hown : s.vm.findClass R_IS = some m.cls := findClass_of_methodNamed B.named
  have hlocks := B.notSynchronized
  have hS : va_S (zA b) s.heap s.heap [] := va_S.rf
  have hl := lv_entry ([.ref (b + 0), .int a1, .int a2, .int a3]) (n := 6) (Nat.le_of_ble_eq_true rfl)
  rw [lg_entry_eq]
  generalize (lg_sl ([.ref (b + 0), .int a1, .int a2, .int a3]) ++ List.replicate (6 - (lg_sl ([.ref (b + 0), .int a1, .int a2, .int a3])).length) Slot.unset).toArray = ls at hl ⊢
  have hl : lv_has ls 6 [(0, .ref (b + 0)), (1, .int a1), (2, .int a2), (3, .int a3)] := hl
  have lp23 : ∀ (n : Nat) (v4 : Int32) (M : zM) (H : Heap) (ls : Array Slot) (locs : List Loc), va_P G.1 zCl (zws G b M N) H → va_S (zA b) s.heap H locs → lv_has ls 6 [(0, .ref (b + 0)), (1, .int a1), (2, .int a2), (3, .int a3), (4, .int v4)] → L_IS_multiply_23 P X a1 a2 a3 n v4 M → W p l e (headSpec ws_IS_multiply rm_IS_multiply).room s m ([.ref (b + 0), .int a1, .int a2, .int a3] : List Value).toArray below meth c H locs 3 18 (vx_MQ below (zQi G b (fun r M' N' => P r M' ∧ N' = N)) (zXC G b (fun k M' N' => X k M' ∧ N' = N)) ([.ref (b + 0), .int a1, .int a2, .int a3] : List Value).toArray s 4 24 (zA b)) (F0 m 23 ls []) := by
    intro  n
    induction n with
    | zero => intro v4 M H ls locs hZ hS hl hw; exact False.elim hw
    | succ n23 ih23 =>
      have lp33 : ∀ (v4 : Int32) (n : Nat) (v5 : Int32) (M : zM) (H : Heap) (ls : Array Slot) (locs : List Loc), va_P G.1 zCl (zws G b M N) H → va_S (zA b) s.heap H locs → lv_has ls 6 [(0, .ref (b + 0)), (1, .int a1), (2, .int a2), (3, .int a3), (4, .int v4), (5, .int v5)] → L_IS_multiply_33 P X (L_IS_multiply_23 P X a1 a2 a3 n23) a1 a2 a3 v4 n v5 M → W p l e (headSpec ws_IS_multiply rm_IS_multiply).room s m ([.ref (b + 0), .int a1, .int a2, .int a3] : List Value).toArray below meth c H locs 3 18 (vx_MQ below (zQi G b (fun r M' N' => P r M' ∧ N' = N)) (zXC G b (fun k M' N' => X k M' ∧ N' = N)) ([.ref (b + 0), .int a1, .int a2, .int a3] : List Value).toArray s 4 24 (zA b)) (F0 m 33 ls []) := by
        intro v4 n
        induction n with
        | zero => intro v5 M H ls locs hZ hS hl hw; exact False.elim hw
        | succ n33 ih33 =>
          intro v5 M H ls locs hZ hS hl hw
          have hw : B_IS_multiply_33 P X (L_IS_multiply_23 P X a1 a2 a3 n23) a1 a2 a3 v4 (L_IS_multiply_33 P X (L_IS_multiply_23 P X a1 a2 a3 n23) a1 a2 a3 v4 n33) v5 M := hw
          unfold B_IS_multiply_33 at hw
          refine lv_iload (pc := 33) hx hb d_IS_multiply_33 (lv_at hl 5 rfl) ?_
          refine lv_bipush (pc := 35) (v := 8) hx hb d_IS_multiply_35 (by decide) ?_
          refine lv_icmp_ge (pc := 37) (tgt := 78) hx hb d_IS_multiply_37 (by decide) (fun hc => ?_) (fun hc => ?_)
          · have hw := hw.1 hc
            refine lv_iinc (pc := 78) (k := 4) (v := v4 + (1 : Int32)) (lv' := [(4, .int (v4 + (1 : Int32))), (0, .ref (b + 0)), (1, .int a1), (2, .int a2), (3, .int a3), (5, .int v5)]) hx hb d_IS_multiply_78 hl rfl (by rfl) (by decide) rfl (fun ls hl => ?_)
            refine lv_goto (pc := 81) (tgt := 23) hx hb d_IS_multiply_81 (by decide) ?_
            exact ih23 (v4 + (1 : Int32)) M _ _ _ hZ hS (lv_sub hl [1, 2, 3, 4, 0] rfl) hw
          · have hw := hw.2 hc
            refine lv_aload_n (pc := 40) hx hb d_IS_multiply_40 rfl (lv_at hl 0 rfl) ?_
            refine zg_IS_14 (pc := 41) hx hb hta hown hK hZ d_IS_multiply_41 ?_
            refine lv_iload (pc := 44) hx hb d_IS_multiply_44 (lv_at hl 4 rfl) ?_
            refine lv_iload (pc := 46) hx hb d_IS_multiply_46 (lv_at hl 5 rfl) ?_
            refine lv_iadd (pc := 48) hx hb d_IS_multiply_48 ?_
            refine lv_dup2_11 (pc := 49) hx hb d_IS_multiply_49 rfl rfl ?_
            obtain ⟨hc, hw⟩ := hw
            refine z_lald (pc := 50) hx hb hK hZ hc d_IS_multiply_50 ?_
            refine lv_aload_n (pc := 51) hx hb d_IS_multiply_51 rfl (lv_at hl 0 rfl) ?_
            refine zg_IS_11 (pc := 52) hx hb hta hown hK hZ d_IS_multiply_52 ?_
            refine lv_iload_n (pc := 55) hx hb d_IS_multiply_55 rfl (lv_at hl 2 rfl) ?_
            obtain ⟨hc, hw⟩ := hw
            refine z_aald (pc := 56) hx hb hK hZ hc d_IS_multiply_56 ?_
            refine lv_iload (pc := 57) hx hb d_IS_multiply_57 (lv_at hl 4 rfl) ?_
            obtain ⟨hc, hw⟩ := hw
            refine z_lald (pc := 59) hx hb hK hZ hc d_IS_multiply_59 ?_
            refine lv_aload_n (pc := 60) hx hb d_IS_multiply_60 rfl (lv_at hl 0 rfl) ?_
            refine zg_IS_11 (pc := 61) hx hb hta hown hK hZ d_IS_multiply_61 ?_
            refine lv_iload_n (pc := 64) hx hb d_IS_multiply_64 rfl (lv_at hl 3 rfl) ?_
            obtain ⟨hc, hw⟩ := hw
            refine z_aald (pc := 65) hx hb hK hZ hc d_IS_multiply_65 ?_
            refine lv_iload (pc := 66) hx hb d_IS_multiply_66 (lv_at hl 5 rfl) ?_
            obtain ⟨hc, hw⟩ := hw
            refine z_lald (pc := 68) hx hb hK hZ hc d_IS_multiply_68 ?_
            refine lv_lmul (pc := 69) hx hb d_IS_multiply_69 ?_
            refine lv_ladd (pc := 70) hx hb d_IS_multiply_70 ?_
            obtain ⟨hc, hw⟩ := hw
            refine z_last (pc := 71) hx hb hK hZ hS hc d_IS_multiply_71 (fun M24 H locs hM24 hZ hS => ?_)
            have hw := hw M24 hM24
            refine lv_iinc (pc := 72) (k := 5) (v := v5 + (1 : Int32)) (lv' := [(5, .int (v5 + (1 : Int32))), (0, .ref (b + 0)), (1, .int a1), (2, .int a2), (3, .int a3), (4, .int v4)]) hx hb d_IS_multiply_72 hl rfl (by rfl) (by decide) rfl (fun ls hl => ?_)
            refine lv_goto (pc := 75) (tgt := 33) hx hb d_IS_multiply_75 (by decide) ?_
            exact ih33 (v5 + (1 : Int32)) M24 _ _ _ hZ hS (lv_sub hl [1, 2, 3, 4, 5, 0] rfl) hw
      intro v4 M H ls locs hZ hS hl hw
      have hw : B_IS_multiply_23 P X a1 a2 a3 (L_IS_multiply_23 P X a1 a2 a3 n23) v4 M := hw
      unfold B_IS_multiply_23 at hw
      refine lv_iload (pc := 23) hx hb d_IS_multiply_23 (lv_at hl 4 rfl) ?_
      refine lv_bipush (pc := 25) (v := 8) hx hb d_IS_multiply_25 (by decide) ?_
      refine lv_icmp_ge (pc := 27) (tgt := 84) hx hb d_IS_multiply_27 (by decide) (fun hc => ?_) (fun hc => ?_)
      · have hw := hw.1 hc
        refine lv_aload_n (pc := 84) hx hb d_IS_multiply_84 rfl (lv_at hl 0 rfl) ?_
        refine lv_iload_n (pc := 85) hx hb d_IS_multiply_85 rfl (lv_at hl 1 rfl) ?_
        refine lv_aload_n (pc := 86) hx hb d_IS_multiply_86 rfl (lv_at hl 0 rfl) ?_
        refine zg_IS_14 (pc := 87) hx hb hta hown hK hZ d_IS_multiply_87 ?_
        refine z_xcalli (pc := 90) (vx_runV (C := R_IS) (b := b + 0) (As := [.int a1, .ref (b + 6)]) (rest := []) ⟨hx, hb, hml, hown, hts⟩ (c_IS_keep l hst G b a1 6 M N hw) (cwV 2 hts (z_good (zgV wd339 wd341 wsel1 wd1 wd342)) rfl rfl rfl ⟨rfl, hd_IS_keep⟩ ⟨Nat.le_of_ble_eq_true rfl, Nat.le_of_ble_eq_true rfl⟩) (z_preV zo_IS rfl rfl hZ hK hT hS) rfl rfl hl.1 rfl (lv_room (Nat.le_of_ble_eq_true rfl)) d_IS_multiply_90 ⟨Nat.le_of_ble_eq_true rfl, Nat.le_of_ble_eq_true rfl⟩) hS (fun k q ce M22 N23 H locs hw hZ hS h1 h2 h3 => ?_) (fun r19 M20 N21 H locs hw hZ hS => ?_)
        · obtain ⟨hw, eN23⟩ := hw
          rw [eN23] at hZ
          exact z_xout hno hlocks hK hT hZ hS h1 h2 h3 ⟨hw, rfl⟩ (by decide) (by decide)
        · obtain ⟨hw, eN21⟩ := hw
          rw [eN21] at hZ
          refine W.widen (k := 4) (n := 24) (by decide) (by decide) ?_
          exact vx_ret (z_iret hx hb hr hlocks hK hT hZ hS ⟨hw, rfl⟩ d_IS_multiply_93)
      · have hw := hw.2 hc
        refine lv_iconst (pc := 30) (v := 0) hx hb d_IS_multiply_30 (by decide) ?_
        refine lv_istore (pc := 31) (lv' := [(5, .int (0 : Int32)), (0, .ref (b + 0)), (1, .int a1), (2, .int a2), (3, .int a3), (4, .int v4)]) hx hb d_IS_multiply_31 hl (by decide) rfl (fun ls hl => ?_)
        obtain ⟨n, hw⟩ := hw
        exact lp33 v4 n (0 : Int32) M _ _ _ hZ hS (lv_sub hl [1, 2, 3, 4, 5, 0] rfl) hw
  unfold w_IS_multiply at hw
  refine lv_iload_n (pc := 0) hx hb d_IS_multiply_0 rfl (lv_at hl 1 rfl) ?_
  refine z_xcallv (pc := 1) (vx_runS (As := [.int a1]) (rest := []) ⟨hx, hb, hml, hown, hts⟩ (c_IS_requireRegister l hst G b a1 M N hw) (va_cwS 1 hts (z_good (zgS wd223 wd224 wd1 wd225)) rfl rfl rfl hd_IS_requireRegister ⟨Nat.le_of_ble_eq_true rfl, Nat.le_of_ble_eq_true rfl⟩) (z_preS hZ hK hT hS) rfl rfl hl.1 rfl (lv_room (Nat.le_of_ble_eq_true rfl)) d_IS_multiply_1 ⟨Nat.le_of_ble_eq_true rfl, Nat.le_of_ble_eq_true rfl⟩) hS (fun k q ce M17 N18 H locs hw hZ hS h1 h2 h3 => ?_) (fun M2 N3 H locs hw hZ hS => ?_)
  · obtain ⟨hw, eM17, eN18⟩ := hw
    rw [eM17, eN18] at hZ
    exact z_xout hno hlocks hK hT hZ hS h1 h2 h3 ⟨hw, rfl⟩ (by decide) (by decide)
  · obtain ⟨hw, eM2, eN3⟩ := hw
    rw [eM2, eN3] at hZ
    refine lv_iload_n (pc := 4) hx hb d_IS_multiply_4 rfl (lv_at hl 2 rfl) ?_
    refine z_xcallv (pc := 5) (vx_runS (As := [.int a2]) (rest := []) ⟨hx, hb, hml, hown, hts⟩ (c_IS_requireRegister l hst G b a2 M N hw) (va_cwS 1 hts (z_good (zgS wd223 wd224 wd1 wd225)) rfl rfl rfl hd_IS_requireRegister ⟨Nat.le_of_ble_eq_true rfl, Nat.le_of_ble_eq_true rfl⟩) (z_preS hZ hK hT hS) rfl rfl hl.1 rfl (lv_room (Nat.le_of_ble_eq_true rfl)) d_IS_multiply_5 ⟨Nat.le_of_ble_eq_true rfl, Nat.le_of_ble_eq_true rfl⟩) hS (fun k q ce M15 N16 H locs hw hZ hS h1 h2 h3 => ?_) (fun M5 N6 H locs hw hZ hS => ?_)
    · obtain ⟨hw, eM15, eN16⟩ := hw
      rw [eM15, eN16] at hZ
      exact z_xout hno hlocks hK hT hZ hS h1 h2 h3 ⟨hw, rfl⟩ (by decide) (by decide)
    · obtain ⟨hw, eM5, eN6⟩ := hw
      rw [eM5, eN6] at hZ
      refine lv_iload_n (pc := 8) hx hb d_IS_multiply_8 rfl (lv_at hl 3 rfl) ?_
      refine z_xcallv (pc := 9) (vx_runS (As := [.int a3]) (rest := []) ⟨hx, hb, hml, hown, hts⟩ (c_IS_requireRegister l hst G b a3 M N hw) (va_cwS 1 hts (z_good (zgS wd223 wd224 wd1 wd225)) rfl rfl rfl hd_IS_requireRegister ⟨Nat.le_of_ble_eq_true rfl, Nat.le_of_ble_eq_true rfl⟩) (z_preS hZ hK hT hS) rfl rfl hl.1 rfl (lv_room (Nat.le_of_ble_eq_true rfl)) d_IS_multiply_9 ⟨Nat.le_of_ble_eq_true rfl, Nat.le_of_ble_eq_true rfl⟩) hS (fun k q ce M13 N14 H locs hw hZ hS h1 h2 h3 => ?_) (fun M8 N9 H locs hw hZ hS => ?_)
      · obtain ⟨hw, eM13, eN14⟩ := hw
        rw [eM13, eN14] at hZ
        exact z_xout hno hlocks hK hT hZ hS h1 h2 h3 ⟨hw, rfl⟩ (by decide) (by decide)
      · obtain ⟨hw, eM8, eN9⟩ := hw
        rw [eM8, eN9] at hZ
        refine lv_aload_n (pc := 12) hx hb d_IS_multiply_12 rfl (lv_at hl 0 rfl) ?_
        refine zg_IS_14 (pc := 13) hx hb hta hown hK hZ d_IS_multiply_13 ?_
        refine lv_lconst (pc := 16) (v := 0) hx hb d_IS_multiply_16 (by decide) ?_
        refine z_callv (pc := 17) (va_runS (As := [.ref (b + 6), .long (0 : Int64)]) (rest := []) ⟨hx, hb, hml, hown, hts⟩ (c_Ar_fillJ l G b 6 (0 : Int64) M N hw) (va_cwS 2 hts (z_good (zgS wd336 wd337 wd14 wd338)) rfl rfl rfl hd_Ar_fillJ ⟨Nat.le_of_ble_eq_true rfl, Nat.le_of_ble_eq_true rfl⟩) (z_preS hZ hK hT hS) rfl rfl hl.1 rfl (lv_room (Nat.le_of_ble_eq_true rfl)) d_IS_multiply_17 ⟨Nat.le_of_ble_eq_true rfl, Nat.le_of_ble_eq_true rfl⟩) hS (fun M11 N12 H locs hw hZ hS => ?_)
        obtain ⟨hw, eN12⟩ := hw
        rw [eN12] at hZ
        refine lv_iconst (pc := 20) (v := 0) hx hb d_IS_multiply_20 (by decide) ?_
        refine lv_istore (pc := 21) (lv' := [(4, .int (0 : Int32)), (0, .ref (b + 0)), (1, .int a1), (2, .int a2), (3, .int a3)]) hx hb d_IS_multiply_21 hl (by decide) rfl (fun ls hl => ?_)
        obtain ⟨n, hw⟩ := hw
        exact lp23  n (0 : Int32) M11 _ _ _ hZ hS (lv_sub hl [1, 2, 3, 4, 0] rfl) hw
theorem d_Ro_slopeInto_0 : decode prog_7_method_5_code 0 = .ok (.iconst 1, 1) := by decide +kernel
theorem d_Ro_slopeInto_1 : decode prog_7_method_5_code 1 = .ok (.istore_n 2, 1) := by decide +kernel
theorem d_Ro_slopeInto_2 : decode prog_7_method_5_code 2 = .ok (.iload_n 2, 1) := by decide +kernel
theorem d_Ro_slopeInto_3 : decode prog_7_method_5_code 3 = .ok (.bipush 8, 2) := by decide +kernel
theorem d_Ro_slopeInto_5 : decode prog_7_method_5_code 5 = .ok (.if_icmp .ge 20, 3) := by decide +kernel
theorem d_Ro_slopeInto_8 : decode prog_7_method_5_code 8 = .ok (.aload_n 1, 1) := by decide +kernel
theorem d_Ro_slopeInto_9 : decode prog_7_method_5_code 9 = .ok (.iload_n 2, 1) := by decide +kernel
theorem d_Ro_slopeInto_10 : decode prog_7_method_5_code 10 = .ok (.iconst 1, 1) := by decide +kernel
theorem d_Ro_slopeInto_11 : decode prog_7_method_5_code 11 = .ok (.isub, 1) := by decide +kernel
theorem d_Ro_slopeInto_12 : decode prog_7_method_5_code 12 = .ok (.iload_n 2, 1) := by decide +kernel
theorem d_Ro_slopeInto_13 : decode prog_7_method_5_code 13 = .ok (.i2l, 1) := by decide +kernel
theorem d_Ro_slopeInto_14 : decode prog_7_method_5_code 14 = .ok (.aload_n 0, 1) := by decide +kernel
theorem d_Ro_slopeInto_15 : decode prog_7_method_5_code 15 = .ok (.iload_n 2, 1) := by decide +kernel
theorem d_Ro_slopeInto_16 : decode prog_7_method_5_code 16 = .ok (.laload, 1) := by decide +kernel
theorem d_Ro_slopeInto_17 : decode prog_7_method_5_code 17 = .ok (.lmul, 1) := by decide +kernel
theorem d_Ro_slopeInto_18 : decode prog_7_method_5_code 18 = .ok (.lastore, 1) := by decide +kernel
theorem d_Ro_slopeInto_19 : decode prog_7_method_5_code 19 = .ok (.iinc 2 1, 3) := by decide +kernel
theorem d_Ro_slopeInto_22 : decode prog_7_method_5_code 22 = .ok (.goto (-20), 3) := by decide +kernel
theorem d_Ro_slopeInto_25 : decode prog_7_method_5_code 25 = .ok (.aload_n 1, 1) := by decide +kernel
theorem d_Ro_slopeInto_26 : decode prog_7_method_5_code 26 = .ok (.bipush 7, 2) := by decide +kernel
theorem d_Ro_slopeInto_28 : decode prog_7_method_5_code 28 = .ok (.lconst 0, 1) := by decide +kernel
theorem d_Ro_slopeInto_29 : decode prog_7_method_5_code 29 = .ok (.lastore, 1) := by decide +kernel
theorem d_Ro_slopeInto_30 : decode prog_7_method_5_code 30 = .ok (.return_, 1) := by decide +kernel
def B_Ro_slopeInto_2 (P : zM → Prop) (a0 : Nat) (a1 : Nat) (k2 : Int32 → zM → Prop) (v2 : Int32) (M : zM) : Prop := ((8 : Int32) ≤ v2 → vp_in (7 : Int32) (zlong a1) ∧ ∀ M1 : zM, M1 = zput M a1 (7 : Int32).toNatClampNeg (0 : Int64) → P M1) ∧ (¬ (8 : Int32) ≤ v2 → vp_in v2 (zlong a0) ∧ vp_in (v2 - (1 : Int32)) (zlong a1) ∧ ∀ M2 : zM, M2 = zput M a1 (v2 - (1 : Int32)).toNatClampNeg (v2.toInt64 * (M a0 v2.toNatClampNeg)) → k2 (v2 + (1 : Int32)) M2)
def L_Ro_slopeInto_2 (P : zM → Prop) (a0 : Nat) (a1 : Nat) (n : Nat) : Int32 → zM → Prop := Nat.rec (fun _ _ => False) (fun _ k => B_Ro_slopeInto_2 P a0 a1 k) n
def w_Ro_slopeInto (a0 : Nat) (a1 : Nat) (M : zM) (P : zM → Prop) : Prop := ∃ n, L_Ro_slopeInto_2 P a0 a1 n (1 : Int32) M
def ws_Ro_slopeInto : List Cond := .code y_Ro_slopeInto prog_7_method_5_code 3 (Option.none : Option Jvm.ClassFile.FieldType) :: zall
def rm_Ro_slopeInto : Room := { frames := 0, cells := 0, slots := 0, locals := 0 }
theorem hd_Ro_slopeInto : y_Ro_slopeInto.cls ≠ "java/lang/invoke/MethodHandle" ∧ y_Ro_slopeInto.cls ≠ "java/lang/invoke/VarHandle" ∧ (parseMethodDescriptor y_Ro_slopeInto.desc).map (fun d => d.parameters.length) = some 2 := by decide +kernel
set_option maxHeartbeats 4000000 in
set_option maxRecDepth 100000 in
theorem c_Ro_slopeInto (l : Launch) (G : zG) (b : Nat) (a0 : Nat) (a1 : Nat) (M : zM) (N : zN) {P : zM → Prop} (hw : w_Ro_slopeInto a0 a1 M P) : Met l y_Ro_slopeInto ws_Ro_slopeInto rm_Ro_slopeInto (zPc G b M N [.ref (b + a0), .ref (b + a1)]) (zQv G b (fun M' N' => P M' ∧ N' = N)) 0 0 (zA b) := by
  refine Met.ofW (cc := prog_7_method_5_code) (maxL := 3) (ret := (Option.none : Option Jvm.ClassFile.FieldType)) (by decide) rfl ?_
  intro p e s m args below meth c s₁ B hml hv
  obtain ⟨rfl, hZ, hK, hT⟩ := hv
  have hx := B.exec
  have hb := B.bytes
  have hr := B.returns
  have hts := atoms_spec (ws := ws_Ro_slopeInto) B.pre
  have hta : ∀ w ∈ zall, w.before ([.ref (b + a0), .ref (b + a1)] : List Value).toArray s = true := fun w h => hts w (List.mem_cons_of_mem _ h)
  have hown : s.vm.findClass R_Ro = some m.cls := findClass_of_methodNamed B.named
  have hlocks := B.notSynchronized
  have hS : va_S (zA b) s.heap s.heap [] := va_S.rf
  have hl := lv_entry ([.ref (b + a0), .ref (b + a1)]) (n := 3) (Nat.le_of_ble_eq_true rfl)
  rw [lg_entry_eq]
  generalize (lg_sl ([.ref (b + a0), .ref (b + a1)]) ++ List.replicate (3 - (lg_sl ([.ref (b + a0), .ref (b + a1)])).length) Slot.unset).toArray = ls at hl ⊢
  have hl : lv_has ls 3 [(0, .ref (b + a0)), (1, .ref (b + a1))] := hl
  have lp2 : ∀ (n : Nat) (v2 : Int32) (M : zM) (H : Heap) (ls : Array Slot) (locs : List Loc), va_P G.1 zCl (zws G b M N) H → va_S (zA b) s.heap H locs → lv_has ls 3 [(0, .ref (b + a0)), (1, .ref (b + a1)), (2, .int v2)] → L_Ro_slopeInto_2 P a0 a1 n v2 M → W p l e (headSpec ws_Ro_slopeInto rm_Ro_slopeInto).room s m ([.ref (b + a0), .ref (b + a1)] : List Value).toArray below meth c H locs 0 0 (MQ below (zQv G b (fun M' N' => P M' ∧ N' = N)) ([.ref (b + a0), .ref (b + a1)] : List Value).toArray s 0 0 (zA b)) (F0 m 2 ls []) := by
    intro  n
    induction n with
    | zero => intro v2 M H ls locs hZ hS hl hw; exact False.elim hw
    | succ n2 ih2 =>
      intro v2 M H ls locs hZ hS hl hw
      have hw : B_Ro_slopeInto_2 P a0 a1 (L_Ro_slopeInto_2 P a0 a1 n2) v2 M := hw
      unfold B_Ro_slopeInto_2 at hw
      refine lv_iload_n (pc := 2) hx hb d_Ro_slopeInto_2 rfl (lv_at hl 2 rfl) ?_
      refine lv_bipush (pc := 3) (v := 8) hx hb d_Ro_slopeInto_3 (by decide) ?_
      refine lv_icmp_ge (pc := 5) (tgt := 25) hx hb d_Ro_slopeInto_5 (by decide) (fun hc => ?_) (fun hc => ?_)
      · have hw := hw.1 hc
        refine lv_aload_n (pc := 25) hx hb d_Ro_slopeInto_25 rfl (lv_at hl 1 rfl) ?_
        refine lv_bipush (pc := 26) (v := 7) hx hb d_Ro_slopeInto_26 (by decide) ?_
        refine lv_lconst (pc := 28) (v := 0) hx hb d_Ro_slopeInto_28 (by decide) ?_
        obtain ⟨hc, hw⟩ := hw
        refine z_last (pc := 29) hx hb hK hZ hS hc d_Ro_slopeInto_29 (fun M1 H locs hM1 hZ hS => ?_)
        have hw := hw M1 hM1
        exact z_vret hx hb hr hlocks hK hT hZ hS ⟨hw, rfl⟩ d_Ro_slopeInto_30
      · have hw := hw.2 hc
        refine lv_aload_n (pc := 8) hx hb d_Ro_slopeInto_8 rfl (lv_at hl 1 rfl) ?_
        refine lv_iload_n (pc := 9) hx hb d_Ro_slopeInto_9 rfl (lv_at hl 2 rfl) ?_
        refine lv_iconst (pc := 10) (v := 1) hx hb d_Ro_slopeInto_10 (by decide) ?_
        refine lv_isub (pc := 11) hx hb d_Ro_slopeInto_11 ?_
        refine lv_iload_n (pc := 12) hx hb d_Ro_slopeInto_12 rfl (lv_at hl 2 rfl) ?_
        refine lv_i2l (pc := 13) (v := v2.toInt64) hx hb d_Ro_slopeInto_13 rfl ?_
        refine lv_aload_n (pc := 14) hx hb d_Ro_slopeInto_14 rfl (lv_at hl 0 rfl) ?_
        refine lv_iload_n (pc := 15) hx hb d_Ro_slopeInto_15 rfl (lv_at hl 2 rfl) ?_
        obtain ⟨hc, hw⟩ := hw
        refine z_lald (pc := 16) hx hb hK hZ hc d_Ro_slopeInto_16 ?_
        refine lv_lmul (pc := 17) hx hb d_Ro_slopeInto_17 ?_
        obtain ⟨hc, hw⟩ := hw
        refine z_last (pc := 18) hx hb hK hZ hS hc d_Ro_slopeInto_18 (fun M2 H locs hM2 hZ hS => ?_)
        have hw := hw M2 hM2
        refine lv_iinc (pc := 19) (k := 2) (v := v2 + (1 : Int32)) (lv' := [(2, .int (v2 + (1 : Int32))), (0, .ref (b + a0)), (1, .ref (b + a1))]) hx hb d_Ro_slopeInto_19 hl rfl (by rfl) (by decide) rfl (fun ls hl => ?_)
        refine lv_goto (pc := 22) (tgt := 2) hx hb d_Ro_slopeInto_22 (by decide) ?_
        exact ih2 (v2 + (1 : Int32)) M2 _ _ _ hZ hS (lv_sub hl [1, 2, 0] rfl) hw
  unfold w_Ro_slopeInto at hw
  refine lv_iconst (pc := 0) (v := 1) hx hb d_Ro_slopeInto_0 (by decide) ?_
  refine lv_istore_n (pc := 1) (lv' := [(2, .int (1 : Int32)), (0, .ref (b + a0)), (1, .ref (b + a1))]) hx hb d_Ro_slopeInto_1 rfl hl (by decide) rfl (fun ls hl => ?_)
  obtain ⟨n, hw⟩ := hw
  exact lp2  n (1 : Int32) M _ _ _ hZ hS (lv_sub hl [1, 2, 0] rfl) hw
theorem d_IS_derive_0 : decode prog_1_method_7_code 0 = .ok (.iload_n 1, 1) := by decide +kernel
theorem d_IS_derive_1 : decode prog_1_method_7_code 1 = .ok (.invokestatic 41, 3) := by decide +kernel
theorem d_IS_derive_4 : decode prog_1_method_7_code 4 = .ok (.iload_n 2, 1) := by decide +kernel
theorem d_IS_derive_5 : decode prog_1_method_7_code 5 = .ok (.invokestatic 41, 3) := by decide +kernel
theorem d_IS_derive_8 : decode prog_1_method_7_code 8 = .ok (.aload_n 0, 1) := by decide +kernel
theorem d_IS_derive_9 : decode prog_1_method_7_code 9 = .ok (.getfield 14, 3) := by decide +kernel
theorem d_IS_derive_12 : decode prog_1_method_7_code 12 = .ok (.lconst 0, 1) := by decide +kernel
theorem d_IS_derive_13 : decode prog_1_method_7_code 13 = .ok (.invokestatic 59, 3) := by decide +kernel
theorem d_IS_derive_16 : decode prog_1_method_7_code 16 = .ok (.aload_n 0, 1) := by decide +kernel
theorem d_IS_derive_17 : decode prog_1_method_7_code 17 = .ok (.getfield 11, 3) := by decide +kernel
theorem d_IS_derive_20 : decode prog_1_method_7_code 20 = .ok (.iload_n 2, 1) := by decide +kernel
theorem d_IS_derive_21 : decode prog_1_method_7_code 21 = .ok (.aaload, 1) := by decide +kernel
theorem d_IS_derive_22 : decode prog_1_method_7_code 22 = .ok (.aload_n 0, 1) := by decide +kernel
theorem d_IS_derive_23 : decode prog_1_method_7_code 23 = .ok (.getfield 14, 3) := by decide +kernel
theorem d_IS_derive_26 : decode prog_1_method_7_code 26 = .ok (.invokestatic 69, 3) := by decide +kernel
theorem d_IS_derive_29 : decode prog_1_method_7_code 29 = .ok (.aload_n 0, 1) := by decide +kernel
theorem d_IS_derive_30 : decode prog_1_method_7_code 30 = .ok (.iload_n 1, 1) := by decide +kernel
theorem d_IS_derive_31 : decode prog_1_method_7_code 31 = .ok (.aload_n 0, 1) := by decide +kernel
theorem d_IS_derive_32 : decode prog_1_method_7_code 32 = .ok (.getfield 14, 3) := by decide +kernel
theorem d_IS_derive_35 : decode prog_1_method_7_code 35 = .ok (.invokevirtual 65, 3) := by decide +kernel
theorem d_IS_derive_38 : decode prog_1_method_7_code 38 = .ok (.ireturn, 1) := by decide +kernel
def w_IS_derive (a1 : Int32) (a2 : Int32) (M : zM) (P : Int32 → zM → Prop) (X : Nat → zM → Prop) : Prop := w_IS_requireRegister a1  (w_IS_requireRegister a2  (w_Ar_fillJ 6 (0 : Int64) M (fun M8 => vp_in a2 (zgn 1) ∧ w_Ro_slopeInto (1 + 1 + a2.toNatClampNeg) 6 M8 (fun M11 => w_IS_keep a1 6 M11 (fun r13 M14 => P r13 M14) (fun k M16 => X k M16)))) (fun k => X k M)) (fun k => X k M)
def ws_IS_derive : List Cond := .code y_IS_derive prog_1_method_7_code 3 (Option.some Jvm.ClassFile.FieldType.int) :: zall
def rm_IS_derive : Room := { frames := 7, cells := 3, slots := 18, locals := 111 }
theorem hd_IS_derive : y_IS_derive.cls ≠ "java/lang/invoke/MethodHandle" ∧ y_IS_derive.cls ≠ "java/lang/invoke/VarHandle" ∧ (parseMethodDescriptor y_IS_derive.desc).map (fun d => d.parameters.length) = some 2 := by decide +kernel
set_option maxHeartbeats 4000000 in
set_option maxRecDepth 100000 in
theorem c_IS_derive (l : Launch) (hst : l.stackTraces = false) (G : zG) (b : Nat) (a1 : Int32) (a2 : Int32) (M : zM) (N : zN) {P : Int32 → zM → Prop} {X : Nat → zM → Prop} (hw : w_IS_derive a1 a2 M P X) : vx_Met l y_IS_derive ws_IS_derive rm_IS_derive (zPc G b M N [.ref (b + 0), .int a1, .int a2]) (zQi G b (fun r M' N' => P r M' ∧ N' = N)) (zXC G b (fun k M' N' => X k M' ∧ N' = N)) 3 18 (zA b) := by
  refine vx_ofW (cc := prog_1_method_7_code) (maxL := 3) (ret := (Option.some Jvm.ClassFile.FieldType.int)) (by decide) rfl ?_
  intro p e s m args below meth c s₁ B hml hno hv
  obtain ⟨rfl, hZ, hK, hT⟩ := hv
  have hx := B.exec
  have hb := B.bytes
  have hr := B.returns
  have hts := atoms_spec (ws := ws_IS_derive) B.pre
  have hta : ∀ w ∈ zall, w.before ([.ref (b + 0), .int a1, .int a2] : List Value).toArray s = true := fun w h => hts w (List.mem_cons_of_mem _ h)
  have hown : s.vm.findClass R_IS = some m.cls := findClass_of_methodNamed B.named
  have hlocks := B.notSynchronized
  have hS : va_S (zA b) s.heap s.heap [] := va_S.rf
  have hl := lv_entry ([.ref (b + 0), .int a1, .int a2]) (n := 3) (Nat.le_of_ble_eq_true rfl)
  rw [lg_entry_eq]
  generalize (lg_sl ([.ref (b + 0), .int a1, .int a2]) ++ List.replicate (3 - (lg_sl ([.ref (b + 0), .int a1, .int a2])).length) Slot.unset).toArray = ls at hl ⊢
  have hl : lv_has ls 3 [(0, .ref (b + 0)), (1, .int a1), (2, .int a2)] := hl
  unfold w_IS_derive at hw
  refine lv_iload_n (pc := 0) hx hb d_IS_derive_0 rfl (lv_at hl 1 rfl) ?_
  refine z_xcallv (pc := 1) (vx_runS (As := [.int a1]) (rest := []) ⟨hx, hb, hml, hown, hts⟩ (c_IS_requireRegister l hst G b a1 M N hw) (va_cwS 1 hts (z_good (zgS wd223 wd224 wd1 wd225)) rfl rfl rfl hd_IS_requireRegister ⟨Nat.le_of_ble_eq_true rfl, Nat.le_of_ble_eq_true rfl⟩) (z_preS hZ hK hT hS) rfl rfl hl.1 rfl (lv_room (Nat.le_of_ble_eq_true rfl)) d_IS_derive_1 ⟨Nat.le_of_ble_eq_true rfl, Nat.le_of_ble_eq_true rfl⟩) hS (fun k q ce M20 N21 H locs hw hZ hS h1 h2 h3 => ?_) (fun M2 N3 H locs hw hZ hS => ?_)
  · obtain ⟨hw, eM20, eN21⟩ := hw
    rw [eM20, eN21] at hZ
    exact z_xout hno hlocks hK hT hZ hS h1 h2 h3 ⟨hw, rfl⟩ (by decide) (by decide)
  · obtain ⟨hw, eM2, eN3⟩ := hw
    rw [eM2, eN3] at hZ
    refine lv_iload_n (pc := 4) hx hb d_IS_derive_4 rfl (lv_at hl 2 rfl) ?_
    refine z_xcallv (pc := 5) (vx_runS (As := [.int a2]) (rest := []) ⟨hx, hb, hml, hown, hts⟩ (c_IS_requireRegister l hst G b a2 M N hw) (va_cwS 1 hts (z_good (zgS wd223 wd224 wd1 wd225)) rfl rfl rfl hd_IS_requireRegister ⟨Nat.le_of_ble_eq_true rfl, Nat.le_of_ble_eq_true rfl⟩) (z_preS hZ hK hT hS) rfl rfl hl.1 rfl (lv_room (Nat.le_of_ble_eq_true rfl)) d_IS_derive_5 ⟨Nat.le_of_ble_eq_true rfl, Nat.le_of_ble_eq_true rfl⟩) hS (fun k q ce M18 N19 H locs hw hZ hS h1 h2 h3 => ?_) (fun M5 N6 H locs hw hZ hS => ?_)
    · obtain ⟨hw, eM18, eN19⟩ := hw
      rw [eM18, eN19] at hZ
      exact z_xout hno hlocks hK hT hZ hS h1 h2 h3 ⟨hw, rfl⟩ (by decide) (by decide)
    · obtain ⟨hw, eM5, eN6⟩ := hw
      rw [eM5, eN6] at hZ
      refine lv_aload_n (pc := 8) hx hb d_IS_derive_8 rfl (lv_at hl 0 rfl) ?_
      refine zg_IS_14 (pc := 9) hx hb hta hown hK hZ d_IS_derive_9 ?_
      refine lv_lconst (pc := 12) (v := 0) hx hb d_IS_derive_12 (by decide) ?_
      refine z_callv (pc := 13) (va_runS (As := [.ref (b + 6), .long (0 : Int64)]) (rest := []) ⟨hx, hb, hml, hown, hts⟩ (c_Ar_fillJ l G b 6 (0 : Int64) M N hw) (va_cwS 2 hts (z_good (zgS wd336 wd337 wd14 wd338)) rfl rfl rfl hd_Ar_fillJ ⟨Nat.le_of_ble_eq_true rfl, Nat.le_of_ble_eq_true rfl⟩) (z_preS hZ hK hT hS) rfl rfl hl.1 rfl (lv_room (Nat.le_of_ble_eq_true rfl)) d_IS_derive_13 ⟨Nat.le_of_ble_eq_true rfl, Nat.le_of_ble_eq_true rfl⟩) hS (fun M8 N9 H locs hw hZ hS => ?_)
      obtain ⟨hw, eN9⟩ := hw
      rw [eN9] at hZ
      refine lv_aload_n (pc := 16) hx hb d_IS_derive_16 rfl (lv_at hl 0 rfl) ?_
      refine zg_IS_11 (pc := 17) hx hb hta hown hK hZ d_IS_derive_17 ?_
      refine lv_iload_n (pc := 20) hx hb d_IS_derive_20 rfl (lv_at hl 2 rfl) ?_
      obtain ⟨hc, hw⟩ := hw
      refine z_aald (pc := 21) hx hb hK hZ hc d_IS_derive_21 ?_
      refine lv_aload_n (pc := 22) hx hb d_IS_derive_22 rfl (lv_at hl 0 rfl) ?_
      refine zg_IS_14 (pc := 23) hx hb hta hown hK hZ d_IS_derive_23 ?_
      refine z_callv (pc := 26) (va_runS (As := [.ref (b + (1 + 1 + a2.toNatClampNeg)), .ref (b + 6)]) (rest := []) ⟨hx, hb, hml, hown, hts⟩ (c_Ro_slopeInto l G b (1 + 1 + a2.toNatClampNeg) 6 M8 N hw) (va_cwS 2 hts (z_good (zgS wd382 wd383 wd13 wd384)) rfl rfl rfl hd_Ro_slopeInto ⟨Nat.le_of_ble_eq_true rfl, Nat.le_of_ble_eq_true rfl⟩) (z_preS hZ hK hT hS) rfl rfl hl.1 rfl (lv_room (Nat.le_of_ble_eq_true rfl)) d_IS_derive_26 ⟨Nat.le_of_ble_eq_true rfl, Nat.le_of_ble_eq_true rfl⟩) hS (fun M11 N12 H locs hw hZ hS => ?_)
      obtain ⟨hw, eN12⟩ := hw
      rw [eN12] at hZ
      refine lv_aload_n (pc := 29) hx hb d_IS_derive_29 rfl (lv_at hl 0 rfl) ?_
      refine lv_iload_n (pc := 30) hx hb d_IS_derive_30 rfl (lv_at hl 1 rfl) ?_
      refine lv_aload_n (pc := 31) hx hb d_IS_derive_31 rfl (lv_at hl 0 rfl) ?_
      refine zg_IS_14 (pc := 32) hx hb hta hown hK hZ d_IS_derive_32 ?_
      refine z_xcalli (pc := 35) (vx_runV (C := R_IS) (b := b + 0) (As := [.int a1, .ref (b + 6)]) (rest := []) ⟨hx, hb, hml, hown, hts⟩ (c_IS_keep l hst G b a1 6 M11 N hw) (cwV 2 hts (z_good (zgV wd339 wd341 wsel1 wd1 wd342)) rfl rfl rfl ⟨rfl, hd_IS_keep⟩ ⟨Nat.le_of_ble_eq_true rfl, Nat.le_of_ble_eq_true rfl⟩) (z_preV zo_IS rfl rfl hZ hK hT hS) rfl rfl hl.1 rfl (lv_room (Nat.le_of_ble_eq_true rfl)) d_IS_derive_35 ⟨Nat.le_of_ble_eq_true rfl, Nat.le_of_ble_eq_true rfl⟩) hS (fun k q ce M16 N17 H locs hw hZ hS h1 h2 h3 => ?_) (fun r13 M14 N15 H locs hw hZ hS => ?_)
      · obtain ⟨hw, eN17⟩ := hw
        rw [eN17] at hZ
        exact z_xout hno hlocks hK hT hZ hS h1 h2 h3 ⟨hw, rfl⟩ (by decide) (by decide)
      · obtain ⟨hw, eN15⟩ := hw
        rw [eN15] at hZ
        refine W.widen (k := 3) (n := 18) (by decide) (by decide) ?_
        exact vx_ret (z_iret hx hb hr hlocks hK hT hZ hS ⟨hw, rfl⟩ d_IS_derive_38)
theorem xat_IS_requireNear_12_w : ∀ w ∈ (vx_at0 R_IS 52 (zxn 2) ["java/lang/RuntimeException", "java/lang/Exception"]).filter goodWord, w ∈ lw_tbl := by decide +kernel
theorem xat_IS_requireNear_12_g : ∀ w ∈ Cond.classLink R_IS 50 (zxn 2) :: Cond.initialized (zxn 2) :: vx_at0 R_IS 52 (zxn 2) ["java/lang/RuntimeException", "java/lang/Exception"], vx_ot w = true := by decide +kernel
theorem xat_IS_requireNear_12_b : ∀ w ∈ (vx_at0 R_IS 52 (zxn 2) ["java/lang/RuntimeException", "java/lang/Exception"]).filter (fun w => !goodWord w), w ∈ Cond.castable (zxn 2) (zxn 2) :: zdec.map Cond.declares := by decide +kernel
theorem xat_IS_requireNear_12 {args : Array Value} {s : State} (hta : ∀ w ∈ zall, w.before args s = true) (hn : zNw s) : ∀ w ∈ vx_at0 R_IS 52 (zxn 2) ["java/lang/RuntimeException", "java/lang/Exception"], w.before args s = true :=
  vx_hat (fun w h => hta w (List.mem_filter.mpr ⟨xat_IS_requireNear_12_w w h, (List.mem_filter.mp h).2⟩)) xat_IS_requireNear_12_b (fun w h => by
    rcases List.mem_cons.mp h with rfl | h
    · exact va_Nw.use rfl (hn.1 2 (by decide) (by decide))
    · obtain ⟨y, hy, rfl⟩ := List.mem_map.mp h
      exact va_Nw.use rfl (hn.2.1 y hy))
theorem d_IS_requireNear_0 : decode prog_1_method_23_code 0 = .ok (.iload_n 0, 1) := by decide +kernel
theorem d_IS_requireNear_1 : decode prog_1_method_23_code 1 = .ok (.bipush (-9), 2) := by decide +kernel
theorem d_IS_requireNear_3 : decode prog_1_method_23_code 3 = .ok (.if_icmp .lt 9, 3) := by decide +kernel
theorem d_IS_requireNear_6 : decode prog_1_method_23_code 6 = .ok (.iload_n 0, 1) := by decide +kernel
theorem d_IS_requireNear_7 : decode prog_1_method_23_code 7 = .ok (.bipush 9, 2) := by decide +kernel
theorem d_IS_requireNear_9 : decode prog_1_method_23_code 9 = .ok (.if_icmp .le 11, 3) := by decide +kernel
theorem d_IS_requireNear_12 : decode prog_1_method_23_code 12 = .ok (.new 50, 3) := by decide +kernel
theorem d_IS_requireNear_15 : decode prog_1_method_23_code 15 = .ok (.dup, 1) := by decide +kernel
theorem d_IS_requireNear_16 : decode prog_1_method_23_code 16 = .ok (.invokespecial 52, 3) := by decide +kernel
theorem d_IS_requireNear_19 : decode prog_1_method_23_code 19 = .ok (.athrow, 1) := by decide +kernel
theorem d_IS_requireNear_20 : decode prog_1_method_23_code 20 = .ok (.return_, 1) := by decide +kernel
def J_IS_requireNear_12 (P : Prop) (X : Nat → Prop) : Prop := X 2
def w_IS_requireNear (a0 : Int32) (P : Prop) (X : Nat → Prop) : Prop := (a0 < (-9 : Int32) → J_IS_requireNear_12 P X) ∧ (¬ a0 < (-9 : Int32) → (a0 ≤ (9 : Int32) → P) ∧ (¬ a0 ≤ (9 : Int32) → J_IS_requireNear_12 P X))
def ws_IS_requireNear : List Cond := .code y_IS_requireNear prog_1_method_23_code 1 (Option.none : Option Jvm.ClassFile.FieldType) :: zall
def rm_IS_requireNear : Room := { frames := 6, cells := 1, slots := 6, locals := 89 }
theorem hd_IS_requireNear : y_IS_requireNear.cls ≠ "java/lang/invoke/MethodHandle" ∧ y_IS_requireNear.cls ≠ "java/lang/invoke/VarHandle" ∧ (parseMethodDescriptor y_IS_requireNear.desc).map (fun d => d.parameters.length) = some 1 := by decide +kernel
set_option maxHeartbeats 4000000 in
set_option maxRecDepth 100000 in
theorem c_IS_requireNear (l : Launch) (hst : l.stackTraces = false) (G : zG) (b : Nat) (a0 : Int32) (M : zM) (N : zN) {P : Prop} {X : Nat → Prop} (hw : w_IS_requireNear a0  P X) : vx_Met l y_IS_requireNear ws_IS_requireNear rm_IS_requireNear (zPc G b M N [.int a0]) (zQv G b (fun M' N' => P ∧ M' = M ∧ N' = N)) (zXC G b (fun k M' N' => X k ∧ M' = M ∧ N' = N)) 1 6 (zA b) := by
  refine vx_ofW (cc := prog_1_method_23_code) (maxL := 1) (ret := (Option.none : Option Jvm.ClassFile.FieldType)) (by decide) rfl ?_
  intro p e s m args below meth c s₁ B hml hno hv
  obtain ⟨rfl, hZ, hK, hT⟩ := hv
  have hx := B.exec
  have hb := B.bytes
  have hr := B.returns
  have hts := atoms_spec (ws := ws_IS_requireNear) B.pre
  have hta : ∀ w ∈ zall, w.before ([.int a0] : List Value).toArray s = true := fun w h => hts w (List.mem_cons_of_mem _ h)
  have hown : s.vm.findClass R_IS = some m.cls := findClass_of_methodNamed B.named
  have hlocks := B.notSynchronized
  have hS : va_S (zA b) s.heap s.heap [] := va_S.rf
  have hl := lv_entry ([.int a0]) (n := 1) (Nat.le_of_ble_eq_true rfl)
  rw [lg_entry_eq]
  generalize (lg_sl ([.int a0]) ++ List.replicate (1 - (lg_sl ([.int a0])).length) Slot.unset).toArray = ls at hl ⊢
  have hl : lv_has ls 1 [(0, .int a0)] := hl
  have j12 : ∀  (H : Heap) (ls : Array Slot) (locs : List Loc), va_P G.1 zCl (zws G b M N) H → va_S (zA b) s.heap H locs → lv_has ls 1 [] → J_IS_requireNear_12 P X → W p l e (headSpec ws_IS_requireNear rm_IS_requireNear).room s m ([.int a0] : List Value).toArray below meth c H locs 0 0 (vx_MQ below (zQv G b (fun M' N' => P ∧ M' = M ∧ N' = N)) (zXC G b (fun k M' N' => X k ∧ M' = M ∧ N' = N)) ([.int a0] : List Value).toArray s 1 6 (zA b)) (F0 m 12 ls []) := by
    intro  H ls locs hZ hS hl hw
    unfold J_IS_requireNear_12 at hw
    exact z_xthrow (k := 2) (pc := 12) hx hb hst hown (hta _ wd296) (hta _ wd12) (xat_IS_requireNear_12 hta hT.1) (by decide) xat_IS_requireNear_12_g hno hlocks hK hT hZ hS (hl.1.trans hml.symm) d_IS_requireNear_12 d_IS_requireNear_15 d_IS_requireNear_16 d_IS_requireNear_19 (Nat.le_of_ble_eq_true rfl) (Nat.le_of_ble_eq_true rfl) (Nat.le_of_ble_eq_true rfl) (Nat.le_of_ble_eq_true rfl) ⟨hw, rfl, rfl⟩ (by decide) (by decide)
  unfold w_IS_requireNear at hw
  refine lv_iload_n (pc := 0) hx hb d_IS_requireNear_0 rfl (lv_at hl 0 rfl) ?_
  refine lv_bipush (pc := 1) (v := -9) hx hb d_IS_requireNear_1 (by decide) ?_
  refine lv_icmp_lt (pc := 3) (tgt := 12) hx hb d_IS_requireNear_3 (by decide) (fun hc => ?_) (fun hc => ?_)
  · have hw := hw.1 hc
    exact j12  _ _ _ hZ hS (lv_sub hl [] rfl) hw
  · have hw := hw.2 hc
    refine lv_iload_n (pc := 6) hx hb d_IS_requireNear_6 rfl (lv_at hl 0 rfl) ?_
    refine lv_bipush (pc := 7) (v := 9) hx hb d_IS_requireNear_7 (by decide) ?_
    refine lv_icmp_le (pc := 9) (tgt := 20) hx hb d_IS_requireNear_9 (by decide) (fun hc => ?_) (fun hc => ?_)
    · have hw := hw.1 hc
      refine W.widen (k := 1) (n := 6) (by decide) (by decide) ?_
      exact vx_ret (z_vret hx hb hr hlocks hK hT hZ hS ⟨hw, rfl, rfl⟩ d_IS_requireNear_20)
    · have hw := hw.2 hc
      exact j12  _ _ _ hZ hS (lv_sub hl [] rfl) hw
theorem d_IS_shift_0 : decode prog_1_method_8_code 0 = .ok (.iload_n 1, 1) := by decide +kernel
theorem d_IS_shift_1 : decode prog_1_method_8_code 1 = .ok (.invokestatic 41, 3) := by decide +kernel
theorem d_IS_shift_4 : decode prog_1_method_8_code 4 = .ok (.iload_n 2, 1) := by decide +kernel
theorem d_IS_shift_5 : decode prog_1_method_8_code 5 = .ok (.invokestatic 41, 3) := by decide +kernel
theorem d_IS_shift_8 : decode prog_1_method_8_code 8 = .ok (.iload_n 3, 1) := by decide +kernel
theorem d_IS_shift_9 : decode prog_1_method_8_code 9 = .ok (.invokestatic 73, 3) := by decide +kernel
theorem d_IS_shift_12 : decode prog_1_method_8_code 12 = .ok (.aload_n 0, 1) := by decide +kernel
theorem d_IS_shift_13 : decode prog_1_method_8_code 13 = .ok (.getfield 14, 3) := by decide +kernel
theorem d_IS_shift_16 : decode prog_1_method_8_code 16 = .ok (.lconst 0, 1) := by decide +kernel
theorem d_IS_shift_17 : decode prog_1_method_8_code 17 = .ok (.invokestatic 59, 3) := by decide +kernel
theorem d_IS_shift_20 : decode prog_1_method_8_code 20 = .ok (.bipush 7, 2) := by decide +kernel
theorem d_IS_shift_22 : decode prog_1_method_8_code 22 = .ok (.istore 4, 2) := by decide +kernel
theorem d_IS_shift_24 : decode prog_1_method_8_code 24 = .ok (.iload 4, 2) := by decide +kernel
theorem d_IS_shift_26 : decode prog_1_method_8_code 26 = .ok (.ifCond .lt 76, 3) := by decide +kernel
theorem d_IS_shift_29 : decode prog_1_method_8_code 29 = .ok (.bipush 7, 2) := by decide +kernel
theorem d_IS_shift_31 : decode prog_1_method_8_code 31 = .ok (.istore 5, 2) := by decide +kernel
theorem d_IS_shift_33 : decode prog_1_method_8_code 33 = .ok (.iload 5, 2) := by decide +kernel
theorem d_IS_shift_35 : decode prog_1_method_8_code 35 = .ok (.ifCond .le 36, 3) := by decide +kernel
theorem d_IS_shift_38 : decode prog_1_method_8_code 38 = .ok (.aload_n 0, 1) := by decide +kernel
theorem d_IS_shift_39 : decode prog_1_method_8_code 39 = .ok (.getfield 14, 3) := by decide +kernel
theorem d_IS_shift_42 : decode prog_1_method_8_code 42 = .ok (.iload 5, 2) := by decide +kernel
theorem d_IS_shift_44 : decode prog_1_method_8_code 44 = .ok (.aload_n 0, 1) := by decide +kernel
theorem d_IS_shift_45 : decode prog_1_method_8_code 45 = .ok (.getfield 14, 3) := by decide +kernel
theorem d_IS_shift_48 : decode prog_1_method_8_code 48 = .ok (.iload 5, 2) := by decide +kernel
theorem d_IS_shift_50 : decode prog_1_method_8_code 50 = .ok (.laload, 1) := by decide +kernel
theorem d_IS_shift_51 : decode prog_1_method_8_code 51 = .ok (.iload_n 3, 1) := by decide +kernel
theorem d_IS_shift_52 : decode prog_1_method_8_code 52 = .ok (.i2l, 1) := by decide +kernel
theorem d_IS_shift_53 : decode prog_1_method_8_code 53 = .ok (.lmul, 1) := by decide +kernel
theorem d_IS_shift_54 : decode prog_1_method_8_code 54 = .ok (.aload_n 0, 1) := by decide +kernel
theorem d_IS_shift_55 : decode prog_1_method_8_code 55 = .ok (.getfield 14, 3) := by decide +kernel
theorem d_IS_shift_58 : decode prog_1_method_8_code 58 = .ok (.iload 5, 2) := by decide +kernel
theorem d_IS_shift_60 : decode prog_1_method_8_code 60 = .ok (.iconst 1, 1) := by decide +kernel
theorem d_IS_shift_61 : decode prog_1_method_8_code 61 = .ok (.isub, 1) := by decide +kernel
theorem d_IS_shift_62 : decode prog_1_method_8_code 62 = .ok (.laload, 1) := by decide +kernel
theorem d_IS_shift_63 : decode prog_1_method_8_code 63 = .ok (.ladd, 1) := by decide +kernel
theorem d_IS_shift_64 : decode prog_1_method_8_code 64 = .ok (.lastore, 1) := by decide +kernel
theorem d_IS_shift_65 : decode prog_1_method_8_code 65 = .ok (.iinc 5 (-1), 3) := by decide +kernel
theorem d_IS_shift_68 : decode prog_1_method_8_code 68 = .ok (.goto (-35), 3) := by decide +kernel
theorem d_IS_shift_71 : decode prog_1_method_8_code 71 = .ok (.aload_n 0, 1) := by decide +kernel
theorem d_IS_shift_72 : decode prog_1_method_8_code 72 = .ok (.getfield 14, 3) := by decide +kernel
theorem d_IS_shift_75 : decode prog_1_method_8_code 75 = .ok (.iconst 0, 1) := by decide +kernel
theorem d_IS_shift_76 : decode prog_1_method_8_code 76 = .ok (.aload_n 0, 1) := by decide +kernel
theorem d_IS_shift_77 : decode prog_1_method_8_code 77 = .ok (.getfield 14, 3) := by decide +kernel
theorem d_IS_shift_80 : decode prog_1_method_8_code 80 = .ok (.iconst 0, 1) := by decide +kernel
theorem d_IS_shift_81 : decode prog_1_method_8_code 81 = .ok (.laload, 1) := by decide +kernel
theorem d_IS_shift_82 : decode prog_1_method_8_code 82 = .ok (.iload_n 3, 1) := by decide +kernel
theorem d_IS_shift_83 : decode prog_1_method_8_code 83 = .ok (.i2l, 1) := by decide +kernel
theorem d_IS_shift_84 : decode prog_1_method_8_code 84 = .ok (.lmul, 1) := by decide +kernel
theorem d_IS_shift_85 : decode prog_1_method_8_code 85 = .ok (.aload_n 0, 1) := by decide +kernel
theorem d_IS_shift_86 : decode prog_1_method_8_code 86 = .ok (.getfield 11, 3) := by decide +kernel
theorem d_IS_shift_89 : decode prog_1_method_8_code 89 = .ok (.iload_n 2, 1) := by decide +kernel
theorem d_IS_shift_90 : decode prog_1_method_8_code 90 = .ok (.aaload, 1) := by decide +kernel
theorem d_IS_shift_91 : decode prog_1_method_8_code 91 = .ok (.iload 4, 2) := by decide +kernel
theorem d_IS_shift_93 : decode prog_1_method_8_code 93 = .ok (.laload, 1) := by decide +kernel
theorem d_IS_shift_94 : decode prog_1_method_8_code 94 = .ok (.ladd, 1) := by decide +kernel
theorem d_IS_shift_95 : decode prog_1_method_8_code 95 = .ok (.lastore, 1) := by decide +kernel
theorem d_IS_shift_96 : decode prog_1_method_8_code 96 = .ok (.iinc 4 (-1), 3) := by decide +kernel
theorem d_IS_shift_99 : decode prog_1_method_8_code 99 = .ok (.goto (-75), 3) := by decide +kernel
theorem d_IS_shift_102 : decode prog_1_method_8_code 102 = .ok (.aload_n 0, 1) := by decide +kernel
theorem d_IS_shift_103 : decode prog_1_method_8_code 103 = .ok (.iload_n 1, 1) := by decide +kernel
theorem d_IS_shift_104 : decode prog_1_method_8_code 104 = .ok (.aload_n 0, 1) := by decide +kernel
theorem d_IS_shift_105 : decode prog_1_method_8_code 105 = .ok (.getfield 14, 3) := by decide +kernel
theorem d_IS_shift_108 : decode prog_1_method_8_code 108 = .ok (.invokevirtual 65, 3) := by decide +kernel
theorem d_IS_shift_111 : decode prog_1_method_8_code 111 = .ok (.ireturn, 1) := by decide +kernel
def B_IS_shift_33 (P : Int32 → zM → Prop) (X : Nat → zM → Prop) (k24 : Int32 → zM → Prop) (a1 : Int32) (a2 : Int32) (a3 : Int32) (v4 : Int32) (k33 : Int32 → zM → Prop) (v5 : Int32) (M : zM) : Prop := (v5 ≤ 0 → vp_in (0 : Int32) (zlong 6) ∧ vp_in a2 (zgn 1) ∧ vp_in v4 (zlong (1 + 1 + a2.toNatClampNeg)) ∧ vp_in (0 : Int32) (zlong 6) ∧ ∀ M24 : zM, M24 = zput M 6 (0 : Int32).toNatClampNeg (((M 6 (0 : Int32).toNatClampNeg) * a3.toInt64) + (M (1 + 1 + a2.toNatClampNeg) v4.toNatClampNeg)) → k24 (v4 + (-1 : Int32)) M24) ∧ (¬ v5 ≤ 0 → vp_in v5 (zlong 6) ∧ vp_in (v5 - (1 : Int32)) (zlong 6) ∧ vp_in v5 (zlong 6) ∧ ∀ M25 : zM, M25 = zput M 6 v5.toNatClampNeg (((M 6 v5.toNatClampNeg) * a3.toInt64) + (M 6 (v5 - (1 : Int32)).toNatClampNeg)) → k33 (v5 + (-1 : Int32)) M25)
def L_IS_shift_33 (P : Int32 → zM → Prop) (X : Nat → zM → Prop) (k24 : Int32 → zM → Prop) (a1 : Int32) (a2 : Int32) (a3 : Int32) (v4 : Int32) (n : Nat) : Int32 → zM → Prop := Nat.rec (fun _ _ => False) (fun _ k => B_IS_shift_33 P X k24 a1 a2 a3 v4 k) n
def B_IS_shift_24 (P : Int32 → zM → Prop) (X : Nat → zM → Prop) (a1 : Int32) (a2 : Int32) (a3 : Int32) (k24 : Int32 → zM → Prop) (v4 : Int32) (M : zM) : Prop := (v4 < 0 → w_IS_keep a1 6 M (fun r19 M20 => P r19 M20) (fun k M22 => X k M22)) ∧ (¬ v4 < 0 → ∃ n, L_IS_shift_33 P X k24 a1 a2 a3 v4 n (7 : Int32) M)
def L_IS_shift_24 (P : Int32 → zM → Prop) (X : Nat → zM → Prop) (a1 : Int32) (a2 : Int32) (a3 : Int32) (n : Nat) : Int32 → zM → Prop := Nat.rec (fun _ _ => False) (fun _ k => B_IS_shift_24 P X a1 a2 a3 k) n
def w_IS_shift (a1 : Int32) (a2 : Int32) (a3 : Int32) (M : zM) (P : Int32 → zM → Prop) (X : Nat → zM → Prop) : Prop := w_IS_requireRegister a1  (w_IS_requireRegister a2  (w_IS_requireNear a3  (w_Ar_fillJ 6 (0 : Int64) M (fun M11 => ∃ n, L_IS_shift_24 P X a1 a2 a3 n (7 : Int32) M11)) (fun k => X k M)) (fun k => X k M)) (fun k => X k M)
def ws_IS_shift : List Cond := .code y_IS_shift prog_1_method_8_code 6 (Option.some Jvm.ClassFile.FieldType.int) :: zall
def rm_IS_shift : Room := { frames := 7, cells := 4, slots := 24, locals := 111 }
theorem hd_IS_shift : y_IS_shift.cls ≠ "java/lang/invoke/MethodHandle" ∧ y_IS_shift.cls ≠ "java/lang/invoke/VarHandle" ∧ (parseMethodDescriptor y_IS_shift.desc).map (fun d => d.parameters.length) = some 3 := by decide +kernel
set_option maxHeartbeats 4000000 in
set_option maxRecDepth 100000 in
theorem c_IS_shift (l : Launch) (hst : l.stackTraces = false) (G : zG) (b : Nat) (a1 : Int32) (a2 : Int32) (a3 : Int32) (M : zM) (N : zN) {P : Int32 → zM → Prop} {X : Nat → zM → Prop} (hw : w_IS_shift a1 a2 a3 M P X) : vx_Met l y_IS_shift ws_IS_shift rm_IS_shift (zPc G b M N [.ref (b + 0), .int a1, .int a2, .int a3]) (zQi G b (fun r M' N' => P r M' ∧ N' = N)) (zXC G b (fun k M' N' => X k M' ∧ N' = N)) 4 24 (zA b) := by
  refine vx_ofW (cc := prog_1_method_8_code) (maxL := 6) (ret := (Option.some Jvm.ClassFile.FieldType.int)) (by decide) rfl ?_
  intro p e s m args below meth c s₁ B hml hno hv
  obtain ⟨rfl, hZ, hK, hT⟩ := hv
  have hx := B.exec
  have hb := B.bytes
  have hr := B.returns
  have hts := atoms_spec (ws := ws_IS_shift) B.pre
  have hta : ∀ w ∈ zall, w.before ([.ref (b + 0), .int a1, .int a2, .int a3] : List Value).toArray s = true := fun w h => hts w (List.mem_cons_of_mem _ h)
  have hown : s.vm.findClass R_IS = some m.cls := findClass_of_methodNamed B.named
  have hlocks := B.notSynchronized
  have hS : va_S (zA b) s.heap s.heap [] := va_S.rf
  have hl := lv_entry ([.ref (b + 0), .int a1, .int a2, .int a3]) (n := 6) (Nat.le_of_ble_eq_true rfl)
  rw [lg_entry_eq]
  generalize (lg_sl ([.ref (b + 0), .int a1, .int a2, .int a3]) ++ List.replicate (6 - (lg_sl ([.ref (b + 0), .int a1, .int a2, .int a3])).length) Slot.unset).toArray = ls at hl ⊢
  have hl : lv_has ls 6 [(0, .ref (b + 0)), (1, .int a1), (2, .int a2), (3, .int a3)] := hl
  have lp24 : ∀ (n : Nat) (v4 : Int32) (M : zM) (H : Heap) (ls : Array Slot) (locs : List Loc), va_P G.1 zCl (zws G b M N) H → va_S (zA b) s.heap H locs → lv_has ls 6 [(0, .ref (b + 0)), (1, .int a1), (2, .int a2), (3, .int a3), (4, .int v4)] → L_IS_shift_24 P X a1 a2 a3 n v4 M → W p l e (headSpec ws_IS_shift rm_IS_shift).room s m ([.ref (b + 0), .int a1, .int a2, .int a3] : List Value).toArray below meth c H locs 3 18 (vx_MQ below (zQi G b (fun r M' N' => P r M' ∧ N' = N)) (zXC G b (fun k M' N' => X k M' ∧ N' = N)) ([.ref (b + 0), .int a1, .int a2, .int a3] : List Value).toArray s 4 24 (zA b)) (F0 m 24 ls []) := by
    intro  n
    induction n with
    | zero => intro v4 M H ls locs hZ hS hl hw; exact False.elim hw
    | succ n24 ih24 =>
      have lp33 : ∀ (v4 : Int32) (n : Nat) (v5 : Int32) (M : zM) (H : Heap) (ls : Array Slot) (locs : List Loc), va_P G.1 zCl (zws G b M N) H → va_S (zA b) s.heap H locs → lv_has ls 6 [(0, .ref (b + 0)), (1, .int a1), (2, .int a2), (3, .int a3), (4, .int v4), (5, .int v5)] → L_IS_shift_33 P X (L_IS_shift_24 P X a1 a2 a3 n24) a1 a2 a3 v4 n v5 M → W p l e (headSpec ws_IS_shift rm_IS_shift).room s m ([.ref (b + 0), .int a1, .int a2, .int a3] : List Value).toArray below meth c H locs 3 18 (vx_MQ below (zQi G b (fun r M' N' => P r M' ∧ N' = N)) (zXC G b (fun k M' N' => X k M' ∧ N' = N)) ([.ref (b + 0), .int a1, .int a2, .int a3] : List Value).toArray s 4 24 (zA b)) (F0 m 33 ls []) := by
        intro v4 n
        induction n with
        | zero => intro v5 M H ls locs hZ hS hl hw; exact False.elim hw
        | succ n33 ih33 =>
          intro v5 M H ls locs hZ hS hl hw
          have hw : B_IS_shift_33 P X (L_IS_shift_24 P X a1 a2 a3 n24) a1 a2 a3 v4 (L_IS_shift_33 P X (L_IS_shift_24 P X a1 a2 a3 n24) a1 a2 a3 v4 n33) v5 M := hw
          unfold B_IS_shift_33 at hw
          refine lv_iload (pc := 33) hx hb d_IS_shift_33 (lv_at hl 5 rfl) ?_
          refine lv_if_le (pc := 35) (tgt := 71) hx hb d_IS_shift_35 (by decide) (fun hc => ?_) (fun hc => ?_)
          · have hw := hw.1 hc
            refine lv_aload_n (pc := 71) hx hb d_IS_shift_71 rfl (lv_at hl 0 rfl) ?_
            refine zg_IS_14 (pc := 72) hx hb hta hown hK hZ d_IS_shift_72 ?_
            refine lv_iconst (pc := 75) (v := 0) hx hb d_IS_shift_75 (by decide) ?_
            refine lv_aload_n (pc := 76) hx hb d_IS_shift_76 rfl (lv_at hl 0 rfl) ?_
            refine zg_IS_14 (pc := 77) hx hb hta hown hK hZ d_IS_shift_77 ?_
            refine lv_iconst (pc := 80) (v := 0) hx hb d_IS_shift_80 (by decide) ?_
            obtain ⟨hc, hw⟩ := hw
            refine z_lald (pc := 81) hx hb hK hZ hc d_IS_shift_81 ?_
            refine lv_iload_n (pc := 82) hx hb d_IS_shift_82 rfl (lv_at hl 3 rfl) ?_
            refine lv_i2l (pc := 83) (v := a3.toInt64) hx hb d_IS_shift_83 rfl ?_
            refine lv_lmul (pc := 84) hx hb d_IS_shift_84 ?_
            refine lv_aload_n (pc := 85) hx hb d_IS_shift_85 rfl (lv_at hl 0 rfl) ?_
            refine zg_IS_11 (pc := 86) hx hb hta hown hK hZ d_IS_shift_86 ?_
            refine lv_iload_n (pc := 89) hx hb d_IS_shift_89 rfl (lv_at hl 2 rfl) ?_
            obtain ⟨hc, hw⟩ := hw
            refine z_aald (pc := 90) hx hb hK hZ hc d_IS_shift_90 ?_
            refine lv_iload (pc := 91) hx hb d_IS_shift_91 (lv_at hl 4 rfl) ?_
            obtain ⟨hc, hw⟩ := hw
            refine z_lald (pc := 93) hx hb hK hZ hc d_IS_shift_93 ?_
            refine lv_ladd (pc := 94) hx hb d_IS_shift_94 ?_
            obtain ⟨hc, hw⟩ := hw
            refine z_last (pc := 95) hx hb hK hZ hS hc d_IS_shift_95 (fun M24 H locs hM24 hZ hS => ?_)
            have hw := hw M24 hM24
            refine lv_iinc (pc := 96) (k := 4) (v := v4 + (-1 : Int32)) (lv' := [(4, .int (v4 + (-1 : Int32))), (0, .ref (b + 0)), (1, .int a1), (2, .int a2), (3, .int a3), (5, .int v5)]) hx hb d_IS_shift_96 hl rfl (by rfl) (by decide) rfl (fun ls hl => ?_)
            refine lv_goto (pc := 99) (tgt := 24) hx hb d_IS_shift_99 (by decide) ?_
            exact ih24 (v4 + (-1 : Int32)) M24 _ _ _ hZ hS (lv_sub hl [1, 2, 3, 4, 0] rfl) hw
          · have hw := hw.2 hc
            refine lv_aload_n (pc := 38) hx hb d_IS_shift_38 rfl (lv_at hl 0 rfl) ?_
            refine zg_IS_14 (pc := 39) hx hb hta hown hK hZ d_IS_shift_39 ?_
            refine lv_iload (pc := 42) hx hb d_IS_shift_42 (lv_at hl 5 rfl) ?_
            refine lv_aload_n (pc := 44) hx hb d_IS_shift_44 rfl (lv_at hl 0 rfl) ?_
            refine zg_IS_14 (pc := 45) hx hb hta hown hK hZ d_IS_shift_45 ?_
            refine lv_iload (pc := 48) hx hb d_IS_shift_48 (lv_at hl 5 rfl) ?_
            obtain ⟨hc, hw⟩ := hw
            refine z_lald (pc := 50) hx hb hK hZ hc d_IS_shift_50 ?_
            refine lv_iload_n (pc := 51) hx hb d_IS_shift_51 rfl (lv_at hl 3 rfl) ?_
            refine lv_i2l (pc := 52) (v := a3.toInt64) hx hb d_IS_shift_52 rfl ?_
            refine lv_lmul (pc := 53) hx hb d_IS_shift_53 ?_
            refine lv_aload_n (pc := 54) hx hb d_IS_shift_54 rfl (lv_at hl 0 rfl) ?_
            refine zg_IS_14 (pc := 55) hx hb hta hown hK hZ d_IS_shift_55 ?_
            refine lv_iload (pc := 58) hx hb d_IS_shift_58 (lv_at hl 5 rfl) ?_
            refine lv_iconst (pc := 60) (v := 1) hx hb d_IS_shift_60 (by decide) ?_
            refine lv_isub (pc := 61) hx hb d_IS_shift_61 ?_
            obtain ⟨hc, hw⟩ := hw
            refine z_lald (pc := 62) hx hb hK hZ hc d_IS_shift_62 ?_
            refine lv_ladd (pc := 63) hx hb d_IS_shift_63 ?_
            obtain ⟨hc, hw⟩ := hw
            refine z_last (pc := 64) hx hb hK hZ hS hc d_IS_shift_64 (fun M25 H locs hM25 hZ hS => ?_)
            have hw := hw M25 hM25
            refine lv_iinc (pc := 65) (k := 5) (v := v5 + (-1 : Int32)) (lv' := [(5, .int (v5 + (-1 : Int32))), (0, .ref (b + 0)), (1, .int a1), (2, .int a2), (3, .int a3), (4, .int v4)]) hx hb d_IS_shift_65 hl rfl (by rfl) (by decide) rfl (fun ls hl => ?_)
            refine lv_goto (pc := 68) (tgt := 33) hx hb d_IS_shift_68 (by decide) ?_
            exact ih33 (v5 + (-1 : Int32)) M25 _ _ _ hZ hS (lv_sub hl [1, 2, 3, 4, 5, 0] rfl) hw
      intro v4 M H ls locs hZ hS hl hw
      have hw : B_IS_shift_24 P X a1 a2 a3 (L_IS_shift_24 P X a1 a2 a3 n24) v4 M := hw
      unfold B_IS_shift_24 at hw
      refine lv_iload (pc := 24) hx hb d_IS_shift_24 (lv_at hl 4 rfl) ?_
      refine lv_if_lt (pc := 26) (tgt := 102) hx hb d_IS_shift_26 (by decide) (fun hc => ?_) (fun hc => ?_)
      · have hw := hw.1 hc
        refine lv_aload_n (pc := 102) hx hb d_IS_shift_102 rfl (lv_at hl 0 rfl) ?_
        refine lv_iload_n (pc := 103) hx hb d_IS_shift_103 rfl (lv_at hl 1 rfl) ?_
        refine lv_aload_n (pc := 104) hx hb d_IS_shift_104 rfl (lv_at hl 0 rfl) ?_
        refine zg_IS_14 (pc := 105) hx hb hta hown hK hZ d_IS_shift_105 ?_
        refine z_xcalli (pc := 108) (vx_runV (C := R_IS) (b := b + 0) (As := [.int a1, .ref (b + 6)]) (rest := []) ⟨hx, hb, hml, hown, hts⟩ (c_IS_keep l hst G b a1 6 M N hw) (cwV 2 hts (z_good (zgV wd339 wd341 wsel1 wd1 wd342)) rfl rfl rfl ⟨rfl, hd_IS_keep⟩ ⟨Nat.le_of_ble_eq_true rfl, Nat.le_of_ble_eq_true rfl⟩) (z_preV zo_IS rfl rfl hZ hK hT hS) rfl rfl hl.1 rfl (lv_room (Nat.le_of_ble_eq_true rfl)) d_IS_shift_108 ⟨Nat.le_of_ble_eq_true rfl, Nat.le_of_ble_eq_true rfl⟩) hS (fun k q ce M22 N23 H locs hw hZ hS h1 h2 h3 => ?_) (fun r19 M20 N21 H locs hw hZ hS => ?_)
        · obtain ⟨hw, eN23⟩ := hw
          rw [eN23] at hZ
          exact z_xout hno hlocks hK hT hZ hS h1 h2 h3 ⟨hw, rfl⟩ (by decide) (by decide)
        · obtain ⟨hw, eN21⟩ := hw
          rw [eN21] at hZ
          refine W.widen (k := 4) (n := 24) (by decide) (by decide) ?_
          exact vx_ret (z_iret hx hb hr hlocks hK hT hZ hS ⟨hw, rfl⟩ d_IS_shift_111)
      · have hw := hw.2 hc
        refine lv_bipush (pc := 29) (v := 7) hx hb d_IS_shift_29 (by decide) ?_
        refine lv_istore (pc := 31) (lv' := [(5, .int (7 : Int32)), (0, .ref (b + 0)), (1, .int a1), (2, .int a2), (3, .int a3), (4, .int v4)]) hx hb d_IS_shift_31 hl (by decide) rfl (fun ls hl => ?_)
        obtain ⟨n, hw⟩ := hw
        exact lp33 v4 n (7 : Int32) M _ _ _ hZ hS (lv_sub hl [1, 2, 3, 4, 5, 0] rfl) hw
  unfold w_IS_shift at hw
  refine lv_iload_n (pc := 0) hx hb d_IS_shift_0 rfl (lv_at hl 1 rfl) ?_
  refine z_xcallv (pc := 1) (vx_runS (As := [.int a1]) (rest := []) ⟨hx, hb, hml, hown, hts⟩ (c_IS_requireRegister l hst G b a1 M N hw) (va_cwS 1 hts (z_good (zgS wd223 wd224 wd1 wd225)) rfl rfl rfl hd_IS_requireRegister ⟨Nat.le_of_ble_eq_true rfl, Nat.le_of_ble_eq_true rfl⟩) (z_preS hZ hK hT hS) rfl rfl hl.1 rfl (lv_room (Nat.le_of_ble_eq_true rfl)) d_IS_shift_1 ⟨Nat.le_of_ble_eq_true rfl, Nat.le_of_ble_eq_true rfl⟩) hS (fun k q ce M17 N18 H locs hw hZ hS h1 h2 h3 => ?_) (fun M2 N3 H locs hw hZ hS => ?_)
  · obtain ⟨hw, eM17, eN18⟩ := hw
    rw [eM17, eN18] at hZ
    exact z_xout hno hlocks hK hT hZ hS h1 h2 h3 ⟨hw, rfl⟩ (by decide) (by decide)
  · obtain ⟨hw, eM2, eN3⟩ := hw
    rw [eM2, eN3] at hZ
    refine lv_iload_n (pc := 4) hx hb d_IS_shift_4 rfl (lv_at hl 2 rfl) ?_
    refine z_xcallv (pc := 5) (vx_runS (As := [.int a2]) (rest := []) ⟨hx, hb, hml, hown, hts⟩ (c_IS_requireRegister l hst G b a2 M N hw) (va_cwS 1 hts (z_good (zgS wd223 wd224 wd1 wd225)) rfl rfl rfl hd_IS_requireRegister ⟨Nat.le_of_ble_eq_true rfl, Nat.le_of_ble_eq_true rfl⟩) (z_preS hZ hK hT hS) rfl rfl hl.1 rfl (lv_room (Nat.le_of_ble_eq_true rfl)) d_IS_shift_5 ⟨Nat.le_of_ble_eq_true rfl, Nat.le_of_ble_eq_true rfl⟩) hS (fun k q ce M15 N16 H locs hw hZ hS h1 h2 h3 => ?_) (fun M5 N6 H locs hw hZ hS => ?_)
    · obtain ⟨hw, eM15, eN16⟩ := hw
      rw [eM15, eN16] at hZ
      exact z_xout hno hlocks hK hT hZ hS h1 h2 h3 ⟨hw, rfl⟩ (by decide) (by decide)
    · obtain ⟨hw, eM5, eN6⟩ := hw
      rw [eM5, eN6] at hZ
      refine lv_iload_n (pc := 8) hx hb d_IS_shift_8 rfl (lv_at hl 3 rfl) ?_
      refine z_xcallv (pc := 9) (vx_runS (As := [.int a3]) (rest := []) ⟨hx, hb, hml, hown, hts⟩ (c_IS_requireNear l hst G b a3 M N hw) (va_cwS 1 hts (z_good (zgS wd392 wd393 wd1 wd394)) rfl rfl rfl hd_IS_requireNear ⟨Nat.le_of_ble_eq_true rfl, Nat.le_of_ble_eq_true rfl⟩) (z_preS hZ hK hT hS) rfl rfl hl.1 rfl (lv_room (Nat.le_of_ble_eq_true rfl)) d_IS_shift_9 ⟨Nat.le_of_ble_eq_true rfl, Nat.le_of_ble_eq_true rfl⟩) hS (fun k q ce M13 N14 H locs hw hZ hS h1 h2 h3 => ?_) (fun M8 N9 H locs hw hZ hS => ?_)
      · obtain ⟨hw, eM13, eN14⟩ := hw
        rw [eM13, eN14] at hZ
        exact z_xout hno hlocks hK hT hZ hS h1 h2 h3 ⟨hw, rfl⟩ (by decide) (by decide)
      · obtain ⟨hw, eM8, eN9⟩ := hw
        rw [eM8, eN9] at hZ
        refine lv_aload_n (pc := 12) hx hb d_IS_shift_12 rfl (lv_at hl 0 rfl) ?_
        refine zg_IS_14 (pc := 13) hx hb hta hown hK hZ d_IS_shift_13 ?_
        refine lv_lconst (pc := 16) (v := 0) hx hb d_IS_shift_16 (by decide) ?_
        refine z_callv (pc := 17) (va_runS (As := [.ref (b + 6), .long (0 : Int64)]) (rest := []) ⟨hx, hb, hml, hown, hts⟩ (c_Ar_fillJ l G b 6 (0 : Int64) M N hw) (va_cwS 2 hts (z_good (zgS wd336 wd337 wd14 wd338)) rfl rfl rfl hd_Ar_fillJ ⟨Nat.le_of_ble_eq_true rfl, Nat.le_of_ble_eq_true rfl⟩) (z_preS hZ hK hT hS) rfl rfl hl.1 rfl (lv_room (Nat.le_of_ble_eq_true rfl)) d_IS_shift_17 ⟨Nat.le_of_ble_eq_true rfl, Nat.le_of_ble_eq_true rfl⟩) hS (fun M11 N12 H locs hw hZ hS => ?_)
        obtain ⟨hw, eN12⟩ := hw
        rw [eN12] at hZ
        refine lv_bipush (pc := 20) (v := 7) hx hb d_IS_shift_20 (by decide) ?_
        refine lv_istore (pc := 22) (lv' := [(4, .int (7 : Int32)), (0, .ref (b + 0)), (1, .int a1), (2, .int a2), (3, .int a3)]) hx hb d_IS_shift_22 hl (by decide) rfl (fun ls hl => ?_)
        obtain ⟨n, hw⟩ := hw
        exact lp24  n (7 : Int32) M11 _ _ _ hZ hS (lv_sub hl [1, 2, 3, 4, 0] rfl) hw
