theorem d_Mo_keep_0 : decode prog_10_method_8_code 0 = .ok (.iconst 0, 1) := by decide +kernel
theorem d_Mo_keep_1 : decode prog_10_method_8_code 1 = .ok (.istore_n 3, 1) := by decide +kernel
theorem d_Mo_keep_2 : decode prog_10_method_8_code 2 = .ok (.iload_n 3, 1) := by decide +kernel
theorem d_Mo_keep_3 : decode prog_10_method_8_code 3 = .ok (.bipush 8, 2) := by decide +kernel
theorem d_Mo_keep_5 : decode prog_10_method_8_code 5 = .ok (.if_icmp .ge 24, 3) := by decide +kernel
theorem d_Mo_keep_8 : decode prog_10_method_8_code 8 = .ok (.aload_n 0, 1) := by decide +kernel
theorem d_Mo_keep_9 : decode prog_10_method_8_code 9 = .ok (.getfield 7, 3) := by decide +kernel
theorem d_Mo_keep_12 : decode prog_10_method_8_code 12 = .ok (.bipush 8, 2) := by decide +kernel
theorem d_Mo_keep_14 : decode prog_10_method_8_code 14 = .ok (.iload_n 1, 1) := by decide +kernel
theorem d_Mo_keep_15 : decode prog_10_method_8_code 15 = .ok (.imul, 1) := by decide +kernel
theorem d_Mo_keep_16 : decode prog_10_method_8_code 16 = .ok (.iload_n 3, 1) := by decide +kernel
theorem d_Mo_keep_17 : decode prog_10_method_8_code 17 = .ok (.iadd, 1) := by decide +kernel
theorem d_Mo_keep_18 : decode prog_10_method_8_code 18 = .ok (.aload_n 2, 1) := by decide +kernel
theorem d_Mo_keep_19 : decode prog_10_method_8_code 19 = .ok (.iload_n 3, 1) := by decide +kernel
theorem d_Mo_keep_20 : decode prog_10_method_8_code 20 = .ok (.laload, 1) := by decide +kernel
theorem d_Mo_keep_21 : decode prog_10_method_8_code 21 = .ok (.l2i, 1) := by decide +kernel
theorem d_Mo_keep_22 : decode prog_10_method_8_code 22 = .ok (.iastore, 1) := by decide +kernel
theorem d_Mo_keep_23 : decode prog_10_method_8_code 23 = .ok (.iinc 3 1, 3) := by decide +kernel
theorem d_Mo_keep_26 : decode prog_10_method_8_code 26 = .ok (.goto (-24), 3) := by decide +kernel
theorem d_Mo_keep_29 : decode prog_10_method_8_code 29 = .ok (.aload_n 2, 1) := by decide +kernel
theorem d_Mo_keep_30 : decode prog_10_method_8_code 30 = .ok (.invokestatic 82, 3) := by decide +kernel
theorem d_Mo_keep_33 : decode prog_10_method_8_code 33 = .ok (.ireturn, 1) := by decide +kernel
def B_Mo_keep_2 (P : Int32 → zN → Prop) (a1 : Int32) (a2 : Nat) (M : zM) (k2 : Int32 → zN → Prop) (v3 : Int32) (N : zN) : Prop := ((8 : Int32) ≤ v3 → w_Mo_degreeOf a2 M (fun r1 => P r1 N)) ∧ (¬ (8 : Int32) ≤ v3 → vp_in v3 (zlong a2) ∧ vp_in (((8 : Int32) * a1) + v3) (zint 100) ∧ ∀ N4 : zN, N4 = zpui N 100 (((8 : Int32) * a1) + v3).toNatClampNeg ((M a2 v3.toNatClampNeg).toInt32) → k2 (v3 + (1 : Int32)) N4)
def L_Mo_keep_2 (P : Int32 → zN → Prop) (a1 : Int32) (a2 : Nat) (M : zM) (n : Nat) : Int32 → zN → Prop := Nat.rec (fun _ _ => False) (fun _ k => B_Mo_keep_2 P a1 a2 M k) n
def w_Mo_keep (a1 : Int32) (a2 : Nat) (M : zM) (N : zN) (P : Int32 → zN → Prop) : Prop := ∃ n, L_Mo_keep_2 P a1 a2 M n (0 : Int32) N
def ws_Mo_keep : List Cond := .code y_Mo_keep prog_10_method_8_code 4 (Option.some Jvm.ClassFile.FieldType.int) :: zall
def rm_Mo_keep : Room := { frames := 1, cells := 0, slots := 0, locals := 21 }
theorem hd_Mo_keep : y_Mo_keep.cls ≠ "java/lang/invoke/MethodHandle" ∧ y_Mo_keep.cls ≠ "java/lang/invoke/VarHandle" ∧ (parseMethodDescriptor y_Mo_keep.desc).map (fun d => d.parameters.length) = some 2 := by decide +kernel
set_option maxHeartbeats 4000000 in
set_option maxRecDepth 100000 in
theorem c_Mo_keep (l : Launch) (G : zG) (b : Nat) (a1 : Int32) (a2 : Nat) (M : zM) (N : zN) {P : Int32 → zN → Prop} (hw : w_Mo_keep a1 a2 M N P) : Met l y_Mo_keep ws_Mo_keep rm_Mo_keep (zPc G b M N [.ref (b + 99), .int a1, .ref (b + a2)]) (zQi G b (fun r M' N' => P r N' ∧ M' = M)) 0 0 (zA b) := by
  refine Met.ofW (cc := prog_10_method_8_code) (maxL := 4) (ret := (Option.some Jvm.ClassFile.FieldType.int)) (by decide) rfl ?_
  intro p e s m args below meth c s₁ B hml hv
  obtain ⟨rfl, hZ, hK, hT⟩ := hv
  have hx := B.exec
  have hb := B.bytes
  have hr := B.returns
  have hts := atoms_spec (ws := ws_Mo_keep) B.pre
  have hta : ∀ w ∈ zall, w.before ([.ref (b + 99), .int a1, .ref (b + a2)] : List Value).toArray s = true := fun w h => hts w (List.mem_cons_of_mem _ h)
  have hown : s.vm.findClass R_Mo = some m.cls := findClass_of_methodNamed B.named
  have hlocks := B.notSynchronized
  have hS : va_S (zA b) s.heap s.heap [] := va_S.rf
  have hl := lv_entry ([.ref (b + 99), .int a1, .ref (b + a2)]) (n := 4) (Nat.le_of_ble_eq_true rfl)
  rw [lg_entry_eq]
  generalize (lg_sl ([.ref (b + 99), .int a1, .ref (b + a2)]) ++ List.replicate (4 - (lg_sl ([.ref (b + 99), .int a1, .ref (b + a2)])).length) Slot.unset).toArray = ls at hl ⊢
  have hl : lv_has ls 4 [(0, .ref (b + 99)), (1, .int a1), (2, .ref (b + a2))] := hl
  have lp2 : ∀ (n : Nat) (v3 : Int32) (N : zN) (H : Heap) (ls : Array Slot) (locs : List Loc), va_P G.1 zCl (zws G b M N) H → va_S (zA b) s.heap H locs → lv_has ls 4 [(0, .ref (b + 99)), (1, .int a1), (2, .ref (b + a2)), (3, .int v3)] → L_Mo_keep_2 P a1 a2 M n v3 N → W p l e (headSpec ws_Mo_keep rm_Mo_keep).room s m ([.ref (b + 99), .int a1, .ref (b + a2)] : List Value).toArray below meth c H locs 0 0 (MQ below (zQi G b (fun r M' N' => P r N' ∧ M' = M)) ([.ref (b + 99), .int a1, .ref (b + a2)] : List Value).toArray s 0 0 (zA b)) (F0 m 2 ls []) := by
    intro  n
    induction n with
    | zero => intro v3 N H ls locs hZ hS hl hw; exact False.elim hw
    | succ n2 ih2 =>
      intro v3 N H ls locs hZ hS hl hw
      have hw : B_Mo_keep_2 P a1 a2 M (L_Mo_keep_2 P a1 a2 M n2) v3 N := hw
      unfold B_Mo_keep_2 at hw
      refine lv_iload_n (pc := 2) hx hb d_Mo_keep_2 rfl (lv_at hl 3 rfl) ?_
      refine lv_bipush (pc := 3) (v := 8) hx hb d_Mo_keep_3 (by decide) ?_
      refine lv_icmp_ge (pc := 5) (tgt := 29) hx hb d_Mo_keep_5 (by decide) (fun hc => ?_) (fun hc => ?_)
      · have hw := hw.1 hc
        refine lv_aload_n (pc := 29) hx hb d_Mo_keep_29 rfl (lv_at hl 2 rfl) ?_
        refine z_calli (pc := 30) (va_runS (As := [.ref (b + a2)]) (rest := []) ⟨hx, hb, hml, hown, hts⟩ (c_Mo_degreeOf l G b a2 M N hw) (va_cwS 1 hts (z_good (zgS wd814 wd815 wd7 wd816)) rfl rfl rfl hd_Mo_degreeOf ⟨Nat.le_of_ble_eq_true rfl, Nat.le_of_ble_eq_true rfl⟩) (z_preS hZ hK hT hS) rfl rfl hl.1 rfl (lv_room (Nat.le_of_ble_eq_true rfl)) d_Mo_keep_30 ⟨Nat.le_of_ble_eq_true rfl, Nat.le_of_ble_eq_true rfl⟩) hS (fun r1 M2 N3 H locs hw hZ hS => ?_)
        obtain ⟨hw, eM2, eN3⟩ := hw
        rw [eM2, eN3] at hZ
        exact z_iret hx hb hr hlocks hK hT hZ hS ⟨hw, rfl⟩ d_Mo_keep_33
      · have hw := hw.2 hc
        refine lv_aload_n (pc := 8) hx hb d_Mo_keep_8 rfl (lv_at hl 0 rfl) ?_
        refine zg_Mo_7 (pc := 9) hx hb hta hown hK hZ d_Mo_keep_9 ?_
        refine lv_bipush (pc := 12) (v := 8) hx hb d_Mo_keep_12 (by decide) ?_
        refine lv_iload_n (pc := 14) hx hb d_Mo_keep_14 rfl (lv_at hl 1 rfl) ?_
        refine lv_imul (pc := 15) hx hb d_Mo_keep_15 ?_
        refine lv_iload_n (pc := 16) hx hb d_Mo_keep_16 rfl (lv_at hl 3 rfl) ?_
        refine lv_iadd (pc := 17) hx hb d_Mo_keep_17 ?_
        refine lv_aload_n (pc := 18) hx hb d_Mo_keep_18 rfl (lv_at hl 2 rfl) ?_
        refine lv_iload_n (pc := 19) hx hb d_Mo_keep_19 rfl (lv_at hl 3 rfl) ?_
        obtain ⟨hc, hw⟩ := hw
        refine z_lald (pc := 20) hx hb hK hZ hc d_Mo_keep_20 ?_
        refine lv_l2i (pc := 21) (v := (M a2 v3.toNatClampNeg).toInt32) hx hb d_Mo_keep_21 rfl ?_
        obtain ⟨hc, hw⟩ := hw
        refine z_iast (pc := 22) hx hb hK hZ hS hc d_Mo_keep_22 (fun N4 H locs hN4 hZ hS => ?_)
        have hw := hw N4 hN4
        refine lv_iinc (pc := 23) (k := 3) (v := v3 + (1 : Int32)) (lv' := [(3, .int (v3 + (1 : Int32))), (0, .ref (b + 99)), (1, .int a1), (2, .ref (b + a2))]) hx hb d_Mo_keep_23 hl rfl (by rfl) (by decide) rfl (fun ls hl => ?_)
        refine lv_goto (pc := 26) (tgt := 2) hx hb d_Mo_keep_26 (by decide) ?_
        exact ih2 (v3 + (1 : Int32)) N4 _ _ _ hZ hS (lv_sub hl [1, 2, 3, 0] rfl) hw
  unfold w_Mo_keep at hw
  refine lv_iconst (pc := 0) (v := 0) hx hb d_Mo_keep_0 (by decide) ?_
  refine lv_istore_n (pc := 1) (lv' := [(3, .int (0 : Int32)), (0, .ref (b + 99)), (1, .int a1), (2, .ref (b + a2))]) hx hb d_Mo_keep_1 rfl hl (by decide) rfl (fun ls hl => ?_)
  obtain ⟨n, hw⟩ := hw
  exact lp2  n (0 : Int32) N _ _ _ hZ hS (lv_sub hl [1, 2, 3, 0] rfl) hw
theorem d_Mo_amount_0 : decode prog_10_method_9_code 0 = .ok (.lload_n 0, 1) := by decide +kernel
theorem d_Mo_amount_1 : decode prog_10_method_9_code 1 = .ok (.lconst 0, 1) := by decide +kernel
theorem d_Mo_amount_2 : decode prog_10_method_9_code 2 = .ok (.lcmp, 1) := by decide +kernel
theorem d_Mo_amount_3 : decode prog_10_method_9_code 3 = .ok (.ifCond .ge 8, 3) := by decide +kernel
theorem d_Mo_amount_6 : decode prog_10_method_9_code 6 = .ok (.lload_n 0, 1) := by decide +kernel
theorem d_Mo_amount_7 : decode prog_10_method_9_code 7 = .ok (.lneg, 1) := by decide +kernel
theorem d_Mo_amount_8 : decode prog_10_method_9_code 8 = .ok (.goto 4, 3) := by decide +kernel
theorem d_Mo_amount_11 : decode prog_10_method_9_code 11 = .ok (.lload_n 0, 1) := by decide +kernel
theorem d_Mo_amount_12 : decode prog_10_method_9_code 12 = .ok (.lreturn, 1) := by decide +kernel
def w_Mo_amount (a0 : Int64) (P : Int64 → Prop) : Prop := ((0 : Int64) ≤ a0 → P a0) ∧ (¬ (0 : Int64) ≤ a0 → P (-a0))
def ws_Mo_amount : List Cond := .code y_Mo_amount prog_10_method_9_code 2 (Option.some Jvm.ClassFile.FieldType.long) :: zall
def rm_Mo_amount : Room := { frames := 0, cells := 0, slots := 0, locals := 0 }
theorem hd_Mo_amount : y_Mo_amount.cls ≠ "java/lang/invoke/MethodHandle" ∧ y_Mo_amount.cls ≠ "java/lang/invoke/VarHandle" ∧ (parseMethodDescriptor y_Mo_amount.desc).map (fun d => d.parameters.length) = some 1 := by decide +kernel
set_option maxHeartbeats 4000000 in
set_option maxRecDepth 100000 in
theorem c_Mo_amount (l : Launch) (G : zG) (b : Nat) (a0 : Int64) (M : zM) (N : zN) {P : Int64 → Prop} (hw : w_Mo_amount a0  P) : Met l y_Mo_amount ws_Mo_amount rm_Mo_amount (zPc G b M N [.long a0]) (zQl G b (fun r M' N' => P r ∧ M' = M ∧ N' = N)) 0 0 (zA b) := by
  refine Met.ofW (cc := prog_10_method_9_code) (maxL := 2) (ret := (Option.some Jvm.ClassFile.FieldType.long)) (by decide) rfl ?_
  intro p e s m args below meth c s₁ B hml hv
  obtain ⟨rfl, hZ, hK, hT⟩ := hv
  have hx := B.exec
  have hb := B.bytes
  have hr := B.returns
  have hts := atoms_spec (ws := ws_Mo_amount) B.pre
  have hta : ∀ w ∈ zall, w.before ([.long a0] : List Value).toArray s = true := fun w h => hts w (List.mem_cons_of_mem _ h)
  have hown : s.vm.findClass R_Mo = some m.cls := findClass_of_methodNamed B.named
  have hlocks := B.notSynchronized
  have hS : va_S (zA b) s.heap s.heap [] := va_S.rf
  have hl := lv_entry ([.long a0]) (n := 2) (Nat.le_of_ble_eq_true rfl)
  rw [lg_entry_eq]
  generalize (lg_sl ([.long a0]) ++ List.replicate (2 - (lg_sl ([.long a0])).length) Slot.unset).toArray = ls at hl ⊢
  have hl : lv_has ls 2 [(0, .long a0)] := hl
  unfold w_Mo_amount at hw
  refine lv_lload_n (pc := 0) hx hb d_Mo_amount_0 rfl (lv_at hl 0 rfl) ?_
  refine lv_lconst (pc := 1) (v := 0) hx hb d_Mo_amount_1 (by decide) ?_
  refine z_lc_ge (pc := 2) (tgt := 11) hx hb d_Mo_amount_2 d_Mo_amount_3 (by decide) (fun hc => ?_) (fun hc => ?_)
  · have hw := hw.1 hc
    refine lv_lload_n (pc := 11) hx hb d_Mo_amount_11 rfl (lv_at hl 0 rfl) ?_
    exact z_lret hx hb hr hlocks hK hT hZ hS ⟨hw, rfl, rfl⟩ d_Mo_amount_12
  · have hw := hw.2 hc
    refine lv_lload_n (pc := 6) hx hb d_Mo_amount_6 rfl (lv_at hl 0 rfl) ?_
    refine lv_lneg (pc := 7) hx hb d_Mo_amount_7 ?_
    refine lv_goto (pc := 8) (tgt := 12) hx hb d_Mo_amount_8 (by decide) ?_
    exact z_lret hx hb hr hlocks hK hT hZ hS ⟨hw, rfl, rfl⟩ d_Mo_amount_12
theorem d_Mo_divisor_0 : decode prog_10_method_10_code 0 = .ok (.lload_n 0, 1) := by decide +kernel
theorem d_Mo_divisor_1 : decode prog_10_method_10_code 1 = .ok (.invokestatic 90, 3) := by decide +kernel
theorem d_Mo_divisor_4 : decode prog_10_method_10_code 4 = .ok (.lstore 4, 2) := by decide +kernel
theorem d_Mo_divisor_6 : decode prog_10_method_10_code 6 = .ok (.lload_n 2, 1) := by decide +kernel
theorem d_Mo_divisor_7 : decode prog_10_method_10_code 7 = .ok (.invokestatic 90, 3) := by decide +kernel
theorem d_Mo_divisor_10 : decode prog_10_method_10_code 10 = .ok (.lstore 6, 2) := by decide +kernel
theorem d_Mo_divisor_12 : decode prog_10_method_10_code 12 = .ok (.lload 6, 2) := by decide +kernel
theorem d_Mo_divisor_14 : decode prog_10_method_10_code 14 = .ok (.lconst 0, 1) := by decide +kernel
theorem d_Mo_divisor_15 : decode prog_10_method_10_code 15 = .ok (.lcmp, 1) := by decide +kernel
theorem d_Mo_divisor_16 : decode prog_10_method_10_code 16 = .ok (.ifCond .le 21, 3) := by decide +kernel
theorem d_Mo_divisor_19 : decode prog_10_method_10_code 19 = .ok (.lload 4, 2) := by decide +kernel
theorem d_Mo_divisor_21 : decode prog_10_method_10_code 21 = .ok (.lload 6, 2) := by decide +kernel
theorem d_Mo_divisor_23 : decode prog_10_method_10_code 23 = .ok (.lrem, 1) := by decide +kernel
theorem d_Mo_divisor_24 : decode prog_10_method_10_code 24 = .ok (.lstore 8, 2) := by decide +kernel
theorem d_Mo_divisor_26 : decode prog_10_method_10_code 26 = .ok (.lload 6, 2) := by decide +kernel
theorem d_Mo_divisor_28 : decode prog_10_method_10_code 28 = .ok (.lstore 4, 2) := by decide +kernel
theorem d_Mo_divisor_30 : decode prog_10_method_10_code 30 = .ok (.lload 8, 2) := by decide +kernel
theorem d_Mo_divisor_32 : decode prog_10_method_10_code 32 = .ok (.lstore 6, 2) := by decide +kernel
theorem d_Mo_divisor_34 : decode prog_10_method_10_code 34 = .ok (.goto (-22), 3) := by decide +kernel
theorem d_Mo_divisor_37 : decode prog_10_method_10_code 37 = .ok (.lload 4, 2) := by decide +kernel
theorem d_Mo_divisor_39 : decode prog_10_method_10_code 39 = .ok (.lreturn, 1) := by decide +kernel
def B_Mo_divisor_12 (P : Int64 → Prop) (k12 : Int64 → Int64 → Prop) (v4 : Int64) (v6 : Int64) : Prop := (v6 ≤ (0 : Int64) → P v4) ∧ (¬ v6 ≤ (0 : Int64) → ¬ v6 = 0 ∧ ∀ x7 : Int64, x7 = v4 - v4 / v6 * v6 → k12 v6 x7)
def L_Mo_divisor_12 (P : Int64 → Prop) (n : Nat) : Int64 → Int64 → Prop := Nat.rec (fun _ _ => False) (fun _ k => B_Mo_divisor_12 P k) n
def w_Mo_divisor (a0 : Int64) (a2 : Int64) (P : Int64 → Prop) : Prop := w_Mo_amount a0  (fun r1 => w_Mo_amount a2  (fun r4 => ∃ n, L_Mo_divisor_12 P n r1 r4))
def ws_Mo_divisor : List Cond := .code y_Mo_divisor prog_10_method_10_code 10 (Option.some Jvm.ClassFile.FieldType.long) :: zall
def rm_Mo_divisor : Room := { frames := 1, cells := 0, slots := 0, locals := 21 }
theorem hd_Mo_divisor : y_Mo_divisor.cls ≠ "java/lang/invoke/MethodHandle" ∧ y_Mo_divisor.cls ≠ "java/lang/invoke/VarHandle" ∧ (parseMethodDescriptor y_Mo_divisor.desc).map (fun d => d.parameters.length) = some 2 := by decide +kernel
set_option maxHeartbeats 4000000 in
set_option maxRecDepth 100000 in
theorem c_Mo_divisor (l : Launch) (G : zG) (b : Nat) (a0 : Int64) (a2 : Int64) (M : zM) (N : zN) {P : Int64 → Prop} (hw : w_Mo_divisor a0 a2  P) : Met l y_Mo_divisor ws_Mo_divisor rm_Mo_divisor (zPc G b M N [.long a0, .long a2]) (zQl G b (fun r M' N' => P r ∧ M' = M ∧ N' = N)) 0 0 (zA b) := by
  refine Met.ofW (cc := prog_10_method_10_code) (maxL := 10) (ret := (Option.some Jvm.ClassFile.FieldType.long)) (by decide) rfl ?_
  intro p e s m args below meth c s₁ B hml hv
  obtain ⟨rfl, hZ, hK, hT⟩ := hv
  have hx := B.exec
  have hb := B.bytes
  have hr := B.returns
  have hts := atoms_spec (ws := ws_Mo_divisor) B.pre
  have hta : ∀ w ∈ zall, w.before ([.long a0, .long a2] : List Value).toArray s = true := fun w h => hts w (List.mem_cons_of_mem _ h)
  have hown : s.vm.findClass R_Mo = some m.cls := findClass_of_methodNamed B.named
  have hlocks := B.notSynchronized
  have hS : va_S (zA b) s.heap s.heap [] := va_S.rf
  have hl := lv_entry ([.long a0, .long a2]) (n := 10) (Nat.le_of_ble_eq_true rfl)
  rw [lg_entry_eq]
  generalize (lg_sl ([.long a0, .long a2]) ++ List.replicate (10 - (lg_sl ([.long a0, .long a2])).length) Slot.unset).toArray = ls at hl ⊢
  have hl : lv_has ls 10 [(0, .long a0), (2, .long a2)] := hl
  have lp12 : ∀ (n : Nat) (v4 : Int64) (v6 : Int64) (H : Heap) (ls : Array Slot) (locs : List Loc), va_P G.1 zCl (zws G b M N) H → va_S (zA b) s.heap H locs → lv_has ls 10 [(4, .long v4), (6, .long v6)] → L_Mo_divisor_12 P n v4 v6 → W p l e (headSpec ws_Mo_divisor rm_Mo_divisor).room s m ([.long a0, .long a2] : List Value).toArray below meth c H locs 0 0 (MQ below (zQl G b (fun r M' N' => P r ∧ M' = M ∧ N' = N)) ([.long a0, .long a2] : List Value).toArray s 0 0 (zA b)) (F0 m 12 ls []) := by
    intro  n
    induction n with
    | zero => intro v4 v6 H ls locs hZ hS hl hw; exact False.elim hw
    | succ n12 ih12 =>
      intro v4 v6 H ls locs hZ hS hl hw
      have hw : B_Mo_divisor_12 P (L_Mo_divisor_12 P n12) v4 v6 := hw
      unfold B_Mo_divisor_12 at hw
      refine lv_lload (pc := 12) hx hb d_Mo_divisor_12 (lv_at hl 1 rfl) ?_
      refine lv_lconst (pc := 14) (v := 0) hx hb d_Mo_divisor_14 (by decide) ?_
      refine z_lc_le (pc := 15) (tgt := 37) hx hb d_Mo_divisor_15 d_Mo_divisor_16 (by decide) (fun hc => ?_) (fun hc => ?_)
      · have hw := hw.1 hc
        refine lv_lload (pc := 37) hx hb d_Mo_divisor_37 (lv_at hl 0 rfl) ?_
        exact z_lret hx hb hr hlocks hK hT hZ hS ⟨hw, rfl, rfl⟩ d_Mo_divisor_39
      · have hw := hw.2 hc
        refine lv_lload (pc := 19) hx hb d_Mo_divisor_19 (lv_at hl 0 rfl) ?_
        refine lv_lload (pc := 21) hx hb d_Mo_divisor_21 (lv_at hl 1 rfl) ?_
        obtain ⟨hc, hw⟩ := hw
        refine lv_lrem (pc := 23) hx hb d_Mo_divisor_23 hc ?_
        refine lv_topl (fun x7 hx7 => ?_)
        have hw := hw x7 hx7
        refine lv_lstore (pc := 24) (lv' := [(8, .long x7), (4, .long v4), (6, .long v6)]) hx hb d_Mo_divisor_24 hl (by decide) rfl (fun ls hl => ?_)
        refine lv_lload (pc := 26) hx hb d_Mo_divisor_26 (lv_at hl 2 rfl) ?_
        refine lv_lstore (pc := 28) (lv' := [(4, .long v6), (8, .long x7), (6, .long v6)]) hx hb d_Mo_divisor_28 hl (by decide) rfl (fun ls hl => ?_)
        refine lv_lload (pc := 30) hx hb d_Mo_divisor_30 (lv_at hl 1 rfl) ?_
        refine lv_lstore (pc := 32) (lv' := [(6, .long x7), (4, .long v6), (8, .long x7)]) hx hb d_Mo_divisor_32 hl (by decide) rfl (fun ls hl => ?_)
        refine lv_goto (pc := 34) (tgt := 12) hx hb d_Mo_divisor_34 (by decide) ?_
        exact ih12 v6 x7 _ _ _ hZ hS (lv_sub hl [1, 0] rfl) hw
  unfold w_Mo_divisor at hw
  refine lv_lload_n (pc := 0) hx hb d_Mo_divisor_0 rfl (lv_at hl 0 rfl) ?_
  refine z_calll (pc := 1) (va_runS (As := [.long a0]) (rest := []) ⟨hx, hb, hml, hown, hts⟩ (c_Mo_amount l G b a0 M N hw) (va_cwS 1 hts (z_good (zgS wd868 wd869 wd7 wd870)) rfl rfl rfl hd_Mo_amount ⟨Nat.le_of_ble_eq_true rfl, Nat.le_of_ble_eq_true rfl⟩) (z_preS hZ hK hT hS) rfl rfl hl.1 rfl (lv_room (Nat.le_of_ble_eq_true rfl)) d_Mo_divisor_1 ⟨Nat.le_of_ble_eq_true rfl, Nat.le_of_ble_eq_true rfl⟩) hS (fun r1 M2 N3 H locs hw hZ hS => ?_)
  obtain ⟨hw, eM2, eN3⟩ := hw
  rw [eM2, eN3] at hZ
  refine lv_lstore (pc := 4) (lv' := [(4, .long r1), (0, .long a0), (2, .long a2)]) hx hb d_Mo_divisor_4 hl (by decide) rfl (fun ls hl => ?_)
  refine lv_lload_n (pc := 6) hx hb d_Mo_divisor_6 rfl (lv_at hl 2 rfl) ?_
  refine z_calll (pc := 7) (va_runS (As := [.long a2]) (rest := []) ⟨hx, hb, hml, hown, hts⟩ (c_Mo_amount l G b a2 M N hw) (va_cwS 1 hts (z_good (zgS wd868 wd869 wd7 wd870)) rfl rfl rfl hd_Mo_amount ⟨Nat.le_of_ble_eq_true rfl, Nat.le_of_ble_eq_true rfl⟩) (z_preS hZ hK hT hS) rfl rfl hl.1 rfl (lv_room (Nat.le_of_ble_eq_true rfl)) d_Mo_divisor_7 ⟨Nat.le_of_ble_eq_true rfl, Nat.le_of_ble_eq_true rfl⟩) hS (fun r4 M5 N6 H locs hw hZ hS => ?_)
  obtain ⟨hw, eM5, eN6⟩ := hw
  rw [eM5, eN6] at hZ
  refine lv_lstore (pc := 10) (lv' := [(6, .long r4), (4, .long r1), (0, .long a0), (2, .long a2)]) hx hb d_Mo_divisor_10 hl (by decide) rfl (fun ls hl => ?_)
  obtain ⟨n, hw⟩ := hw
  exact lp12  n r1 r4 _ _ _ hZ hS (lv_sub hl [1, 0] rfl) hw
theorem d_Mo_contentOf_0 : decode prog_10_method_11_code 0 = .ok (.lconst 0, 1) := by decide +kernel
theorem d_Mo_contentOf_1 : decode prog_10_method_11_code 1 = .ok (.lstore_n 1, 1) := by decide +kernel
theorem d_Mo_contentOf_2 : decode prog_10_method_11_code 2 = .ok (.iconst 0, 1) := by decide +kernel
theorem d_Mo_contentOf_3 : decode prog_10_method_11_code 3 = .ok (.istore_n 3, 1) := by decide +kernel
theorem d_Mo_contentOf_4 : decode prog_10_method_11_code 4 = .ok (.iload_n 3, 1) := by decide +kernel
theorem d_Mo_contentOf_5 : decode prog_10_method_11_code 5 = .ok (.bipush 16, 2) := by decide +kernel
theorem d_Mo_contentOf_7 : decode prog_10_method_11_code 7 = .ok (.if_icmp .ge 17, 3) := by decide +kernel
theorem d_Mo_contentOf_10 : decode prog_10_method_11_code 10 = .ok (.lload_n 1, 1) := by decide +kernel
theorem d_Mo_contentOf_11 : decode prog_10_method_11_code 11 = .ok (.aload_n 0, 1) := by decide +kernel
theorem d_Mo_contentOf_12 : decode prog_10_method_11_code 12 = .ok (.iload_n 3, 1) := by decide +kernel
theorem d_Mo_contentOf_13 : decode prog_10_method_11_code 13 = .ok (.laload, 1) := by decide +kernel
theorem d_Mo_contentOf_14 : decode prog_10_method_11_code 14 = .ok (.invokestatic 94, 3) := by decide +kernel
theorem d_Mo_contentOf_17 : decode prog_10_method_11_code 17 = .ok (.lstore_n 1, 1) := by decide +kernel
theorem d_Mo_contentOf_18 : decode prog_10_method_11_code 18 = .ok (.iinc 3 1, 3) := by decide +kernel
theorem d_Mo_contentOf_21 : decode prog_10_method_11_code 21 = .ok (.goto (-17), 3) := by decide +kernel
theorem d_Mo_contentOf_24 : decode prog_10_method_11_code 24 = .ok (.lload_n 1, 1) := by decide +kernel
theorem d_Mo_contentOf_25 : decode prog_10_method_11_code 25 = .ok (.lreturn, 1) := by decide +kernel
def B_Mo_contentOf_4 (P : Int64 → Prop) (a0 : Nat) (M : zM) (k4 : Int64 → Int32 → Prop) (v1 : Int64) (v3 : Int32) : Prop := ((16 : Int32) ≤ v3 → P v1) ∧ (¬ (16 : Int32) ≤ v3 → vp_in v3 (zlong a0) ∧ w_Mo_divisor v1 (M a0 v3.toNatClampNeg)  (fun r1 => k4 r1 (v3 + (1 : Int32))))
def L_Mo_contentOf_4 (P : Int64 → Prop) (a0 : Nat) (M : zM) (n : Nat) : Int64 → Int32 → Prop := Nat.rec (fun _ _ => False) (fun _ k => B_Mo_contentOf_4 P a0 M k) n
def w_Mo_contentOf (a0 : Nat) (M : zM) (P : Int64 → Prop) : Prop := ∃ n, L_Mo_contentOf_4 P a0 M n (0 : Int64) (0 : Int32)
def ws_Mo_contentOf : List Cond := .code y_Mo_contentOf prog_10_method_11_code 4 (Option.some Jvm.ClassFile.FieldType.long) :: zall
def rm_Mo_contentOf : Room := { frames := 2, cells := 0, slots := 0, locals := 50 }
theorem hd_Mo_contentOf : y_Mo_contentOf.cls ≠ "java/lang/invoke/MethodHandle" ∧ y_Mo_contentOf.cls ≠ "java/lang/invoke/VarHandle" ∧ (parseMethodDescriptor y_Mo_contentOf.desc).map (fun d => d.parameters.length) = some 1 := by decide +kernel
set_option maxHeartbeats 4000000 in
set_option maxRecDepth 100000 in
theorem c_Mo_contentOf (l : Launch) (G : zG) (b : Nat) (a0 : Nat) (M : zM) (N : zN) {P : Int64 → Prop} (hw : w_Mo_contentOf a0 M P) : Met l y_Mo_contentOf ws_Mo_contentOf rm_Mo_contentOf (zPc G b M N [.ref (b + a0)]) (zQl G b (fun r M' N' => P r ∧ M' = M ∧ N' = N)) 0 0 (zA b) := by
  refine Met.ofW (cc := prog_10_method_11_code) (maxL := 4) (ret := (Option.some Jvm.ClassFile.FieldType.long)) (by decide) rfl ?_
  intro p e s m args below meth c s₁ B hml hv
  obtain ⟨rfl, hZ, hK, hT⟩ := hv
  have hx := B.exec
  have hb := B.bytes
  have hr := B.returns
  have hts := atoms_spec (ws := ws_Mo_contentOf) B.pre
  have hta : ∀ w ∈ zall, w.before ([.ref (b + a0)] : List Value).toArray s = true := fun w h => hts w (List.mem_cons_of_mem _ h)
  have hown : s.vm.findClass R_Mo = some m.cls := findClass_of_methodNamed B.named
  have hlocks := B.notSynchronized
  have hS : va_S (zA b) s.heap s.heap [] := va_S.rf
  have hl := lv_entry ([.ref (b + a0)]) (n := 4) (Nat.le_of_ble_eq_true rfl)
  rw [lg_entry_eq]
  generalize (lg_sl ([.ref (b + a0)]) ++ List.replicate (4 - (lg_sl ([.ref (b + a0)])).length) Slot.unset).toArray = ls at hl ⊢
  have hl : lv_has ls 4 [(0, .ref (b + a0))] := hl
  have lp4 : ∀ (n : Nat) (v1 : Int64) (v3 : Int32) (H : Heap) (ls : Array Slot) (locs : List Loc), va_P G.1 zCl (zws G b M N) H → va_S (zA b) s.heap H locs → lv_has ls 4 [(0, .ref (b + a0)), (1, .long v1), (3, .int v3)] → L_Mo_contentOf_4 P a0 M n v1 v3 → W p l e (headSpec ws_Mo_contentOf rm_Mo_contentOf).room s m ([.ref (b + a0)] : List Value).toArray below meth c H locs 0 0 (MQ below (zQl G b (fun r M' N' => P r ∧ M' = M ∧ N' = N)) ([.ref (b + a0)] : List Value).toArray s 0 0 (zA b)) (F0 m 4 ls []) := by
    intro  n
    induction n with
    | zero => intro v1 v3 H ls locs hZ hS hl hw; exact False.elim hw
    | succ n4 ih4 =>
      intro v1 v3 H ls locs hZ hS hl hw
      have hw : B_Mo_contentOf_4 P a0 M (L_Mo_contentOf_4 P a0 M n4) v1 v3 := hw
      unfold B_Mo_contentOf_4 at hw
      refine lv_iload_n (pc := 4) hx hb d_Mo_contentOf_4 rfl (lv_at hl 2 rfl) ?_
      refine lv_bipush (pc := 5) (v := 16) hx hb d_Mo_contentOf_5 (by decide) ?_
      refine lv_icmp_ge (pc := 7) (tgt := 24) hx hb d_Mo_contentOf_7 (by decide) (fun hc => ?_) (fun hc => ?_)
      · have hw := hw.1 hc
        refine lv_lload_n (pc := 24) hx hb d_Mo_contentOf_24 rfl (lv_at hl 1 rfl) ?_
        exact z_lret hx hb hr hlocks hK hT hZ hS ⟨hw, rfl, rfl⟩ d_Mo_contentOf_25
      · have hw := hw.2 hc
        refine lv_lload_n (pc := 10) hx hb d_Mo_contentOf_10 rfl (lv_at hl 1 rfl) ?_
        refine lv_aload_n (pc := 11) hx hb d_Mo_contentOf_11 rfl (lv_at hl 0 rfl) ?_
        refine lv_iload_n (pc := 12) hx hb d_Mo_contentOf_12 rfl (lv_at hl 2 rfl) ?_
        obtain ⟨hc, hw⟩ := hw
        refine z_lald (pc := 13) hx hb hK hZ hc d_Mo_contentOf_13 ?_
        refine z_calll (pc := 14) (va_runS (As := [.long v1, .long (M a0 v3.toNatClampNeg)]) (rest := []) ⟨hx, hb, hml, hown, hts⟩ (c_Mo_divisor l G b v1 (M a0 v3.toNatClampNeg) M N hw) (va_cwS 2 hts (z_good (zgS wd883 wd884 wd7 wd885)) rfl rfl rfl hd_Mo_divisor ⟨Nat.le_of_ble_eq_true rfl, Nat.le_of_ble_eq_true rfl⟩) (z_preS hZ hK hT hS) rfl rfl hl.1 rfl (lv_room (Nat.le_of_ble_eq_true rfl)) d_Mo_contentOf_14 ⟨Nat.le_of_ble_eq_true rfl, Nat.le_of_ble_eq_true rfl⟩) hS (fun r1 M2 N3 H locs hw hZ hS => ?_)
        obtain ⟨hw, eM2, eN3⟩ := hw
        rw [eM2, eN3] at hZ
        refine lv_lstore_n (pc := 17) (lv' := [(1, .long r1), (0, .ref (b + a0)), (3, .int v3)]) hx hb d_Mo_contentOf_17 rfl hl (by decide) rfl (fun ls hl => ?_)
        refine lv_iinc (pc := 18) (k := 2) (v := v3 + (1 : Int32)) (lv' := [(3, .int (v3 + (1 : Int32))), (1, .long r1), (0, .ref (b + a0))]) hx hb d_Mo_contentOf_18 hl rfl (by rfl) (by decide) rfl (fun ls hl => ?_)
        refine lv_goto (pc := 21) (tgt := 4) hx hb d_Mo_contentOf_21 (by decide) ?_
        exact ih4 r1 (v3 + (1 : Int32)) _ _ _ hZ hS (lv_sub hl [2, 1, 0] rfl) hw
  unfold w_Mo_contentOf at hw
  refine lv_lconst (pc := 0) (v := 0) hx hb d_Mo_contentOf_0 (by decide) ?_
  refine lv_lstore_n (pc := 1) (lv' := [(1, .long (0 : Int64)), (0, .ref (b + a0))]) hx hb d_Mo_contentOf_1 rfl hl (by decide) rfl (fun ls hl => ?_)
  refine lv_iconst (pc := 2) (v := 0) hx hb d_Mo_contentOf_2 (by decide) ?_
  refine lv_istore_n (pc := 3) (lv' := [(3, .int (0 : Int32)), (1, .long (0 : Int64)), (0, .ref (b + a0))]) hx hb d_Mo_contentOf_3 rfl hl (by decide) rfl (fun ls hl => ?_)
  obtain ⟨n, hw⟩ := hw
  exact lp4  n (0 : Int64) (0 : Int32) _ _ _ hZ hS (lv_sub hl [2, 1, 0] rfl) hw
theorem d_Mo_scale_0 : decode prog_10_method_12_code 0 = .ok (.iconst 0, 1) := by decide +kernel
theorem d_Mo_scale_1 : decode prog_10_method_12_code 1 = .ok (.istore_n 3, 1) := by decide +kernel
theorem d_Mo_scale_2 : decode prog_10_method_12_code 2 = .ok (.iload_n 3, 1) := by decide +kernel
theorem d_Mo_scale_3 : decode prog_10_method_12_code 3 = .ok (.bipush 16, 2) := by decide +kernel
theorem d_Mo_scale_5 : decode prog_10_method_12_code 5 = .ok (.if_icmp .ge 17, 3) := by decide +kernel
theorem d_Mo_scale_8 : decode prog_10_method_12_code 8 = .ok (.aload_n 0, 1) := by decide +kernel
theorem d_Mo_scale_9 : decode prog_10_method_12_code 9 = .ok (.iload_n 3, 1) := by decide +kernel
theorem d_Mo_scale_10 : decode prog_10_method_12_code 10 = .ok (.aload_n 0, 1) := by decide +kernel
theorem d_Mo_scale_11 : decode prog_10_method_12_code 11 = .ok (.iload_n 3, 1) := by decide +kernel
theorem d_Mo_scale_12 : decode prog_10_method_12_code 12 = .ok (.laload, 1) := by decide +kernel
theorem d_Mo_scale_13 : decode prog_10_method_12_code 13 = .ok (.lload_n 1, 1) := by decide +kernel
theorem d_Mo_scale_14 : decode prog_10_method_12_code 14 = .ok (.ldiv, 1) := by decide +kernel
theorem d_Mo_scale_15 : decode prog_10_method_12_code 15 = .ok (.lastore, 1) := by decide +kernel
theorem d_Mo_scale_16 : decode prog_10_method_12_code 16 = .ok (.iinc 3 1, 3) := by decide +kernel
theorem d_Mo_scale_19 : decode prog_10_method_12_code 19 = .ok (.goto (-17), 3) := by decide +kernel
theorem d_Mo_scale_22 : decode prog_10_method_12_code 22 = .ok (.return_, 1) := by decide +kernel
def B_Mo_scale_2 (P : zM → Prop) (a0 : Nat) (a1 : Int64) (k2 : Int32 → zM → Prop) (v3 : Int32) (M : zM) : Prop := ((16 : Int32) ≤ v3 → P M) ∧ (¬ (16 : Int32) ≤ v3 → vp_in v3 (zlong a0) ∧ ¬ a1 = 0 ∧ vp_in v3 (zlong a0) ∧ ∀ M1 : zM, M1 = zput M a0 v3.toNatClampNeg ((M a0 v3.toNatClampNeg) / a1) → k2 (v3 + (1 : Int32)) M1)
def L_Mo_scale_2 (P : zM → Prop) (a0 : Nat) (a1 : Int64) (n : Nat) : Int32 → zM → Prop := Nat.rec (fun _ _ => False) (fun _ k => B_Mo_scale_2 P a0 a1 k) n
def w_Mo_scale (a0 : Nat) (a1 : Int64) (M : zM) (P : zM → Prop) : Prop := ∃ n, L_Mo_scale_2 P a0 a1 n (0 : Int32) M
def ws_Mo_scale : List Cond := .code y_Mo_scale prog_10_method_12_code 4 (Option.none : Option Jvm.ClassFile.FieldType) :: zall
def rm_Mo_scale : Room := { frames := 0, cells := 0, slots := 0, locals := 0 }
theorem hd_Mo_scale : y_Mo_scale.cls ≠ "java/lang/invoke/MethodHandle" ∧ y_Mo_scale.cls ≠ "java/lang/invoke/VarHandle" ∧ (parseMethodDescriptor y_Mo_scale.desc).map (fun d => d.parameters.length) = some 2 := by decide +kernel
set_option maxHeartbeats 4000000 in
set_option maxRecDepth 100000 in
theorem c_Mo_scale (l : Launch) (G : zG) (b : Nat) (a0 : Nat) (a1 : Int64) (M : zM) (N : zN) {P : zM → Prop} (hw : w_Mo_scale a0 a1 M P) : Met l y_Mo_scale ws_Mo_scale rm_Mo_scale (zPc G b M N [.ref (b + a0), .long a1]) (zQv G b (fun M' N' => P M' ∧ N' = N)) 0 0 (zA b) := by
  refine Met.ofW (cc := prog_10_method_12_code) (maxL := 4) (ret := (Option.none : Option Jvm.ClassFile.FieldType)) (by decide) rfl ?_
  intro p e s m args below meth c s₁ B hml hv
  obtain ⟨rfl, hZ, hK, hT⟩ := hv
  have hx := B.exec
  have hb := B.bytes
  have hr := B.returns
  have hts := atoms_spec (ws := ws_Mo_scale) B.pre
  have hta : ∀ w ∈ zall, w.before ([.ref (b + a0), .long a1] : List Value).toArray s = true := fun w h => hts w (List.mem_cons_of_mem _ h)
  have hown : s.vm.findClass R_Mo = some m.cls := findClass_of_methodNamed B.named
  have hlocks := B.notSynchronized
  have hS : va_S (zA b) s.heap s.heap [] := va_S.rf
  have hl := lv_entry ([.ref (b + a0), .long a1]) (n := 4) (Nat.le_of_ble_eq_true rfl)
  rw [lg_entry_eq]
  generalize (lg_sl ([.ref (b + a0), .long a1]) ++ List.replicate (4 - (lg_sl ([.ref (b + a0), .long a1])).length) Slot.unset).toArray = ls at hl ⊢
  have hl : lv_has ls 4 [(0, .ref (b + a0)), (1, .long a1)] := hl
  have lp2 : ∀ (n : Nat) (v3 : Int32) (M : zM) (H : Heap) (ls : Array Slot) (locs : List Loc), va_P G.1 zCl (zws G b M N) H → va_S (zA b) s.heap H locs → lv_has ls 4 [(0, .ref (b + a0)), (1, .long a1), (3, .int v3)] → L_Mo_scale_2 P a0 a1 n v3 M → W p l e (headSpec ws_Mo_scale rm_Mo_scale).room s m ([.ref (b + a0), .long a1] : List Value).toArray below meth c H locs 0 0 (MQ below (zQv G b (fun M' N' => P M' ∧ N' = N)) ([.ref (b + a0), .long a1] : List Value).toArray s 0 0 (zA b)) (F0 m 2 ls []) := by
    intro  n
    induction n with
    | zero => intro v3 M H ls locs hZ hS hl hw; exact False.elim hw
    | succ n2 ih2 =>
      intro v3 M H ls locs hZ hS hl hw
      have hw : B_Mo_scale_2 P a0 a1 (L_Mo_scale_2 P a0 a1 n2) v3 M := hw
      unfold B_Mo_scale_2 at hw
      refine lv_iload_n (pc := 2) hx hb d_Mo_scale_2 rfl (lv_at hl 2 rfl) ?_
      refine lv_bipush (pc := 3) (v := 16) hx hb d_Mo_scale_3 (by decide) ?_
      refine lv_icmp_ge (pc := 5) (tgt := 22) hx hb d_Mo_scale_5 (by decide) (fun hc => ?_) (fun hc => ?_)
      · have hw := hw.1 hc
        exact z_vret hx hb hr hlocks hK hT hZ hS ⟨hw, rfl⟩ d_Mo_scale_22
      · have hw := hw.2 hc
        refine lv_aload_n (pc := 8) hx hb d_Mo_scale_8 rfl (lv_at hl 0 rfl) ?_
        refine lv_iload_n (pc := 9) hx hb d_Mo_scale_9 rfl (lv_at hl 2 rfl) ?_
        refine lv_aload_n (pc := 10) hx hb d_Mo_scale_10 rfl (lv_at hl 0 rfl) ?_
        refine lv_iload_n (pc := 11) hx hb d_Mo_scale_11 rfl (lv_at hl 2 rfl) ?_
        obtain ⟨hc, hw⟩ := hw
        refine z_lald (pc := 12) hx hb hK hZ hc d_Mo_scale_12 ?_
        refine lv_lload_n (pc := 13) hx hb d_Mo_scale_13 rfl (lv_at hl 1 rfl) ?_
        obtain ⟨hc, hw⟩ := hw
        refine lv_ldiv (pc := 14) hx hb d_Mo_scale_14 hc ?_
        obtain ⟨hc, hw⟩ := hw
        refine z_last (pc := 15) hx hb hK hZ hS hc d_Mo_scale_15 (fun M1 H locs hM1 hZ hS => ?_)
        have hw := hw M1 hM1
        refine lv_iinc (pc := 16) (k := 2) (v := v3 + (1 : Int32)) (lv' := [(3, .int (v3 + (1 : Int32))), (0, .ref (b + a0)), (1, .long a1)]) hx hb d_Mo_scale_16 hl rfl (by rfl) (by decide) rfl (fun ls hl => ?_)
        refine lv_goto (pc := 19) (tgt := 2) hx hb d_Mo_scale_19 (by decide) ?_
        exact ih2 (v3 + (1 : Int32)) M1 _ _ _ hZ hS (lv_sub hl [1, 2, 0] rfl) hw
  unfold w_Mo_scale at hw
  refine lv_iconst (pc := 0) (v := 0) hx hb d_Mo_scale_0 (by decide) ?_
  refine lv_istore_n (pc := 1) (lv' := [(3, .int (0 : Int32)), (0, .ref (b + a0)), (1, .long a1)]) hx hb d_Mo_scale_1 rfl hl (by decide) rfl (fun ls hl => ?_)
  obtain ⟨n, hw⟩ := hw
  exact lp2  n (0 : Int32) M _ _ _ hZ hS (lv_sub hl [1, 2, 0] rfl) hw
theorem zp_Mo_78 {p : Program} {l : Launch} {e : Env} {R : Room} {s : State} {m : MethodId} {args : Array Value} {below : List Frame} {meth : Method} {c : Code} {H : Heap} {locs : List Loc} {cells slots : Nat} {Q : State → Prop} {cc : ByteArray} {pc : Nat} {ls : Array Slot} {rest : List Value} {G : zG} {b : Nat} {M : zM} {N : zN} {H0 : Heap} {x : Int32} (hx : p.tables.exec = Jvm.exec) (hb : c.code = cc) (hta : ∀ w ∈ zall, w.before args s = true) (hown : s.vm.findClass R_Mo = some m.cls) (hK : va_K G.1 zCl (zty G) s) (hZ : va_P G.1 zCl (zws G b M N) H) (hS : va_S (zA b) H0 H locs) (hdg : decode cc pc = .ok (.putfield 78, 3)) (kk : ∀ (N1 : zN) (H1 : Heap) (locs1 : List Loc), N1 = zpui N 99 0 x → va_P G.1 zCl (zws G b M N1) H1 → va_S (zA b) H0 H1 locs1 → W p l e R s m args below meth c H1 locs1 cells slots Q (F0 m (pc + 3) ls rest)) : W p l e R s m args below meth c H locs cells slots Q (F0 m pc ls (.int x :: .ref (b + 99) :: rest)) := by
  refine va_put (D := G.1) (ci := 6) (v := .int x) (ty := .int) (C := R_Mo) (T := T_Mo) (N := 23) hx hb hta hin_Mo ty_Mo tyok_Mo nm_Mo hown hK hZ z_D hS 99 zo_Mo rfl 0 (by decide) (hta _ wd727) (fun _ h9 => h9) rfl (by decide +kernel) rfl rfl (Nat.le_of_ble_eq_true rfl) hdg (fun H1 locs1 h1 _ h3 => ?_)
  have h2 : va_P G.1 zCl ((zws G b M N).set 99 (b + 99, zcell G b (M 99) ((zpui N 99 0 x) 99) 99)) H1 := h1
  rw [z_set (M' := M) (N' := (zpui N 99 0 x)) (k := 99) (by decide) rfl (fun j _ => rfl) (fun j hj => zpui_ne hj)] at h2
  exact kk _ H1 locs1 rfl h2 h3
theorem zg_Mo_29 {p : Program} {l : Launch} {e : Env} {R : Room} {s : State} {m : MethodId} {args : Array Value} {below : List Frame} {meth : Method} {c : Code} {H : Heap} {locs : List Loc} {cells slots : Nat} {Q : State → Prop} {cc : ByteArray} {pc : Nat} {ls : Array Slot} {rest : List Value} {G : zG} {b : Nat} {M : zM} {N : zN} (hx : p.tables.exec = Jvm.exec) (hb : c.code = cc) (hta : ∀ w ∈ zall, w.before args s = true) (hown : s.vm.findClass R_Mo = some m.cls) (hK : va_K G.1 zCl (zty G) s) (hZ : va_P G.1 zCl (zws G b M N) H) (hdg : decode cc pc = .ok (.getfield 29, 3)) (kk : W p l e R s m args below meth c H locs cells slots Q (F0 m (pc + 3) ls (.ref (b + 106) :: rest))) : W p l e R s m args below meth c H locs cells slots Q (F0 m pc ls (.ref (b + 99) :: rest)) :=
  va_get (D := G.1) (ci := 6) (v := .ref (b + 106)) (C := R_Mo) (T := T_Mo) (N := 23) hx hb hta hin_Mo hown hK hZ 99 zo_Mo rfl 10 (by decide) (hta _ wd737) (fun _ h9 => h9) rfl hdg kk
theorem wsel18 : Cond.selects R_Mo y_Mo_load y_Mo_load ∈ zall := List.mem_filter.mpr ⟨List.mem_append_left _ (List.mem_of_getElem? (i := 18) rfl), by decide +kernel⟩
theorem d_Mo_put_0 : decode prog_10_method_13_code 0 = .ok (.aload_n 0, 1) := by decide +kernel
theorem d_Mo_put_1 : decode prog_10_method_13_code 1 = .ok (.iload_n 1, 1) := by decide +kernel
theorem d_Mo_put_2 : decode prog_10_method_13_code 2 = .ok (.invokestatic 98, 3) := by decide +kernel
theorem d_Mo_put_5 : decode prog_10_method_13_code 5 = .ok (.ifCond .eq 13, 3) := by decide +kernel
theorem d_Mo_put_8 : decode prog_10_method_13_code 8 = .ok (.iload_n 2, 1) := by decide +kernel
theorem d_Mo_put_9 : decode prog_10_method_13_code 9 = .ok (.ifCond .lt 9, 3) := by decide +kernel
theorem d_Mo_put_12 : decode prog_10_method_13_code 12 = .ok (.iload_n 2, 1) := by decide +kernel
theorem d_Mo_put_13 : decode prog_10_method_13_code 13 = .ok (.bipush 7, 2) := by decide +kernel
theorem d_Mo_put_15 : decode prog_10_method_13_code 15 = .ok (.if_icmp .le 7, 3) := by decide +kernel
theorem d_Mo_put_18 : decode prog_10_method_13_code 18 = .ok (.iconst 1, 1) := by decide +kernel
theorem d_Mo_put_19 : decode prog_10_method_13_code 19 = .ok (.goto 20, 3) := by decide +kernel
theorem d_Mo_put_22 : decode prog_10_method_13_code 22 = .ok (.iload_n 3, 1) := by decide +kernel
theorem d_Mo_put_23 : decode prog_10_method_13_code 23 = .ok (.ldc 102, 2) := by decide +kernel
theorem d_Mo_put_25 : decode prog_10_method_13_code 25 = .ok (.if_icmp .lt 9, 3) := by decide +kernel
theorem d_Mo_put_28 : decode prog_10_method_13_code 28 = .ok (.iload_n 3, 1) := by decide +kernel
theorem d_Mo_put_29 : decode prog_10_method_13_code 29 = .ok (.ldc 103, 2) := by decide +kernel
theorem d_Mo_put_31 : decode prog_10_method_13_code 31 = .ok (.if_icmp .le 7, 3) := by decide +kernel
theorem d_Mo_put_34 : decode prog_10_method_13_code 34 = .ok (.iconst 2, 1) := by decide +kernel
theorem d_Mo_put_35 : decode prog_10_method_13_code 35 = .ok (.goto 4, 3) := by decide +kernel
theorem d_Mo_put_38 : decode prog_10_method_13_code 38 = .ok (.iconst 0, 1) := by decide +kernel
theorem d_Mo_put_39 : decode prog_10_method_13_code 39 = .ok (.putfield 78, 3) := by decide +kernel
theorem d_Mo_put_42 : decode prog_10_method_13_code 42 = .ok (.aload_n 0, 1) := by decide +kernel
theorem d_Mo_put_43 : decode prog_10_method_13_code 43 = .ok (.getfield 78, 3) := by decide +kernel
theorem d_Mo_put_46 : decode prog_10_method_13_code 46 = .ok (.ifCond .le 5, 3) := by decide +kernel
theorem d_Mo_put_49 : decode prog_10_method_13_code 49 = .ok (.iconst 0, 1) := by decide +kernel
theorem d_Mo_put_50 : decode prog_10_method_13_code 50 = .ok (.ireturn, 1) := by decide +kernel
theorem d_Mo_put_51 : decode prog_10_method_13_code 51 = .ok (.aload_n 0, 1) := by decide +kernel
theorem d_Mo_put_52 : decode prog_10_method_13_code 52 = .ok (.getfield 7, 3) := by decide +kernel
theorem d_Mo_put_55 : decode prog_10_method_13_code 55 = .ok (.bipush 8, 2) := by decide +kernel
theorem d_Mo_put_57 : decode prog_10_method_13_code 57 = .ok (.iload_n 1, 1) := by decide +kernel
theorem d_Mo_put_58 : decode prog_10_method_13_code 58 = .ok (.imul, 1) := by decide +kernel
theorem d_Mo_put_59 : decode prog_10_method_13_code 59 = .ok (.iload_n 2, 1) := by decide +kernel
theorem d_Mo_put_60 : decode prog_10_method_13_code 60 = .ok (.iadd, 1) := by decide +kernel
theorem d_Mo_put_61 : decode prog_10_method_13_code 61 = .ok (.iload_n 3, 1) := by decide +kernel
theorem d_Mo_put_62 : decode prog_10_method_13_code 62 = .ok (.iastore, 1) := by decide +kernel
theorem d_Mo_put_63 : decode prog_10_method_13_code 63 = .ok (.aload_n 0, 1) := by decide +kernel
theorem d_Mo_put_64 : decode prog_10_method_13_code 64 = .ok (.iload_n 1, 1) := by decide +kernel
theorem d_Mo_put_65 : decode prog_10_method_13_code 65 = .ok (.aload_n 0, 1) := by decide +kernel
theorem d_Mo_put_66 : decode prog_10_method_13_code 66 = .ok (.getfield 29, 3) := by decide +kernel
theorem d_Mo_put_69 : decode prog_10_method_13_code 69 = .ok (.invokevirtual 104, 3) := by decide +kernel
theorem d_Mo_put_72 : decode prog_10_method_13_code 72 = .ok (.aload_n 0, 1) := by decide +kernel
theorem d_Mo_put_73 : decode prog_10_method_13_code 73 = .ok (.getfield 29, 3) := by decide +kernel
theorem d_Mo_put_76 : decode prog_10_method_13_code 76 = .ok (.invokestatic 82, 3) := by decide +kernel
theorem d_Mo_put_79 : decode prog_10_method_13_code 79 = .ok (.ireturn, 1) := by decide +kernel
def J_Mo_put_39 (P : Int32 → zM → zN → Prop) (a1 : Int32) (a2 : Int32) (a3 : Int32) (t0 : Int32) (M : zM) (N : zN) : Prop := ∀ N4 : zN, N4 = zpui N 99 0 t0 → ((N4 99 0) ≤ 0 → vp_in (((8 : Int32) * a1) + a2) (zint 100) ∧ ∀ N5 : zN, N5 = zpui N4 100 (((8 : Int32) * a1) + a2).toNatClampNeg a3 → w_Mo_load a1 106 M N5 (fun M7 => w_Mo_degreeOf 106 M7 (fun r9 => P r9 M7 N5))) ∧ (¬ (N4 99 0) ≤ 0 → P (0 : Int32) M N4)
def w_Mo_put (a1 : Int32) (a2 : Int32) (a3 : Int32) (M : zM) (N : zN) (P : Int32 → zM → zN → Prop) : Prop := w_Mo_isRegister a1  (fun r1 => (r1 = 0 → J_Mo_put_39 P a1 a2 a3 (1 : Int32) M N) ∧ (¬ r1 = 0 → (a2 < 0 → J_Mo_put_39 P a1 a2 a3 (1 : Int32) M N) ∧ (¬ a2 < 0 → (a2 ≤ (7 : Int32) → (a3 < (-99999 : Int32) → J_Mo_put_39 P a1 a2 a3 (2 : Int32) M N) ∧ (¬ a3 < (-99999 : Int32) → (a3 ≤ (99999 : Int32) → J_Mo_put_39 P a1 a2 a3 (0 : Int32) M N) ∧ (¬ a3 ≤ (99999 : Int32) → J_Mo_put_39 P a1 a2 a3 (2 : Int32) M N))) ∧ (¬ a2 ≤ (7 : Int32) → J_Mo_put_39 P a1 a2 a3 (1 : Int32) M N))))
def ws_Mo_put : List Cond := .code y_Mo_put prog_10_method_13_code 4 (Option.some Jvm.ClassFile.FieldType.int) :: zall
def rm_Mo_put : Room := { frames := 1, cells := 0, slots := 0, locals := 23 }
theorem hd_Mo_put : y_Mo_put.cls ≠ "java/lang/invoke/MethodHandle" ∧ y_Mo_put.cls ≠ "java/lang/invoke/VarHandle" ∧ (parseMethodDescriptor y_Mo_put.desc).map (fun d => d.parameters.length) = some 3 := by decide +kernel
set_option maxHeartbeats 4000000 in
set_option maxRecDepth 100000 in
theorem c_Mo_put (l : Launch) (G : zG) (b : Nat) (a1 : Int32) (a2 : Int32) (a3 : Int32) (M : zM) (N : zN) {P : Int32 → zM → zN → Prop} (hw : w_Mo_put a1 a2 a3 M N P) : Met l y_Mo_put ws_Mo_put rm_Mo_put (zPc G b M N [.ref (b + 99), .int a1, .int a2, .int a3]) (zQi G b (fun r M' N' => P r M' N')) 0 0 (zA b) := by
  refine Met.ofW (cc := prog_10_method_13_code) (maxL := 4) (ret := (Option.some Jvm.ClassFile.FieldType.int)) (by decide) rfl ?_
  intro p e s m args below meth c s₁ B hml hv
  obtain ⟨rfl, hZ, hK, hT⟩ := hv
  have hx := B.exec
  have hb := B.bytes
  have hr := B.returns
  have hts := atoms_spec (ws := ws_Mo_put) B.pre
  have hta : ∀ w ∈ zall, w.before ([.ref (b + 99), .int a1, .int a2, .int a3] : List Value).toArray s = true := fun w h => hts w (List.mem_cons_of_mem _ h)
  have hown : s.vm.findClass R_Mo = some m.cls := findClass_of_methodNamed B.named
  have hlocks := B.notSynchronized
  have hS : va_S (zA b) s.heap s.heap [] := va_S.rf
  have hl := lv_entry ([.ref (b + 99), .int a1, .int a2, .int a3]) (n := 4) (Nat.le_of_ble_eq_true rfl)
  rw [lg_entry_eq]
  generalize (lg_sl ([.ref (b + 99), .int a1, .int a2, .int a3]) ++ List.replicate (4 - (lg_sl ([.ref (b + 99), .int a1, .int a2, .int a3])).length) Slot.unset).toArray = ls at hl ⊢
  have hl : lv_has ls 4 [(0, .ref (b + 99)), (1, .int a1), (2, .int a2), (3, .int a3)] := hl
  have j39 : ∀ (t0 : Int32) (M : zM) (N : zN) (H : Heap) (ls : Array Slot) (locs : List Loc), va_P G.1 zCl (zws G b M N) H → va_S (zA b) s.heap H locs → lv_has ls 4 [(0, .ref (b + 99)), (1, .int a1), (2, .int a2), (3, .int a3)] → J_Mo_put_39 P a1 a2 a3 t0 M N → W p l e (headSpec ws_Mo_put rm_Mo_put).room s m ([.ref (b + 99), .int a1, .int a2, .int a3] : List Value).toArray below meth c H locs 0 0 (MQ below (zQi G b (fun r M' N' => P r M' N')) ([.ref (b + 99), .int a1, .int a2, .int a3] : List Value).toArray s 0 0 (zA b)) (F0 m 39 ls [.int t0, .ref (b + 99)]) := by
    intro t0 M N H ls locs hZ hS hl hw
    unfold J_Mo_put_39 at hw
    refine zp_Mo_78 (pc := 39) hx hb hta hown hK hZ hS d_Mo_put_39 (fun N4 H locs hN4 hZ hS => ?_)
    have hw := hw N4 hN4
    refine lv_aload_n (pc := 42) hx hb d_Mo_put_42 rfl (lv_at hl 0 rfl) ?_
    refine zg_Mo_78 (pc := 43) hx hb hta hown hK hZ d_Mo_put_43 ?_
    refine lv_if_le (pc := 46) (tgt := 51) hx hb d_Mo_put_46 (by decide) (fun hc => ?_) (fun hc => ?_)
    · have hw := hw.1 hc
      refine lv_aload_n (pc := 51) hx hb d_Mo_put_51 rfl (lv_at hl 0 rfl) ?_
      refine zg_Mo_7 (pc := 52) hx hb hta hown hK hZ d_Mo_put_52 ?_
      refine lv_bipush (pc := 55) (v := 8) hx hb d_Mo_put_55 (by decide) ?_
      refine lv_iload_n (pc := 57) hx hb d_Mo_put_57 rfl (lv_at hl 1 rfl) ?_
      refine lv_imul (pc := 58) hx hb d_Mo_put_58 ?_
      refine lv_iload_n (pc := 59) hx hb d_Mo_put_59 rfl (lv_at hl 2 rfl) ?_
      refine lv_iadd (pc := 60) hx hb d_Mo_put_60 ?_
      refine lv_iload_n (pc := 61) hx hb d_Mo_put_61 rfl (lv_at hl 3 rfl) ?_
      obtain ⟨hc, hw⟩ := hw
      refine z_iast (pc := 62) hx hb hK hZ hS hc d_Mo_put_62 (fun N5 H locs hN5 hZ hS => ?_)
      have hw := hw N5 hN5
      refine lv_aload_n (pc := 63) hx hb d_Mo_put_63 rfl (lv_at hl 0 rfl) ?_
      refine lv_iload_n (pc := 64) hx hb d_Mo_put_64 rfl (lv_at hl 1 rfl) ?_
      refine lv_aload_n (pc := 65) hx hb d_Mo_put_65 rfl (lv_at hl 0 rfl) ?_
      refine zg_Mo_29 (pc := 66) hx hb hta hown hK hZ d_Mo_put_66 ?_
      refine z_callv (pc := 69) (va_runV (C := R_Mo) (b := b + 99) (As := [.int a1, .ref (b + 106)]) (rest := []) ⟨hx, hb, hml, hown, hts⟩ (c_Mo_load l G b a1 106 M N5 hw) (cwV 2 hts (z_good (zgV wd810 wd812 wsel18 wd7 wd813)) rfl rfl rfl ⟨rfl, hd_Mo_load⟩ ⟨Nat.le_of_ble_eq_true rfl, Nat.le_of_ble_eq_true rfl⟩) (z_preV zo_Mo rfl rfl hZ hK hT hS) rfl rfl hl.1 rfl (lv_room (Nat.le_of_ble_eq_true rfl)) d_Mo_put_69 ⟨Nat.le_of_ble_eq_true rfl, Nat.le_of_ble_eq_true rfl⟩) hS (fun M7 N8 H locs hw hZ hS => ?_)
      obtain ⟨hw, eN8⟩ := hw
      rw [eN8] at hZ
      refine lv_aload_n (pc := 72) hx hb d_Mo_put_72 rfl (lv_at hl 0 rfl) ?_
      refine zg_Mo_29 (pc := 73) hx hb hta hown hK hZ d_Mo_put_73 ?_
      refine z_calli (pc := 76) (va_runS (As := [.ref (b + 106)]) (rest := []) ⟨hx, hb, hml, hown, hts⟩ (c_Mo_degreeOf l G b 106 M7 N5 hw) (va_cwS 1 hts (z_good (zgS wd814 wd815 wd7 wd816)) rfl rfl rfl hd_Mo_degreeOf ⟨Nat.le_of_ble_eq_true rfl, Nat.le_of_ble_eq_true rfl⟩) (z_preS hZ hK hT hS) rfl rfl hl.1 rfl (lv_room (Nat.le_of_ble_eq_true rfl)) d_Mo_put_76 ⟨Nat.le_of_ble_eq_true rfl, Nat.le_of_ble_eq_true rfl⟩) hS (fun r9 M10 N11 H locs hw hZ hS => ?_)
      obtain ⟨hw, eM10, eN11⟩ := hw
      rw [eM10, eN11] at hZ
      exact z_iret hx hb hr hlocks hK hT hZ hS hw d_Mo_put_79
    · have hw := hw.2 hc
      refine lv_iconst (pc := 49) (v := 0) hx hb d_Mo_put_49 (by decide) ?_
      exact z_iret hx hb hr hlocks hK hT hZ hS hw d_Mo_put_50
  unfold w_Mo_put at hw
  refine lv_aload_n (pc := 0) hx hb d_Mo_put_0 rfl (lv_at hl 0 rfl) ?_
  refine lv_iload_n (pc := 1) hx hb d_Mo_put_1 rfl (lv_at hl 1 rfl) ?_
  refine z_calli (pc := 2) (va_runS (As := [.int a1]) (rest := [.ref (b + 99)]) ⟨hx, hb, hml, hown, hts⟩ (c_Mo_isRegister l G b a1 M N hw) (va_cwS 1 hts (z_good (zgS wd805 wd806 wd7 wd807)) rfl rfl rfl hd_Mo_isRegister ⟨Nat.le_of_ble_eq_true rfl, Nat.le_of_ble_eq_true rfl⟩) (z_preS hZ hK hT hS) rfl rfl hl.1 rfl (lv_room (Nat.le_of_ble_eq_true rfl)) d_Mo_put_2 ⟨Nat.le_of_ble_eq_true rfl, Nat.le_of_ble_eq_true rfl⟩) hS (fun r1 M2 N3 H locs hw hZ hS => ?_)
  obtain ⟨hw, eM2, eN3⟩ := hw
  rw [eM2, eN3] at hZ
  refine lv_if_eq (pc := 5) (tgt := 18) hx hb d_Mo_put_5 (by decide) (fun hc => ?_) (fun hc => ?_)
  · have hw := hw.1 hc
    refine lv_iconst (pc := 18) (v := 1) hx hb d_Mo_put_18 (by decide) ?_
    refine lv_goto (pc := 19) (tgt := 39) hx hb d_Mo_put_19 (by decide) ?_
    exact j39 (1 : Int32) M N _ _ _ hZ hS hl hw
  · have hw := hw.2 hc
    refine lv_iload_n (pc := 8) hx hb d_Mo_put_8 rfl (lv_at hl 2 rfl) ?_
    refine lv_if_lt (pc := 9) (tgt := 18) hx hb d_Mo_put_9 (by decide) (fun hc => ?_) (fun hc => ?_)
    · have hw := hw.1 hc
      refine lv_iconst (pc := 18) (v := 1) hx hb d_Mo_put_18 (by decide) ?_
      refine lv_goto (pc := 19) (tgt := 39) hx hb d_Mo_put_19 (by decide) ?_
      exact j39 (1 : Int32) M N _ _ _ hZ hS hl hw
    · have hw := hw.2 hc
      refine lv_iload_n (pc := 12) hx hb d_Mo_put_12 rfl (lv_at hl 2 rfl) ?_
      refine lv_bipush (pc := 13) (v := 7) hx hb d_Mo_put_13 (by decide) ?_
      refine lv_icmp_le (pc := 15) (tgt := 22) hx hb d_Mo_put_15 (by decide) (fun hc => ?_) (fun hc => ?_)
      · have hw := hw.1 hc
        refine lv_iload_n (pc := 22) hx hb d_Mo_put_22 rfl (lv_at hl 3 rfl) ?_
        refine lv_ldc (pc := 23) (v := -99999) hx hb hown (hta _ wd808) d_Mo_put_23 ?_
        refine lv_icmp_lt (pc := 25) (tgt := 34) hx hb d_Mo_put_25 (by decide) (fun hc => ?_) (fun hc => ?_)
        · have hw := hw.1 hc
          refine lv_iconst (pc := 34) (v := 2) hx hb d_Mo_put_34 (by decide) ?_
          refine lv_goto (pc := 35) (tgt := 39) hx hb d_Mo_put_35 (by decide) ?_
          exact j39 (2 : Int32) M N _ _ _ hZ hS hl hw
        · have hw := hw.2 hc
          refine lv_iload_n (pc := 28) hx hb d_Mo_put_28 rfl (lv_at hl 3 rfl) ?_
          refine lv_ldc (pc := 29) (v := 99999) hx hb hown (hta _ wd809) d_Mo_put_29 ?_
          refine lv_icmp_le (pc := 31) (tgt := 38) hx hb d_Mo_put_31 (by decide) (fun hc => ?_) (fun hc => ?_)
          · have hw := hw.1 hc
            refine lv_iconst (pc := 38) (v := 0) hx hb d_Mo_put_38 (by decide) ?_
            exact j39 (0 : Int32) M N _ _ _ hZ hS hl hw
          · have hw := hw.2 hc
            refine lv_iconst (pc := 34) (v := 2) hx hb d_Mo_put_34 (by decide) ?_
            refine lv_goto (pc := 35) (tgt := 39) hx hb d_Mo_put_35 (by decide) ?_
            exact j39 (2 : Int32) M N _ _ _ hZ hS hl hw
      · have hw := hw.2 hc
        refine lv_iconst (pc := 18) (v := 1) hx hb d_Mo_put_18 (by decide) ?_
        refine lv_goto (pc := 19) (tgt := 39) hx hb d_Mo_put_19 (by decide) ?_
        exact j39 (1 : Int32) M N _ _ _ hZ hS hl hw
theorem d_Mo_coefficient_0 : decode prog_10_method_14_code 0 = .ok (.aload_n 0, 1) := by decide +kernel
theorem d_Mo_coefficient_1 : decode prog_10_method_14_code 1 = .ok (.iload_n 1, 1) := by decide +kernel
theorem d_Mo_coefficient_2 : decode prog_10_method_14_code 2 = .ok (.invokestatic 98, 3) := by decide +kernel
theorem d_Mo_coefficient_5 : decode prog_10_method_14_code 5 = .ok (.ifCond .eq 13, 3) := by decide +kernel
theorem d_Mo_coefficient_8 : decode prog_10_method_14_code 8 = .ok (.iload_n 2, 1) := by decide +kernel
theorem d_Mo_coefficient_9 : decode prog_10_method_14_code 9 = .ok (.ifCond .lt 9, 3) := by decide +kernel
theorem d_Mo_coefficient_12 : decode prog_10_method_14_code 12 = .ok (.iload_n 2, 1) := by decide +kernel
theorem d_Mo_coefficient_13 : decode prog_10_method_14_code 13 = .ok (.bipush 7, 2) := by decide +kernel
theorem d_Mo_coefficient_15 : decode prog_10_method_14_code 15 = .ok (.if_icmp .le 7, 3) := by decide +kernel
theorem d_Mo_coefficient_18 : decode prog_10_method_14_code 18 = .ok (.iconst 1, 1) := by decide +kernel
theorem d_Mo_coefficient_19 : decode prog_10_method_14_code 19 = .ok (.goto 4, 3) := by decide +kernel
theorem d_Mo_coefficient_22 : decode prog_10_method_14_code 22 = .ok (.iconst 0, 1) := by decide +kernel
theorem d_Mo_coefficient_23 : decode prog_10_method_14_code 23 = .ok (.putfield 78, 3) := by decide +kernel
theorem d_Mo_coefficient_26 : decode prog_10_method_14_code 26 = .ok (.aload_n 0, 1) := by decide +kernel
theorem d_Mo_coefficient_27 : decode prog_10_method_14_code 27 = .ok (.getfield 78, 3) := by decide +kernel
theorem d_Mo_coefficient_30 : decode prog_10_method_14_code 30 = .ok (.ifCond .le 7, 3) := by decide +kernel
theorem d_Mo_coefficient_33 : decode prog_10_method_14_code 33 = .ok (.iconst 0, 1) := by decide +kernel
theorem d_Mo_coefficient_34 : decode prog_10_method_14_code 34 = .ok (.goto 14, 3) := by decide +kernel
theorem d_Mo_coefficient_37 : decode prog_10_method_14_code 37 = .ok (.aload_n 0, 1) := by decide +kernel
theorem d_Mo_coefficient_38 : decode prog_10_method_14_code 38 = .ok (.getfield 7, 3) := by decide +kernel
theorem d_Mo_coefficient_41 : decode prog_10_method_14_code 41 = .ok (.bipush 8, 2) := by decide +kernel
theorem d_Mo_coefficient_43 : decode prog_10_method_14_code 43 = .ok (.iload_n 1, 1) := by decide +kernel
theorem d_Mo_coefficient_44 : decode prog_10_method_14_code 44 = .ok (.imul, 1) := by decide +kernel
theorem d_Mo_coefficient_45 : decode prog_10_method_14_code 45 = .ok (.iload_n 2, 1) := by decide +kernel
theorem d_Mo_coefficient_46 : decode prog_10_method_14_code 46 = .ok (.iadd, 1) := by decide +kernel
theorem d_Mo_coefficient_47 : decode prog_10_method_14_code 47 = .ok (.iaload, 1) := by decide +kernel
theorem d_Mo_coefficient_48 : decode prog_10_method_14_code 48 = .ok (.ireturn, 1) := by decide +kernel
def J_Mo_coefficient_23 (P : Int32 → zN → Prop) (a1 : Int32) (a2 : Int32) (t0 : Int32) (N : zN) : Prop := ∀ N4 : zN, N4 = zpui N 99 0 t0 → ((N4 99 0) ≤ 0 → vp_in (((8 : Int32) * a1) + a2) (zint 100) ∧ P (N4 100 (((8 : Int32) * a1) + a2).toNatClampNeg) N4) ∧ (¬ (N4 99 0) ≤ 0 → P (0 : Int32) N4)
def w_Mo_coefficient (a1 : Int32) (a2 : Int32) (N : zN) (P : Int32 → zN → Prop) : Prop := w_Mo_isRegister a1  (fun r1 => (r1 = 0 → J_Mo_coefficient_23 P a1 a2 (1 : Int32) N) ∧ (¬ r1 = 0 → (a2 < 0 → J_Mo_coefficient_23 P a1 a2 (1 : Int32) N) ∧ (¬ a2 < 0 → (a2 ≤ (7 : Int32) → J_Mo_coefficient_23 P a1 a2 (0 : Int32) N) ∧ (¬ a2 ≤ (7 : Int32) → J_Mo_coefficient_23 P a1 a2 (1 : Int32) N))))
def ws_Mo_coefficient : List Cond := .code y_Mo_coefficient prog_10_method_14_code 3 (Option.some Jvm.ClassFile.FieldType.int) :: zall
def rm_Mo_coefficient : Room := { frames := 1, cells := 0, slots := 0, locals := 20 }
theorem hd_Mo_coefficient : y_Mo_coefficient.cls ≠ "java/lang/invoke/MethodHandle" ∧ y_Mo_coefficient.cls ≠ "java/lang/invoke/VarHandle" ∧ (parseMethodDescriptor y_Mo_coefficient.desc).map (fun d => d.parameters.length) = some 2 := by decide +kernel
set_option maxHeartbeats 4000000 in
set_option maxRecDepth 100000 in
theorem c_Mo_coefficient (l : Launch) (G : zG) (b : Nat) (a1 : Int32) (a2 : Int32) (M : zM) (N : zN) {P : Int32 → zN → Prop} (hw : w_Mo_coefficient a1 a2 N P) : Met l y_Mo_coefficient ws_Mo_coefficient rm_Mo_coefficient (zPc G b M N [.ref (b + 99), .int a1, .int a2]) (zQi G b (fun r M' N' => P r N' ∧ M' = M)) 0 0 (zA b) := by
  refine Met.ofW (cc := prog_10_method_14_code) (maxL := 3) (ret := (Option.some Jvm.ClassFile.FieldType.int)) (by decide) rfl ?_
  intro p e s m args below meth c s₁ B hml hv
  obtain ⟨rfl, hZ, hK, hT⟩ := hv
  have hx := B.exec
  have hb := B.bytes
  have hr := B.returns
  have hts := atoms_spec (ws := ws_Mo_coefficient) B.pre
  have hta : ∀ w ∈ zall, w.before ([.ref (b + 99), .int a1, .int a2] : List Value).toArray s = true := fun w h => hts w (List.mem_cons_of_mem _ h)
  have hown : s.vm.findClass R_Mo = some m.cls := findClass_of_methodNamed B.named
  have hlocks := B.notSynchronized
  have hS : va_S (zA b) s.heap s.heap [] := va_S.rf
  have hl := lv_entry ([.ref (b + 99), .int a1, .int a2]) (n := 3) (Nat.le_of_ble_eq_true rfl)
  rw [lg_entry_eq]
  generalize (lg_sl ([.ref (b + 99), .int a1, .int a2]) ++ List.replicate (3 - (lg_sl ([.ref (b + 99), .int a1, .int a2])).length) Slot.unset).toArray = ls at hl ⊢
  have hl : lv_has ls 3 [(0, .ref (b + 99)), (1, .int a1), (2, .int a2)] := hl
  have j23 : ∀ (t0 : Int32) (N : zN) (H : Heap) (ls : Array Slot) (locs : List Loc), va_P G.1 zCl (zws G b M N) H → va_S (zA b) s.heap H locs → lv_has ls 3 [(0, .ref (b + 99)), (1, .int a1), (2, .int a2)] → J_Mo_coefficient_23 P a1 a2 t0 N → W p l e (headSpec ws_Mo_coefficient rm_Mo_coefficient).room s m ([.ref (b + 99), .int a1, .int a2] : List Value).toArray below meth c H locs 0 0 (MQ below (zQi G b (fun r M' N' => P r N' ∧ M' = M)) ([.ref (b + 99), .int a1, .int a2] : List Value).toArray s 0 0 (zA b)) (F0 m 23 ls [.int t0, .ref (b + 99)]) := by
    intro t0 N H ls locs hZ hS hl hw
    unfold J_Mo_coefficient_23 at hw
    refine zp_Mo_78 (pc := 23) hx hb hta hown hK hZ hS d_Mo_coefficient_23 (fun N4 H locs hN4 hZ hS => ?_)
    have hw := hw N4 hN4
    refine lv_aload_n (pc := 26) hx hb d_Mo_coefficient_26 rfl (lv_at hl 0 rfl) ?_
    refine zg_Mo_78 (pc := 27) hx hb hta hown hK hZ d_Mo_coefficient_27 ?_
    refine lv_if_le (pc := 30) (tgt := 37) hx hb d_Mo_coefficient_30 (by decide) (fun hc => ?_) (fun hc => ?_)
    · have hw := hw.1 hc
      refine lv_aload_n (pc := 37) hx hb d_Mo_coefficient_37 rfl (lv_at hl 0 rfl) ?_
      refine zg_Mo_7 (pc := 38) hx hb hta hown hK hZ d_Mo_coefficient_38 ?_
      refine lv_bipush (pc := 41) (v := 8) hx hb d_Mo_coefficient_41 (by decide) ?_
      refine lv_iload_n (pc := 43) hx hb d_Mo_coefficient_43 rfl (lv_at hl 1 rfl) ?_
      refine lv_imul (pc := 44) hx hb d_Mo_coefficient_44 ?_
      refine lv_iload_n (pc := 45) hx hb d_Mo_coefficient_45 rfl (lv_at hl 2 rfl) ?_
      refine lv_iadd (pc := 46) hx hb d_Mo_coefficient_46 ?_
      obtain ⟨hc, hw⟩ := hw
      refine z_iald (pc := 47) hx hb hK hZ hc d_Mo_coefficient_47 ?_
      exact z_iret hx hb hr hlocks hK hT hZ hS ⟨hw, rfl⟩ d_Mo_coefficient_48
    · have hw := hw.2 hc
      refine lv_iconst (pc := 33) (v := 0) hx hb d_Mo_coefficient_33 (by decide) ?_
      refine lv_goto (pc := 34) (tgt := 48) hx hb d_Mo_coefficient_34 (by decide) ?_
      exact z_iret hx hb hr hlocks hK hT hZ hS ⟨hw, rfl⟩ d_Mo_coefficient_48
  unfold w_Mo_coefficient at hw
  refine lv_aload_n (pc := 0) hx hb d_Mo_coefficient_0 rfl (lv_at hl 0 rfl) ?_
  refine lv_iload_n (pc := 1) hx hb d_Mo_coefficient_1 rfl (lv_at hl 1 rfl) ?_
  refine z_calli (pc := 2) (va_runS (As := [.int a1]) (rest := [.ref (b + 99)]) ⟨hx, hb, hml, hown, hts⟩ (c_Mo_isRegister l G b a1 M N hw) (va_cwS 1 hts (z_good (zgS wd805 wd806 wd7 wd807)) rfl rfl rfl hd_Mo_isRegister ⟨Nat.le_of_ble_eq_true rfl, Nat.le_of_ble_eq_true rfl⟩) (z_preS hZ hK hT hS) rfl rfl hl.1 rfl (lv_room (Nat.le_of_ble_eq_true rfl)) d_Mo_coefficient_2 ⟨Nat.le_of_ble_eq_true rfl, Nat.le_of_ble_eq_true rfl⟩) hS (fun r1 M2 N3 H locs hw hZ hS => ?_)
  obtain ⟨hw, eM2, eN3⟩ := hw
  rw [eM2, eN3] at hZ
  refine lv_if_eq (pc := 5) (tgt := 18) hx hb d_Mo_coefficient_5 (by decide) (fun hc => ?_) (fun hc => ?_)
  · have hw := hw.1 hc
    refine lv_iconst (pc := 18) (v := 1) hx hb d_Mo_coefficient_18 (by decide) ?_
    refine lv_goto (pc := 19) (tgt := 23) hx hb d_Mo_coefficient_19 (by decide) ?_
    exact j23 (1 : Int32) N _ _ _ hZ hS hl hw
  · have hw := hw.2 hc
    refine lv_iload_n (pc := 8) hx hb d_Mo_coefficient_8 rfl (lv_at hl 2 rfl) ?_
    refine lv_if_lt (pc := 9) (tgt := 18) hx hb d_Mo_coefficient_9 (by decide) (fun hc => ?_) (fun hc => ?_)
    · have hw := hw.1 hc
      refine lv_iconst (pc := 18) (v := 1) hx hb d_Mo_coefficient_18 (by decide) ?_
      refine lv_goto (pc := 19) (tgt := 23) hx hb d_Mo_coefficient_19 (by decide) ?_
      exact j23 (1 : Int32) N _ _ _ hZ hS hl hw
    · have hw := hw.2 hc
      refine lv_iload_n (pc := 12) hx hb d_Mo_coefficient_12 rfl (lv_at hl 2 rfl) ?_
      refine lv_bipush (pc := 13) (v := 7) hx hb d_Mo_coefficient_13 (by decide) ?_
      refine lv_icmp_le (pc := 15) (tgt := 22) hx hb d_Mo_coefficient_15 (by decide) (fun hc => ?_) (fun hc => ?_)
      · have hw := hw.1 hc
        refine lv_iconst (pc := 22) (v := 0) hx hb d_Mo_coefficient_22 (by decide) ?_
        exact j23 (0 : Int32) N _ _ _ hZ hS hl hw
      · have hw := hw.2 hc
        refine lv_iconst (pc := 18) (v := 1) hx hb d_Mo_coefficient_18 (by decide) ?_
        refine lv_goto (pc := 19) (tgt := 23) hx hb d_Mo_coefficient_19 (by decide) ?_
        exact j23 (1 : Int32) N _ _ _ hZ hS hl hw
theorem d_Mo_degree_0 : decode prog_10_method_15_code 0 = .ok (.aload_n 0, 1) := by decide +kernel
theorem d_Mo_degree_1 : decode prog_10_method_15_code 1 = .ok (.iload_n 1, 1) := by decide +kernel
theorem d_Mo_degree_2 : decode prog_10_method_15_code 2 = .ok (.invokestatic 98, 3) := by decide +kernel
theorem d_Mo_degree_5 : decode prog_10_method_15_code 5 = .ok (.ifCond .eq 7, 3) := by decide +kernel
theorem d_Mo_degree_8 : decode prog_10_method_15_code 8 = .ok (.iconst 0, 1) := by decide +kernel
theorem d_Mo_degree_9 : decode prog_10_method_15_code 9 = .ok (.goto 4, 3) := by decide +kernel
theorem d_Mo_degree_12 : decode prog_10_method_15_code 12 = .ok (.iconst 1, 1) := by decide +kernel
theorem d_Mo_degree_13 : decode prog_10_method_15_code 13 = .ok (.putfield 78, 3) := by decide +kernel
theorem d_Mo_degree_16 : decode prog_10_method_15_code 16 = .ok (.aload_n 0, 1) := by decide +kernel
theorem d_Mo_degree_17 : decode prog_10_method_15_code 17 = .ok (.getfield 78, 3) := by decide +kernel
theorem d_Mo_degree_20 : decode prog_10_method_15_code 20 = .ok (.ifCond .le 5, 3) := by decide +kernel
theorem d_Mo_degree_23 : decode prog_10_method_15_code 23 = .ok (.iconst 0, 1) := by decide +kernel
theorem d_Mo_degree_24 : decode prog_10_method_15_code 24 = .ok (.ireturn, 1) := by decide +kernel
theorem d_Mo_degree_25 : decode prog_10_method_15_code 25 = .ok (.aload_n 0, 1) := by decide +kernel
theorem d_Mo_degree_26 : decode prog_10_method_15_code 26 = .ok (.iload_n 1, 1) := by decide +kernel
theorem d_Mo_degree_27 : decode prog_10_method_15_code 27 = .ok (.aload_n 0, 1) := by decide +kernel
theorem d_Mo_degree_28 : decode prog_10_method_15_code 28 = .ok (.getfield 29, 3) := by decide +kernel
theorem d_Mo_degree_31 : decode prog_10_method_15_code 31 = .ok (.invokevirtual 104, 3) := by decide +kernel
theorem d_Mo_degree_34 : decode prog_10_method_15_code 34 = .ok (.aload_n 0, 1) := by decide +kernel
theorem d_Mo_degree_35 : decode prog_10_method_15_code 35 = .ok (.getfield 29, 3) := by decide +kernel
theorem d_Mo_degree_38 : decode prog_10_method_15_code 38 = .ok (.invokestatic 82, 3) := by decide +kernel
theorem d_Mo_degree_41 : decode prog_10_method_15_code 41 = .ok (.ireturn, 1) := by decide +kernel
def J_Mo_degree_13 (P : Int32 → zM → zN → Prop) (a1 : Int32) (t0 : Int32) (M : zM) (N : zN) : Prop := ∀ N4 : zN, N4 = zpui N 99 0 t0 → ((N4 99 0) ≤ 0 → w_Mo_load a1 106 M N4 (fun M6 => w_Mo_degreeOf 106 M6 (fun r8 => P r8 M6 N4))) ∧ (¬ (N4 99 0) ≤ 0 → P (0 : Int32) M N4)
def w_Mo_degree (a1 : Int32) (M : zM) (N : zN) (P : Int32 → zM → zN → Prop) : Prop := w_Mo_isRegister a1  (fun r1 => (r1 = 0 → J_Mo_degree_13 P a1 (1 : Int32) M N) ∧ (¬ r1 = 0 → J_Mo_degree_13 P a1 (0 : Int32) M N))
def ws_Mo_degree : List Cond := .code y_Mo_degree prog_10_method_15_code 2 (Option.some Jvm.ClassFile.FieldType.int) :: zall
def rm_Mo_degree : Room := { frames := 1, cells := 0, slots := 0, locals := 23 }
theorem hd_Mo_degree : y_Mo_degree.cls ≠ "java/lang/invoke/MethodHandle" ∧ y_Mo_degree.cls ≠ "java/lang/invoke/VarHandle" ∧ (parseMethodDescriptor y_Mo_degree.desc).map (fun d => d.parameters.length) = some 1 := by decide +kernel
set_option maxHeartbeats 4000000 in
set_option maxRecDepth 100000 in
theorem c_Mo_degree (l : Launch) (G : zG) (b : Nat) (a1 : Int32) (M : zM) (N : zN) {P : Int32 → zM → zN → Prop} (hw : w_Mo_degree a1 M N P) : Met l y_Mo_degree ws_Mo_degree rm_Mo_degree (zPc G b M N [.ref (b + 99), .int a1]) (zQi G b (fun r M' N' => P r M' N')) 0 0 (zA b) := by
  refine Met.ofW (cc := prog_10_method_15_code) (maxL := 2) (ret := (Option.some Jvm.ClassFile.FieldType.int)) (by decide) rfl ?_
  intro p e s m args below meth c s₁ B hml hv
  obtain ⟨rfl, hZ, hK, hT⟩ := hv
  have hx := B.exec
  have hb := B.bytes
  have hr := B.returns
  have hts := atoms_spec (ws := ws_Mo_degree) B.pre
  have hta : ∀ w ∈ zall, w.before ([.ref (b + 99), .int a1] : List Value).toArray s = true := fun w h => hts w (List.mem_cons_of_mem _ h)
  have hown : s.vm.findClass R_Mo = some m.cls := findClass_of_methodNamed B.named
  have hlocks := B.notSynchronized
  have hS : va_S (zA b) s.heap s.heap [] := va_S.rf
  have hl := lv_entry ([.ref (b + 99), .int a1]) (n := 2) (Nat.le_of_ble_eq_true rfl)
  rw [lg_entry_eq]
  generalize (lg_sl ([.ref (b + 99), .int a1]) ++ List.replicate (2 - (lg_sl ([.ref (b + 99), .int a1])).length) Slot.unset).toArray = ls at hl ⊢
  have hl : lv_has ls 2 [(0, .ref (b + 99)), (1, .int a1)] := hl
  have j13 : ∀ (t0 : Int32) (M : zM) (N : zN) (H : Heap) (ls : Array Slot) (locs : List Loc), va_P G.1 zCl (zws G b M N) H → va_S (zA b) s.heap H locs → lv_has ls 2 [(0, .ref (b + 99)), (1, .int a1)] → J_Mo_degree_13 P a1 t0 M N → W p l e (headSpec ws_Mo_degree rm_Mo_degree).room s m ([.ref (b + 99), .int a1] : List Value).toArray below meth c H locs 0 0 (MQ below (zQi G b (fun r M' N' => P r M' N')) ([.ref (b + 99), .int a1] : List Value).toArray s 0 0 (zA b)) (F0 m 13 ls [.int t0, .ref (b + 99)]) := by
    intro t0 M N H ls locs hZ hS hl hw
    unfold J_Mo_degree_13 at hw
    refine zp_Mo_78 (pc := 13) hx hb hta hown hK hZ hS d_Mo_degree_13 (fun N4 H locs hN4 hZ hS => ?_)
    have hw := hw N4 hN4
    refine lv_aload_n (pc := 16) hx hb d_Mo_degree_16 rfl (lv_at hl 0 rfl) ?_
    refine zg_Mo_78 (pc := 17) hx hb hta hown hK hZ d_Mo_degree_17 ?_
    refine lv_if_le (pc := 20) (tgt := 25) hx hb d_Mo_degree_20 (by decide) (fun hc => ?_) (fun hc => ?_)
    · have hw := hw.1 hc
      refine lv_aload_n (pc := 25) hx hb d_Mo_degree_25 rfl (lv_at hl 0 rfl) ?_
      refine lv_iload_n (pc := 26) hx hb d_Mo_degree_26 rfl (lv_at hl 1 rfl) ?_
      refine lv_aload_n (pc := 27) hx hb d_Mo_degree_27 rfl (lv_at hl 0 rfl) ?_
      refine zg_Mo_29 (pc := 28) hx hb hta hown hK hZ d_Mo_degree_28 ?_
      refine z_callv (pc := 31) (va_runV (C := R_Mo) (b := b + 99) (As := [.int a1, .ref (b + 106)]) (rest := []) ⟨hx, hb, hml, hown, hts⟩ (c_Mo_load l G b a1 106 M N4 hw) (cwV 2 hts (z_good (zgV wd810 wd812 wsel18 wd7 wd813)) rfl rfl rfl ⟨rfl, hd_Mo_load⟩ ⟨Nat.le_of_ble_eq_true rfl, Nat.le_of_ble_eq_true rfl⟩) (z_preV zo_Mo rfl rfl hZ hK hT hS) rfl rfl hl.1 rfl (lv_room (Nat.le_of_ble_eq_true rfl)) d_Mo_degree_31 ⟨Nat.le_of_ble_eq_true rfl, Nat.le_of_ble_eq_true rfl⟩) hS (fun M6 N7 H locs hw hZ hS => ?_)
      obtain ⟨hw, eN7⟩ := hw
      rw [eN7] at hZ
      refine lv_aload_n (pc := 34) hx hb d_Mo_degree_34 rfl (lv_at hl 0 rfl) ?_
      refine zg_Mo_29 (pc := 35) hx hb hta hown hK hZ d_Mo_degree_35 ?_
      refine z_calli (pc := 38) (va_runS (As := [.ref (b + 106)]) (rest := []) ⟨hx, hb, hml, hown, hts⟩ (c_Mo_degreeOf l G b 106 M6 N4 hw) (va_cwS 1 hts (z_good (zgS wd814 wd815 wd7 wd816)) rfl rfl rfl hd_Mo_degreeOf ⟨Nat.le_of_ble_eq_true rfl, Nat.le_of_ble_eq_true rfl⟩) (z_preS hZ hK hT hS) rfl rfl hl.1 rfl (lv_room (Nat.le_of_ble_eq_true rfl)) d_Mo_degree_38 ⟨Nat.le_of_ble_eq_true rfl, Nat.le_of_ble_eq_true rfl⟩) hS (fun r8 M9 N10 H locs hw hZ hS => ?_)
      obtain ⟨hw, eM9, eN10⟩ := hw
      rw [eM9, eN10] at hZ
      exact z_iret hx hb hr hlocks hK hT hZ hS hw d_Mo_degree_41
    · have hw := hw.2 hc
      refine lv_iconst (pc := 23) (v := 0) hx hb d_Mo_degree_23 (by decide) ?_
      exact z_iret hx hb hr hlocks hK hT hZ hS hw d_Mo_degree_24
  unfold w_Mo_degree at hw
  refine lv_aload_n (pc := 0) hx hb d_Mo_degree_0 rfl (lv_at hl 0 rfl) ?_
  refine lv_iload_n (pc := 1) hx hb d_Mo_degree_1 rfl (lv_at hl 1 rfl) ?_
  refine z_calli (pc := 2) (va_runS (As := [.int a1]) (rest := [.ref (b + 99)]) ⟨hx, hb, hml, hown, hts⟩ (c_Mo_isRegister l G b a1 M N hw) (va_cwS 1 hts (z_good (zgS wd805 wd806 wd7 wd807)) rfl rfl rfl hd_Mo_isRegister ⟨Nat.le_of_ble_eq_true rfl, Nat.le_of_ble_eq_true rfl⟩) (z_preS hZ hK hT hS) rfl rfl hl.1 rfl (lv_room (Nat.le_of_ble_eq_true rfl)) d_Mo_degree_2 ⟨Nat.le_of_ble_eq_true rfl, Nat.le_of_ble_eq_true rfl⟩) hS (fun r1 M2 N3 H locs hw hZ hS => ?_)
  obtain ⟨hw, eM2, eN3⟩ := hw
  rw [eM2, eN3] at hZ
  refine lv_if_eq (pc := 5) (tgt := 12) hx hb d_Mo_degree_5 (by decide) (fun hc => ?_) (fun hc => ?_)
  · have hw := hw.1 hc
    refine lv_iconst (pc := 12) (v := 1) hx hb d_Mo_degree_12 (by decide) ?_
    exact j13 (1 : Int32) M N _ _ _ hZ hS hl hw
  · have hw := hw.2 hc
    refine lv_iconst (pc := 8) (v := 0) hx hb d_Mo_degree_8 (by decide) ?_
    refine lv_goto (pc := 9) (tgt := 13) hx hb d_Mo_degree_9 (by decide) ?_
    exact j13 (0 : Int32) M N _ _ _ hZ hS hl hw
theorem wsel20 : Cond.selects R_Mo y_Mo_keep y_Mo_keep ∈ zall := List.mem_filter.mpr ⟨List.mem_append_left _ (List.mem_of_getElem? (i := 20) rfl), by decide +kernel⟩
theorem d_Mo_settle_0 : decode prog_10_method_16_code 0 = .ok (.aload_n 0, 1) := by decide +kernel
theorem d_Mo_settle_1 : decode prog_10_method_16_code 1 = .ok (.aload_n 2, 1) := by decide +kernel
theorem d_Mo_settle_2 : decode prog_10_method_16_code 2 = .ok (.invokestatic 108, 3) := by decide +kernel
theorem d_Mo_settle_5 : decode prog_10_method_16_code 5 = .ok (.ifCond .eq 7, 3) := by decide +kernel
theorem d_Mo_settle_8 : decode prog_10_method_16_code 8 = .ok (.iconst 0, 1) := by decide +kernel
theorem d_Mo_settle_9 : decode prog_10_method_16_code 9 = .ok (.goto 4, 3) := by decide +kernel
theorem d_Mo_settle_12 : decode prog_10_method_16_code 12 = .ok (.iload_n 3, 1) := by decide +kernel
theorem d_Mo_settle_13 : decode prog_10_method_16_code 13 = .ok (.putfield 78, 3) := by decide +kernel
theorem d_Mo_settle_16 : decode prog_10_method_16_code 16 = .ok (.aload_n 0, 1) := by decide +kernel
theorem d_Mo_settle_17 : decode prog_10_method_16_code 17 = .ok (.getfield 78, 3) := by decide +kernel
theorem d_Mo_settle_20 : decode prog_10_method_16_code 20 = .ok (.ifCond .le 7, 3) := by decide +kernel
theorem d_Mo_settle_23 : decode prog_10_method_16_code 23 = .ok (.iconst 0, 1) := by decide +kernel
theorem d_Mo_settle_24 : decode prog_10_method_16_code 24 = .ok (.goto 9, 3) := by decide +kernel
theorem d_Mo_settle_27 : decode prog_10_method_16_code 27 = .ok (.aload_n 0, 1) := by decide +kernel
theorem d_Mo_settle_28 : decode prog_10_method_16_code 28 = .ok (.iload_n 1, 1) := by decide +kernel
theorem d_Mo_settle_29 : decode prog_10_method_16_code 29 = .ok (.aload_n 2, 1) := by decide +kernel
theorem d_Mo_settle_30 : decode prog_10_method_16_code 30 = .ok (.invokevirtual 112, 3) := by decide +kernel
theorem d_Mo_settle_33 : decode prog_10_method_16_code 33 = .ok (.ireturn, 1) := by decide +kernel
def J_Mo_settle_13 (P : Int32 → zN → Prop) (a1 : Int32) (a2 : Nat) (t0 : Int32) (M : zM) (N : zN) : Prop := ∀ N4 : zN, N4 = zpui N 99 0 t0 → ((N4 99 0) ≤ 0 → w_Mo_keep a1 a2 M N4 (fun r5 N7 => P r5 N7)) ∧ (¬ (N4 99 0) ≤ 0 → P (0 : Int32) N4)
def w_Mo_settle (a1 : Int32) (a2 : Nat) (a3 : Int32) (M : zM) (N : zN) (P : Int32 → zN → Prop) : Prop := w_Mo_fits a2 M (fun r1 => (r1 = 0 → J_Mo_settle_13 P a1 a2 a3 M N) ∧ (¬ r1 = 0 → J_Mo_settle_13 P a1 a2 (0 : Int32) M N))
def ws_Mo_settle : List Cond := .code y_Mo_settle prog_10_method_16_code 4 (Option.some Jvm.ClassFile.FieldType.int) :: zall
def rm_Mo_settle : Room := { frames := 2, cells := 0, slots := 0, locals := 44 }
theorem hd_Mo_settle : y_Mo_settle.cls ≠ "java/lang/invoke/MethodHandle" ∧ y_Mo_settle.cls ≠ "java/lang/invoke/VarHandle" ∧ (parseMethodDescriptor y_Mo_settle.desc).map (fun d => d.parameters.length) = some 3 := by decide +kernel
set_option maxHeartbeats 4000000 in
set_option maxRecDepth 100000 in
theorem c_Mo_settle (l : Launch) (G : zG) (b : Nat) (a1 : Int32) (a2 : Nat) (a3 : Int32) (M : zM) (N : zN) {P : Int32 → zN → Prop} (hw : w_Mo_settle a1 a2 a3 M N P) : Met l y_Mo_settle ws_Mo_settle rm_Mo_settle (zPc G b M N [.ref (b + 99), .int a1, .ref (b + a2), .int a3]) (zQi G b (fun r M' N' => P r N' ∧ M' = M)) 0 0 (zA b) := by
  refine Met.ofW (cc := prog_10_method_16_code) (maxL := 4) (ret := (Option.some Jvm.ClassFile.FieldType.int)) (by decide) rfl ?_
  intro p e s m args below meth c s₁ B hml hv
  obtain ⟨rfl, hZ, hK, hT⟩ := hv
  have hx := B.exec
  have hb := B.bytes
  have hr := B.returns
  have hts := atoms_spec (ws := ws_Mo_settle) B.pre
  have hta : ∀ w ∈ zall, w.before ([.ref (b + 99), .int a1, .ref (b + a2), .int a3] : List Value).toArray s = true := fun w h => hts w (List.mem_cons_of_mem _ h)
  have hown : s.vm.findClass R_Mo = some m.cls := findClass_of_methodNamed B.named
  have hlocks := B.notSynchronized
  have hS : va_S (zA b) s.heap s.heap [] := va_S.rf
  have hl := lv_entry ([.ref (b + 99), .int a1, .ref (b + a2), .int a3]) (n := 4) (Nat.le_of_ble_eq_true rfl)
  rw [lg_entry_eq]
  generalize (lg_sl ([.ref (b + 99), .int a1, .ref (b + a2), .int a3]) ++ List.replicate (4 - (lg_sl ([.ref (b + 99), .int a1, .ref (b + a2), .int a3])).length) Slot.unset).toArray = ls at hl ⊢
  have hl : lv_has ls 4 [(0, .ref (b + 99)), (1, .int a1), (2, .ref (b + a2)), (3, .int a3)] := hl
  have j13 : ∀ (t0 : Int32) (N : zN) (H : Heap) (ls : Array Slot) (locs : List Loc), va_P G.1 zCl (zws G b M N) H → va_S (zA b) s.heap H locs → lv_has ls 4 [(0, .ref (b + 99)), (1, .int a1), (2, .ref (b + a2))] → J_Mo_settle_13 P a1 a2 t0 M N → W p l e (headSpec ws_Mo_settle rm_Mo_settle).room s m ([.ref (b + 99), .int a1, .ref (b + a2), .int a3] : List Value).toArray below meth c H locs 0 0 (MQ below (zQi G b (fun r M' N' => P r N' ∧ M' = M)) ([.ref (b + 99), .int a1, .ref (b + a2), .int a3] : List Value).toArray s 0 0 (zA b)) (F0 m 13 ls [.int t0, .ref (b + 99)]) := by
    intro t0 N H ls locs hZ hS hl hw
    unfold J_Mo_settle_13 at hw
    refine zp_Mo_78 (pc := 13) hx hb hta hown hK hZ hS d_Mo_settle_13 (fun N4 H locs hN4 hZ hS => ?_)
    have hw := hw N4 hN4
    refine lv_aload_n (pc := 16) hx hb d_Mo_settle_16 rfl (lv_at hl 0 rfl) ?_
    refine zg_Mo_78 (pc := 17) hx hb hta hown hK hZ d_Mo_settle_17 ?_
    refine lv_if_le (pc := 20) (tgt := 27) hx hb d_Mo_settle_20 (by decide) (fun hc => ?_) (fun hc => ?_)
    · have hw := hw.1 hc
      refine lv_aload_n (pc := 27) hx hb d_Mo_settle_27 rfl (lv_at hl 0 rfl) ?_
      refine lv_iload_n (pc := 28) hx hb d_Mo_settle_28 rfl (lv_at hl 1 rfl) ?_
      refine lv_aload_n (pc := 29) hx hb d_Mo_settle_29 rfl (lv_at hl 2 rfl) ?_
      refine z_calli (pc := 30) (va_runV (C := R_Mo) (b := b + 99) (As := [.int a1, .ref (b + a2)]) (rest := []) ⟨hx, hb, hml, hown, hts⟩ (c_Mo_keep l G b a1 a2 M N4 hw) (cwV 2 hts (z_good (zgV wd838 wd840 wsel20 wd7 wd841)) rfl rfl rfl ⟨rfl, hd_Mo_keep⟩ ⟨Nat.le_of_ble_eq_true rfl, Nat.le_of_ble_eq_true rfl⟩) (z_preV zo_Mo rfl rfl hZ hK hT hS) rfl rfl hl.1 rfl (lv_room (Nat.le_of_ble_eq_true rfl)) d_Mo_settle_30 ⟨Nat.le_of_ble_eq_true rfl, Nat.le_of_ble_eq_true rfl⟩) hS (fun r5 M6 N7 H locs hw hZ hS => ?_)
      obtain ⟨hw, eM6⟩ := hw
      rw [eM6] at hZ
      exact z_iret hx hb hr hlocks hK hT hZ hS ⟨hw, rfl⟩ d_Mo_settle_33
    · have hw := hw.2 hc
      refine lv_iconst (pc := 23) (v := 0) hx hb d_Mo_settle_23 (by decide) ?_
      refine lv_goto (pc := 24) (tgt := 33) hx hb d_Mo_settle_24 (by decide) ?_
      exact z_iret hx hb hr hlocks hK hT hZ hS ⟨hw, rfl⟩ d_Mo_settle_33
  unfold w_Mo_settle at hw
  refine lv_aload_n (pc := 0) hx hb d_Mo_settle_0 rfl (lv_at hl 0 rfl) ?_
  refine lv_aload_n (pc := 1) hx hb d_Mo_settle_1 rfl (lv_at hl 2 rfl) ?_
  refine z_calli (pc := 2) (va_runS (As := [.ref (b + a2)]) (rest := [.ref (b + 99)]) ⟨hx, hb, hml, hown, hts⟩ (c_Mo_fits l G b a2 M N hw) (va_cwS 1 hts (z_good (zgS wd833 wd834 wd7 wd835)) rfl rfl rfl hd_Mo_fits ⟨Nat.le_of_ble_eq_true rfl, Nat.le_of_ble_eq_true rfl⟩) (z_preS hZ hK hT hS) rfl rfl hl.1 rfl (lv_room (Nat.le_of_ble_eq_true rfl)) d_Mo_settle_2 ⟨Nat.le_of_ble_eq_true rfl, Nat.le_of_ble_eq_true rfl⟩) hS (fun r1 M2 N3 H locs hw hZ hS => ?_)
  obtain ⟨hw, eM2, eN3⟩ := hw
  rw [eM2, eN3] at hZ
  refine lv_if_eq (pc := 5) (tgt := 12) hx hb d_Mo_settle_5 (by decide) (fun hc => ?_) (fun hc => ?_)
  · have hw := hw.1 hc
    refine lv_iload_n (pc := 12) hx hb d_Mo_settle_12 rfl (lv_at hl 3 rfl) ?_
    exact j13 a3 N _ _ _ hZ hS (lv_sub hl [0, 1, 2] rfl) hw
  · have hw := hw.2 hc
    refine lv_iconst (pc := 8) (v := 0) hx hb d_Mo_settle_8 (by decide) ?_
    refine lv_goto (pc := 9) (tgt := 13) hx hb d_Mo_settle_9 (by decide) ?_
    exact j13 (0 : Int32) N _ _ _ hZ hS (lv_sub hl [0, 1, 2] rfl) hw
theorem zg_Mo_32 {p : Program} {l : Launch} {e : Env} {R : Room} {s : State} {m : MethodId} {args : Array Value} {below : List Frame} {meth : Method} {c : Code} {H : Heap} {locs : List Loc} {cells slots : Nat} {Q : State → Prop} {cc : ByteArray} {pc : Nat} {ls : Array Slot} {rest : List Value} {G : zG} {b : Nat} {M : zM} {N : zN} (hx : p.tables.exec = Jvm.exec) (hb : c.code = cc) (hta : ∀ w ∈ zall, w.before args s = true) (hown : s.vm.findClass R_Mo = some m.cls) (hK : va_K G.1 zCl (zty G) s) (hZ : va_P G.1 zCl (zws G b M N) H) (hdg : decode cc pc = .ok (.getfield 32, 3)) (kk : W p l e R s m args below meth c H locs cells slots Q (F0 m (pc + 3) ls (.ref (b + 107) :: rest))) : W p l e R s m args below meth c H locs cells slots Q (F0 m pc ls (.ref (b + 99) :: rest)) :=
  va_get (D := G.1) (ci := 6) (v := .ref (b + 107)) (C := R_Mo) (T := T_Mo) (N := 23) hx hb hta hin_Mo hown hK hZ 99 zo_Mo rfl 11 (by decide) (hta _ wd738) (fun _ h9 => h9) rfl hdg kk
theorem zg_Mo_35 {p : Program} {l : Launch} {e : Env} {R : Room} {s : State} {m : MethodId} {args : Array Value} {below : List Frame} {meth : Method} {c : Code} {H : Heap} {locs : List Loc} {cells slots : Nat} {Q : State → Prop} {cc : ByteArray} {pc : Nat} {ls : Array Slot} {rest : List Value} {G : zG} {b : Nat} {M : zM} {N : zN} (hx : p.tables.exec = Jvm.exec) (hb : c.code = cc) (hta : ∀ w ∈ zall, w.before args s = true) (hown : s.vm.findClass R_Mo = some m.cls) (hK : va_K G.1 zCl (zty G) s) (hZ : va_P G.1 zCl (zws G b M N) H) (hdg : decode cc pc = .ok (.getfield 35, 3)) (kk : W p l e R s m args below meth c H locs cells slots Q (F0 m (pc + 3) ls (.ref (b + 108) :: rest))) : W p l e R s m args below meth c H locs cells slots Q (F0 m pc ls (.ref (b + 99) :: rest)) :=
  va_get (D := G.1) (ci := 6) (v := .ref (b + 108)) (C := R_Mo) (T := T_Mo) (N := 23) hx hb hta hin_Mo hown hK hZ 99 zo_Mo rfl 12 (by decide) (hta _ wd739) (fun _ h9 => h9) rfl hdg kk
theorem wsel19 : Cond.selects R_Mo y_Mo_settle y_Mo_settle ∈ zall := List.mem_filter.mpr ⟨List.mem_append_left _ (List.mem_of_getElem? (i := 19) rfl), by decide +kernel⟩
theorem d_Mo_add_0 : decode prog_10_method_17_code 0 = .ok (.aload_n 0, 1) := by decide +kernel
theorem d_Mo_add_1 : decode prog_10_method_17_code 1 = .ok (.iload_n 1, 1) := by decide +kernel
theorem d_Mo_add_2 : decode prog_10_method_17_code 2 = .ok (.invokestatic 98, 3) := by decide +kernel
theorem d_Mo_add_5 : decode prog_10_method_17_code 5 = .ok (.ifCond .eq 21, 3) := by decide +kernel
theorem d_Mo_add_8 : decode prog_10_method_17_code 8 = .ok (.iload_n 2, 1) := by decide +kernel
theorem d_Mo_add_9 : decode prog_10_method_17_code 9 = .ok (.invokestatic 98, 3) := by decide +kernel
theorem d_Mo_add_12 : decode prog_10_method_17_code 12 = .ok (.ifCond .eq 14, 3) := by decide +kernel
theorem d_Mo_add_15 : decode prog_10_method_17_code 15 = .ok (.iload_n 3, 1) := by decide +kernel
theorem d_Mo_add_16 : decode prog_10_method_17_code 16 = .ok (.invokestatic 98, 3) := by decide +kernel
theorem d_Mo_add_19 : decode prog_10_method_17_code 19 = .ok (.ifCond .eq 7, 3) := by decide +kernel
theorem d_Mo_add_22 : decode prog_10_method_17_code 22 = .ok (.iconst 0, 1) := by decide +kernel
theorem d_Mo_add_23 : decode prog_10_method_17_code 23 = .ok (.goto 4, 3) := by decide +kernel
theorem d_Mo_add_26 : decode prog_10_method_17_code 26 = .ok (.iconst 1, 1) := by decide +kernel
theorem d_Mo_add_27 : decode prog_10_method_17_code 27 = .ok (.putfield 78, 3) := by decide +kernel
theorem d_Mo_add_30 : decode prog_10_method_17_code 30 = .ok (.aload_n 0, 1) := by decide +kernel
theorem d_Mo_add_31 : decode prog_10_method_17_code 31 = .ok (.getfield 78, 3) := by decide +kernel
theorem d_Mo_add_34 : decode prog_10_method_17_code 34 = .ok (.ifCond .le 5, 3) := by decide +kernel
theorem d_Mo_add_37 : decode prog_10_method_17_code 37 = .ok (.iconst 0, 1) := by decide +kernel
theorem d_Mo_add_38 : decode prog_10_method_17_code 38 = .ok (.ireturn, 1) := by decide +kernel
theorem d_Mo_add_39 : decode prog_10_method_17_code 39 = .ok (.aload_n 0, 1) := by decide +kernel
theorem d_Mo_add_40 : decode prog_10_method_17_code 40 = .ok (.iload_n 2, 1) := by decide +kernel
theorem d_Mo_add_41 : decode prog_10_method_17_code 41 = .ok (.aload_n 0, 1) := by decide +kernel
theorem d_Mo_add_42 : decode prog_10_method_17_code 42 = .ok (.getfield 29, 3) := by decide +kernel
theorem d_Mo_add_45 : decode prog_10_method_17_code 45 = .ok (.invokevirtual 104, 3) := by decide +kernel
theorem d_Mo_add_48 : decode prog_10_method_17_code 48 = .ok (.aload_n 0, 1) := by decide +kernel
theorem d_Mo_add_49 : decode prog_10_method_17_code 49 = .ok (.iload_n 3, 1) := by decide +kernel
theorem d_Mo_add_50 : decode prog_10_method_17_code 50 = .ok (.aload_n 0, 1) := by decide +kernel
theorem d_Mo_add_51 : decode prog_10_method_17_code 51 = .ok (.getfield 32, 3) := by decide +kernel
theorem d_Mo_add_54 : decode prog_10_method_17_code 54 = .ok (.invokevirtual 104, 3) := by decide +kernel
theorem d_Mo_add_57 : decode prog_10_method_17_code 57 = .ok (.iconst 0, 1) := by decide +kernel
theorem d_Mo_add_58 : decode prog_10_method_17_code 58 = .ok (.istore 5, 2) := by decide +kernel
theorem d_Mo_add_60 : decode prog_10_method_17_code 60 = .ok (.iload 5, 2) := by decide +kernel
theorem d_Mo_add_62 : decode prog_10_method_17_code 62 = .ok (.bipush 16, 2) := by decide +kernel
theorem d_Mo_add_64 : decode prog_10_method_17_code 64 = .ok (.if_icmp .ge 54, 3) := by decide +kernel
theorem d_Mo_add_67 : decode prog_10_method_17_code 67 = .ok (.aload_n 0, 1) := by decide +kernel
theorem d_Mo_add_68 : decode prog_10_method_17_code 68 = .ok (.getfield 35, 3) := by decide +kernel
theorem d_Mo_add_71 : decode prog_10_method_17_code 71 = .ok (.iload 5, 2) := by decide +kernel
theorem d_Mo_add_73 : decode prog_10_method_17_code 73 = .ok (.iload 4, 2) := by decide +kernel
theorem d_Mo_add_75 : decode prog_10_method_17_code 75 = .ok (.ifCond .eq 21, 3) := by decide +kernel
theorem d_Mo_add_78 : decode prog_10_method_17_code 78 = .ok (.aload_n 0, 1) := by decide +kernel
theorem d_Mo_add_79 : decode prog_10_method_17_code 79 = .ok (.getfield 29, 3) := by decide +kernel
theorem d_Mo_add_82 : decode prog_10_method_17_code 82 = .ok (.iload 5, 2) := by decide +kernel
theorem d_Mo_add_84 : decode prog_10_method_17_code 84 = .ok (.laload, 1) := by decide +kernel
theorem d_Mo_add_85 : decode prog_10_method_17_code 85 = .ok (.aload_n 0, 1) := by decide +kernel
theorem d_Mo_add_86 : decode prog_10_method_17_code 86 = .ok (.getfield 32, 3) := by decide +kernel
theorem d_Mo_add_89 : decode prog_10_method_17_code 89 = .ok (.iload 5, 2) := by decide +kernel
theorem d_Mo_add_91 : decode prog_10_method_17_code 91 = .ok (.laload, 1) := by decide +kernel
theorem d_Mo_add_92 : decode prog_10_method_17_code 92 = .ok (.lsub, 1) := by decide +kernel
theorem d_Mo_add_93 : decode prog_10_method_17_code 93 = .ok (.goto 18, 3) := by decide +kernel
theorem d_Mo_add_96 : decode prog_10_method_17_code 96 = .ok (.aload_n 0, 1) := by decide +kernel
theorem d_Mo_add_97 : decode prog_10_method_17_code 97 = .ok (.getfield 29, 3) := by decide +kernel
theorem d_Mo_add_100 : decode prog_10_method_17_code 100 = .ok (.iload 5, 2) := by decide +kernel
theorem d_Mo_add_102 : decode prog_10_method_17_code 102 = .ok (.laload, 1) := by decide +kernel
theorem d_Mo_add_103 : decode prog_10_method_17_code 103 = .ok (.aload_n 0, 1) := by decide +kernel
theorem d_Mo_add_104 : decode prog_10_method_17_code 104 = .ok (.getfield 32, 3) := by decide +kernel
theorem d_Mo_add_107 : decode prog_10_method_17_code 107 = .ok (.iload 5, 2) := by decide +kernel
theorem d_Mo_add_109 : decode prog_10_method_17_code 109 = .ok (.laload, 1) := by decide +kernel
theorem d_Mo_add_110 : decode prog_10_method_17_code 110 = .ok (.ladd, 1) := by decide +kernel
theorem d_Mo_add_111 : decode prog_10_method_17_code 111 = .ok (.lastore, 1) := by decide +kernel
theorem d_Mo_add_112 : decode prog_10_method_17_code 112 = .ok (.iinc 5 1, 3) := by decide +kernel
theorem d_Mo_add_115 : decode prog_10_method_17_code 115 = .ok (.goto (-55), 3) := by decide +kernel
theorem d_Mo_add_118 : decode prog_10_method_17_code 118 = .ok (.aload_n 0, 1) := by decide +kernel
theorem d_Mo_add_119 : decode prog_10_method_17_code 119 = .ok (.iload_n 1, 1) := by decide +kernel
theorem d_Mo_add_120 : decode prog_10_method_17_code 120 = .ok (.aload_n 0, 1) := by decide +kernel
theorem d_Mo_add_121 : decode prog_10_method_17_code 121 = .ok (.getfield 35, 3) := by decide +kernel
theorem d_Mo_add_124 : decode prog_10_method_17_code 124 = .ok (.iconst 2, 1) := by decide +kernel
theorem d_Mo_add_125 : decode prog_10_method_17_code 125 = .ok (.invokevirtual 116, 3) := by decide +kernel
theorem d_Mo_add_128 : decode prog_10_method_17_code 128 = .ok (.ireturn, 1) := by decide +kernel
def B_Mo_add_60 (P : Int32 → zM → zN → Prop) (a1 : Int32) (a4 : Int32) (N : zN) (k60 : Int32 → zM → Prop) (v5 : Int32) (M : zM) : Prop := ((16 : Int32) ≤ v5 → w_Mo_settle a1 108 (2 : Int32) M N (fun r17 N19 => P r17 M N19)) ∧ (¬ (16 : Int32) ≤ v5 → (a4 = 0 → vp_in v5 (zlong 106) ∧ vp_in v5 (zlong 107) ∧ vp_in v5 (zlong 108) ∧ ∀ M20 : zM, M20 = zput M 108 v5.toNatClampNeg ((M 106 v5.toNatClampNeg) + (M 107 v5.toNatClampNeg)) → k60 (v5 + (1 : Int32)) M20) ∧ (¬ a4 = 0 → vp_in v5 (zlong 106) ∧ vp_in v5 (zlong 107) ∧ vp_in v5 (zlong 108) ∧ ∀ M21 : zM, M21 = zput M 108 v5.toNatClampNeg ((M 106 v5.toNatClampNeg) - (M 107 v5.toNatClampNeg)) → k60 (v5 + (1 : Int32)) M21))
def L_Mo_add_60 (P : Int32 → zM → zN → Prop) (a1 : Int32) (a4 : Int32) (N : zN) (n : Nat) : Int32 → zM → Prop := Nat.rec (fun _ _ => False) (fun _ k => B_Mo_add_60 P a1 a4 N k) n
def J_Mo_add_27 (P : Int32 → zM → zN → Prop) (a1 : Int32) (a2 : Int32) (a3 : Int32) (a4 : Int32) (t0 : Int32) (M : zM) (N : zN) : Prop := ∀ N10 : zN, N10 = zpui N 99 0 t0 → ((N10 99 0) ≤ 0 → w_Mo_load a2 106 M N10 (fun M12 => w_Mo_load a3 107 M12 N10 (fun M15 => ∃ n, L_Mo_add_60 P a1 a4 N10 n (0 : Int32) M15))) ∧ (¬ (N10 99 0) ≤ 0 → P (0 : Int32) M N10)
def w_Mo_add (a1 : Int32) (a2 : Int32) (a3 : Int32) (a4 : Int32) (M : zM) (N : zN) (P : Int32 → zM → zN → Prop) : Prop := w_Mo_isRegister a1  (fun r1 => (r1 = 0 → J_Mo_add_27 P a1 a2 a3 a4 (1 : Int32) M N) ∧ (¬ r1 = 0 → w_Mo_isRegister a2  (fun r4 => (r4 = 0 → J_Mo_add_27 P a1 a2 a3 a4 (1 : Int32) M N) ∧ (¬ r4 = 0 → w_Mo_isRegister a3  (fun r7 => (r7 = 0 → J_Mo_add_27 P a1 a2 a3 a4 (1 : Int32) M N) ∧ (¬ r7 = 0 → J_Mo_add_27 P a1 a2 a3 a4 (0 : Int32) M N))))))
def ws_Mo_add : List Cond := .code y_Mo_add prog_10_method_17_code 6 (Option.some Jvm.ClassFile.FieldType.int) :: zall
def rm_Mo_add : Room := { frames := 3, cells := 0, slots := 0, locals := 67 }
theorem hd_Mo_add : y_Mo_add.cls ≠ "java/lang/invoke/MethodHandle" ∧ y_Mo_add.cls ≠ "java/lang/invoke/VarHandle" ∧ (parseMethodDescriptor y_Mo_add.desc).map (fun d => d.parameters.length) = some 4 := by decide +kernel
set_option maxHeartbeats 4000000 in
set_option maxRecDepth 100000 in
theorem c_Mo_add (l : Launch) (G : zG) (b : Nat) (a1 : Int32) (a2 : Int32) (a3 : Int32) (a4 : Int32) (M : zM) (N : zN) {P : Int32 → zM → zN → Prop} (hw : w_Mo_add a1 a2 a3 a4 M N P) : Met l y_Mo_add ws_Mo_add rm_Mo_add (zPc G b M N [.ref (b + 99), .int a1, .int a2, .int a3, .int a4]) (zQi G b (fun r M' N' => P r M' N')) 0 0 (zA b) := by
  refine Met.ofW (cc := prog_10_method_17_code) (maxL := 6) (ret := (Option.some Jvm.ClassFile.FieldType.int)) (by decide) rfl ?_
  intro p e s m args below meth c s₁ B hml hv
  obtain ⟨rfl, hZ, hK, hT⟩ := hv
  have hx := B.exec
  have hb := B.bytes
  have hr := B.returns
  have hts := atoms_spec (ws := ws_Mo_add) B.pre
  have hta : ∀ w ∈ zall, w.before ([.ref (b + 99), .int a1, .int a2, .int a3, .int a4] : List Value).toArray s = true := fun w h => hts w (List.mem_cons_of_mem _ h)
  have hown : s.vm.findClass R_Mo = some m.cls := findClass_of_methodNamed B.named
  have hlocks := B.notSynchronized
  have hS : va_S (zA b) s.heap s.heap [] := va_S.rf
  have hl := lv_entry ([.ref (b + 99), .int a1, .int a2, .int a3, .int a4]) (n := 6) (Nat.le_of_ble_eq_true rfl)
  rw [lg_entry_eq]
  generalize (lg_sl ([.ref (b + 99), .int a1, .int a2, .int a3, .int a4]) ++ List.replicate (6 - (lg_sl ([.ref (b + 99), .int a1, .int a2, .int a3, .int a4])).length) Slot.unset).toArray = ls at hl ⊢
  have hl : lv_has ls 6 [(0, .ref (b + 99)), (1, .int a1), (2, .int a2), (3, .int a3), (4, .int a4)] := hl
  have lp60 : ∀ (N : zN) (n : Nat) (v5 : Int32) (M : zM) (H : Heap) (ls : Array Slot) (locs : List Loc), va_P G.1 zCl (zws G b M N) H → va_S (zA b) s.heap H locs → lv_has ls 6 [(0, .ref (b + 99)), (1, .int a1), (4, .int a4), (5, .int v5)] → L_Mo_add_60 P a1 a4 N n v5 M → W p l e (headSpec ws_Mo_add rm_Mo_add).room s m ([.ref (b + 99), .int a1, .int a2, .int a3, .int a4] : List Value).toArray below meth c H locs 0 0 (MQ below (zQi G b (fun r M' N' => P r M' N')) ([.ref (b + 99), .int a1, .int a2, .int a3, .int a4] : List Value).toArray s 0 0 (zA b)) (F0 m 60 ls []) := by
    intro N n
    induction n with
    | zero => intro v5 M H ls locs hZ hS hl hw; exact False.elim hw
    | succ n60 ih60 =>
      intro v5 M H ls locs hZ hS hl hw
      have hw : B_Mo_add_60 P a1 a4 N (L_Mo_add_60 P a1 a4 N n60) v5 M := hw
      unfold B_Mo_add_60 at hw
      refine lv_iload (pc := 60) hx hb d_Mo_add_60 (lv_at hl 3 rfl) ?_
      refine lv_bipush (pc := 62) (v := 16) hx hb d_Mo_add_62 (by decide) ?_
      refine lv_icmp_ge (pc := 64) (tgt := 118) hx hb d_Mo_add_64 (by decide) (fun hc => ?_) (fun hc => ?_)
      · have hw := hw.1 hc
        refine lv_aload_n (pc := 118) hx hb d_Mo_add_118 rfl (lv_at hl 0 rfl) ?_
        refine lv_iload_n (pc := 119) hx hb d_Mo_add_119 rfl (lv_at hl 1 rfl) ?_
        refine lv_aload_n (pc := 120) hx hb d_Mo_add_120 rfl (lv_at hl 0 rfl) ?_
        refine zg_Mo_35 (pc := 121) hx hb hta hown hK hZ d_Mo_add_121 ?_
        refine lv_iconst (pc := 124) (v := 2) hx hb d_Mo_add_124 (by decide) ?_
        refine z_calli (pc := 125) (va_runV (C := R_Mo) (b := b + 99) (As := [.int a1, .ref (b + 108), .int (2 : Int32)]) (rest := []) ⟨hx, hb, hml, hown, hts⟩ (c_Mo_settle l G b a1 108 (2 : Int32) M N hw) (cwV 3 hts (z_good (zgV wd829 wd831 wsel19 wd7 wd832)) rfl rfl rfl ⟨rfl, hd_Mo_settle⟩ ⟨Nat.le_of_ble_eq_true rfl, Nat.le_of_ble_eq_true rfl⟩) (z_preV zo_Mo rfl rfl hZ hK hT hS) rfl rfl hl.1 rfl (lv_room (Nat.le_of_ble_eq_true rfl)) d_Mo_add_125 ⟨Nat.le_of_ble_eq_true rfl, Nat.le_of_ble_eq_true rfl⟩) hS (fun r17 M18 N19 H locs hw hZ hS => ?_)
        obtain ⟨hw, eM18⟩ := hw
        rw [eM18] at hZ
        exact z_iret hx hb hr hlocks hK hT hZ hS hw d_Mo_add_128
      · have hw := hw.2 hc
        refine lv_aload_n (pc := 67) hx hb d_Mo_add_67 rfl (lv_at hl 0 rfl) ?_
        refine zg_Mo_35 (pc := 68) hx hb hta hown hK hZ d_Mo_add_68 ?_
        refine lv_iload (pc := 71) hx hb d_Mo_add_71 (lv_at hl 3 rfl) ?_
        refine lv_iload (pc := 73) hx hb d_Mo_add_73 (lv_at hl 2 rfl) ?_
        refine lv_if_eq (pc := 75) (tgt := 96) hx hb d_Mo_add_75 (by decide) (fun hc => ?_) (fun hc => ?_)
        · have hw := hw.1 hc
          refine lv_aload_n (pc := 96) hx hb d_Mo_add_96 rfl (lv_at hl 0 rfl) ?_
          refine zg_Mo_29 (pc := 97) hx hb hta hown hK hZ d_Mo_add_97 ?_
          refine lv_iload (pc := 100) hx hb d_Mo_add_100 (lv_at hl 3 rfl) ?_
          obtain ⟨hc, hw⟩ := hw
          refine z_lald (pc := 102) hx hb hK hZ hc d_Mo_add_102 ?_
          refine lv_aload_n (pc := 103) hx hb d_Mo_add_103 rfl (lv_at hl 0 rfl) ?_
          refine zg_Mo_32 (pc := 104) hx hb hta hown hK hZ d_Mo_add_104 ?_
          refine lv_iload (pc := 107) hx hb d_Mo_add_107 (lv_at hl 3 rfl) ?_
          obtain ⟨hc, hw⟩ := hw
          refine z_lald (pc := 109) hx hb hK hZ hc d_Mo_add_109 ?_
          refine lv_ladd (pc := 110) hx hb d_Mo_add_110 ?_
          obtain ⟨hc, hw⟩ := hw
          refine z_last (pc := 111) hx hb hK hZ hS hc d_Mo_add_111 (fun M20 H locs hM20 hZ hS => ?_)
          have hw := hw M20 hM20
          refine lv_iinc (pc := 112) (k := 3) (v := v5 + (1 : Int32)) (lv' := [(5, .int (v5 + (1 : Int32))), (0, .ref (b + 99)), (1, .int a1), (4, .int a4)]) hx hb d_Mo_add_112 hl rfl (by rfl) (by decide) rfl (fun ls hl => ?_)
          refine lv_goto (pc := 115) (tgt := 60) hx hb d_Mo_add_115 (by decide) ?_
          exact ih60 (v5 + (1 : Int32)) M20 _ _ _ hZ hS (lv_sub hl [1, 2, 3, 0] rfl) hw
        · have hw := hw.2 hc
          refine lv_aload_n (pc := 78) hx hb d_Mo_add_78 rfl (lv_at hl 0 rfl) ?_
          refine zg_Mo_29 (pc := 79) hx hb hta hown hK hZ d_Mo_add_79 ?_
          refine lv_iload (pc := 82) hx hb d_Mo_add_82 (lv_at hl 3 rfl) ?_
          obtain ⟨hc, hw⟩ := hw
          refine z_lald (pc := 84) hx hb hK hZ hc d_Mo_add_84 ?_
          refine lv_aload_n (pc := 85) hx hb d_Mo_add_85 rfl (lv_at hl 0 rfl) ?_
          refine zg_Mo_32 (pc := 86) hx hb hta hown hK hZ d_Mo_add_86 ?_
          refine lv_iload (pc := 89) hx hb d_Mo_add_89 (lv_at hl 3 rfl) ?_
          obtain ⟨hc, hw⟩ := hw
          refine z_lald (pc := 91) hx hb hK hZ hc d_Mo_add_91 ?_
          refine lv_lsub (pc := 92) hx hb d_Mo_add_92 ?_
          refine lv_goto (pc := 93) (tgt := 111) hx hb d_Mo_add_93 (by decide) ?_
          obtain ⟨hc, hw⟩ := hw
          refine z_last (pc := 111) hx hb hK hZ hS hc d_Mo_add_111 (fun M21 H locs hM21 hZ hS => ?_)
          have hw := hw M21 hM21
          refine lv_iinc (pc := 112) (k := 3) (v := v5 + (1 : Int32)) (lv' := [(5, .int (v5 + (1 : Int32))), (0, .ref (b + 99)), (1, .int a1), (4, .int a4)]) hx hb d_Mo_add_112 hl rfl (by rfl) (by decide) rfl (fun ls hl => ?_)
          refine lv_goto (pc := 115) (tgt := 60) hx hb d_Mo_add_115 (by decide) ?_
          exact ih60 (v5 + (1 : Int32)) M21 _ _ _ hZ hS (lv_sub hl [1, 2, 3, 0] rfl) hw
  have j27 : ∀ (t0 : Int32) (M : zM) (N : zN) (H : Heap) (ls : Array Slot) (locs : List Loc), va_P G.1 zCl (zws G b M N) H → va_S (zA b) s.heap H locs → lv_has ls 6 [(0, .ref (b + 99)), (1, .int a1), (2, .int a2), (3, .int a3), (4, .int a4)] → J_Mo_add_27 P a1 a2 a3 a4 t0 M N → W p l e (headSpec ws_Mo_add rm_Mo_add).room s m ([.ref (b + 99), .int a1, .int a2, .int a3, .int a4] : List Value).toArray below meth c H locs 0 0 (MQ below (zQi G b (fun r M' N' => P r M' N')) ([.ref (b + 99), .int a1, .int a2, .int a3, .int a4] : List Value).toArray s 0 0 (zA b)) (F0 m 27 ls [.int t0, .ref (b + 99)]) := by
    intro t0 M N H ls locs hZ hS hl hw
    unfold J_Mo_add_27 at hw
    refine zp_Mo_78 (pc := 27) hx hb hta hown hK hZ hS d_Mo_add_27 (fun N10 H locs hN10 hZ hS => ?_)
    have hw := hw N10 hN10
    refine lv_aload_n (pc := 30) hx hb d_Mo_add_30 rfl (lv_at hl 0 rfl) ?_
    refine zg_Mo_78 (pc := 31) hx hb hta hown hK hZ d_Mo_add_31 ?_
    refine lv_if_le (pc := 34) (tgt := 39) hx hb d_Mo_add_34 (by decide) (fun hc => ?_) (fun hc => ?_)
    · have hw := hw.1 hc
      refine lv_aload_n (pc := 39) hx hb d_Mo_add_39 rfl (lv_at hl 0 rfl) ?_
      refine lv_iload_n (pc := 40) hx hb d_Mo_add_40 rfl (lv_at hl 2 rfl) ?_
      refine lv_aload_n (pc := 41) hx hb d_Mo_add_41 rfl (lv_at hl 0 rfl) ?_
      refine zg_Mo_29 (pc := 42) hx hb hta hown hK hZ d_Mo_add_42 ?_
      refine z_callv (pc := 45) (va_runV (C := R_Mo) (b := b + 99) (As := [.int a2, .ref (b + 106)]) (rest := []) ⟨hx, hb, hml, hown, hts⟩ (c_Mo_load l G b a2 106 M N10 hw) (cwV 2 hts (z_good (zgV wd810 wd812 wsel18 wd7 wd813)) rfl rfl rfl ⟨rfl, hd_Mo_load⟩ ⟨Nat.le_of_ble_eq_true rfl, Nat.le_of_ble_eq_true rfl⟩) (z_preV zo_Mo rfl rfl hZ hK hT hS) rfl rfl hl.1 rfl (lv_room (Nat.le_of_ble_eq_true rfl)) d_Mo_add_45 ⟨Nat.le_of_ble_eq_true rfl, Nat.le_of_ble_eq_true rfl⟩) hS (fun M12 N13 H locs hw hZ hS => ?_)
      obtain ⟨hw, eN13⟩ := hw
      rw [eN13] at hZ
      refine lv_aload_n (pc := 48) hx hb d_Mo_add_48 rfl (lv_at hl 0 rfl) ?_
      refine lv_iload_n (pc := 49) hx hb d_Mo_add_49 rfl (lv_at hl 3 rfl) ?_
      refine lv_aload_n (pc := 50) hx hb d_Mo_add_50 rfl (lv_at hl 0 rfl) ?_
      refine zg_Mo_32 (pc := 51) hx hb hta hown hK hZ d_Mo_add_51 ?_
      refine z_callv (pc := 54) (va_runV (C := R_Mo) (b := b + 99) (As := [.int a3, .ref (b + 107)]) (rest := []) ⟨hx, hb, hml, hown, hts⟩ (c_Mo_load l G b a3 107 M12 N10 hw) (cwV 2 hts (z_good (zgV wd810 wd812 wsel18 wd7 wd813)) rfl rfl rfl ⟨rfl, hd_Mo_load⟩ ⟨Nat.le_of_ble_eq_true rfl, Nat.le_of_ble_eq_true rfl⟩) (z_preV zo_Mo rfl rfl hZ hK hT hS) rfl rfl hl.1 rfl (lv_room (Nat.le_of_ble_eq_true rfl)) d_Mo_add_54 ⟨Nat.le_of_ble_eq_true rfl, Nat.le_of_ble_eq_true rfl⟩) hS (fun M15 N16 H locs hw hZ hS => ?_)
      obtain ⟨hw, eN16⟩ := hw
      rw [eN16] at hZ
      refine lv_iconst (pc := 57) (v := 0) hx hb d_Mo_add_57 (by decide) ?_
      refine lv_istore (pc := 58) (lv' := [(5, .int (0 : Int32)), (0, .ref (b + 99)), (1, .int a1), (2, .int a2), (3, .int a3), (4, .int a4)]) hx hb d_Mo_add_58 hl (by decide) rfl (fun ls hl => ?_)
      obtain ⟨n, hw⟩ := hw
      exact lp60 N10 n (0 : Int32) M15 _ _ _ hZ hS (lv_sub hl [1, 2, 5, 0] rfl) hw
    · have hw := hw.2 hc
      refine lv_iconst (pc := 37) (v := 0) hx hb d_Mo_add_37 (by decide) ?_
      exact z_iret hx hb hr hlocks hK hT hZ hS hw d_Mo_add_38
  unfold w_Mo_add at hw
  refine lv_aload_n (pc := 0) hx hb d_Mo_add_0 rfl (lv_at hl 0 rfl) ?_
  refine lv_iload_n (pc := 1) hx hb d_Mo_add_1 rfl (lv_at hl 1 rfl) ?_
  refine z_calli (pc := 2) (va_runS (As := [.int a1]) (rest := [.ref (b + 99)]) ⟨hx, hb, hml, hown, hts⟩ (c_Mo_isRegister l G b a1 M N hw) (va_cwS 1 hts (z_good (zgS wd805 wd806 wd7 wd807)) rfl rfl rfl hd_Mo_isRegister ⟨Nat.le_of_ble_eq_true rfl, Nat.le_of_ble_eq_true rfl⟩) (z_preS hZ hK hT hS) rfl rfl hl.1 rfl (lv_room (Nat.le_of_ble_eq_true rfl)) d_Mo_add_2 ⟨Nat.le_of_ble_eq_true rfl, Nat.le_of_ble_eq_true rfl⟩) hS (fun r1 M2 N3 H locs hw hZ hS => ?_)
  obtain ⟨hw, eM2, eN3⟩ := hw
  rw [eM2, eN3] at hZ
  refine lv_if_eq (pc := 5) (tgt := 26) hx hb d_Mo_add_5 (by decide) (fun hc => ?_) (fun hc => ?_)
  · have hw := hw.1 hc
    refine lv_iconst (pc := 26) (v := 1) hx hb d_Mo_add_26 (by decide) ?_
    exact j27 (1 : Int32) M N _ _ _ hZ hS hl hw
  · have hw := hw.2 hc
    refine lv_iload_n (pc := 8) hx hb d_Mo_add_8 rfl (lv_at hl 2 rfl) ?_
    refine z_calli (pc := 9) (va_runS (As := [.int a2]) (rest := [.ref (b + 99)]) ⟨hx, hb, hml, hown, hts⟩ (c_Mo_isRegister l G b a2 M N hw) (va_cwS 1 hts (z_good (zgS wd805 wd806 wd7 wd807)) rfl rfl rfl hd_Mo_isRegister ⟨Nat.le_of_ble_eq_true rfl, Nat.le_of_ble_eq_true rfl⟩) (z_preS hZ hK hT hS) rfl rfl hl.1 rfl (lv_room (Nat.le_of_ble_eq_true rfl)) d_Mo_add_9 ⟨Nat.le_of_ble_eq_true rfl, Nat.le_of_ble_eq_true rfl⟩) hS (fun r4 M5 N6 H locs hw hZ hS => ?_)
    obtain ⟨hw, eM5, eN6⟩ := hw
    rw [eM5, eN6] at hZ
    refine lv_if_eq (pc := 12) (tgt := 26) hx hb d_Mo_add_12 (by decide) (fun hc => ?_) (fun hc => ?_)
    · have hw := hw.1 hc
      refine lv_iconst (pc := 26) (v := 1) hx hb d_Mo_add_26 (by decide) ?_
      exact j27 (1 : Int32) M N _ _ _ hZ hS hl hw
    · have hw := hw.2 hc
      refine lv_iload_n (pc := 15) hx hb d_Mo_add_15 rfl (lv_at hl 3 rfl) ?_
      refine z_calli (pc := 16) (va_runS (As := [.int a3]) (rest := [.ref (b + 99)]) ⟨hx, hb, hml, hown, hts⟩ (c_Mo_isRegister l G b a3 M N hw) (va_cwS 1 hts (z_good (zgS wd805 wd806 wd7 wd807)) rfl rfl rfl hd_Mo_isRegister ⟨Nat.le_of_ble_eq_true rfl, Nat.le_of_ble_eq_true rfl⟩) (z_preS hZ hK hT hS) rfl rfl hl.1 rfl (lv_room (Nat.le_of_ble_eq_true rfl)) d_Mo_add_16 ⟨Nat.le_of_ble_eq_true rfl, Nat.le_of_ble_eq_true rfl⟩) hS (fun r7 M8 N9 H locs hw hZ hS => ?_)
      obtain ⟨hw, eM8, eN9⟩ := hw
      rw [eM8, eN9] at hZ
      refine lv_if_eq (pc := 19) (tgt := 26) hx hb d_Mo_add_19 (by decide) (fun hc => ?_) (fun hc => ?_)
      · have hw := hw.1 hc
        refine lv_iconst (pc := 26) (v := 1) hx hb d_Mo_add_26 (by decide) ?_
        exact j27 (1 : Int32) M N _ _ _ hZ hS hl hw
      · have hw := hw.2 hc
        refine lv_iconst (pc := 22) (v := 0) hx hb d_Mo_add_22 (by decide) ?_
        refine lv_goto (pc := 23) (tgt := 27) hx hb d_Mo_add_23 (by decide) ?_
        exact j27 (0 : Int32) M N _ _ _ hZ hS hl hw
theorem d_Mo_multiply_0 : decode prog_10_method_18_code 0 = .ok (.aload_n 0, 1) := by decide +kernel
theorem d_Mo_multiply_1 : decode prog_10_method_18_code 1 = .ok (.iload_n 1, 1) := by decide +kernel
theorem d_Mo_multiply_2 : decode prog_10_method_18_code 2 = .ok (.invokestatic 98, 3) := by decide +kernel
theorem d_Mo_multiply_5 : decode prog_10_method_18_code 5 = .ok (.ifCond .eq 21, 3) := by decide +kernel
theorem d_Mo_multiply_8 : decode prog_10_method_18_code 8 = .ok (.iload_n 2, 1) := by decide +kernel
theorem d_Mo_multiply_9 : decode prog_10_method_18_code 9 = .ok (.invokestatic 98, 3) := by decide +kernel
theorem d_Mo_multiply_12 : decode prog_10_method_18_code 12 = .ok (.ifCond .eq 14, 3) := by decide +kernel
theorem d_Mo_multiply_15 : decode prog_10_method_18_code 15 = .ok (.iload_n 3, 1) := by decide +kernel
theorem d_Mo_multiply_16 : decode prog_10_method_18_code 16 = .ok (.invokestatic 98, 3) := by decide +kernel
theorem d_Mo_multiply_19 : decode prog_10_method_18_code 19 = .ok (.ifCond .eq 7, 3) := by decide +kernel
theorem d_Mo_multiply_22 : decode prog_10_method_18_code 22 = .ok (.iconst 0, 1) := by decide +kernel
theorem d_Mo_multiply_23 : decode prog_10_method_18_code 23 = .ok (.goto 4, 3) := by decide +kernel
theorem d_Mo_multiply_26 : decode prog_10_method_18_code 26 = .ok (.iconst 1, 1) := by decide +kernel
theorem d_Mo_multiply_27 : decode prog_10_method_18_code 27 = .ok (.putfield 78, 3) := by decide +kernel
theorem d_Mo_multiply_30 : decode prog_10_method_18_code 30 = .ok (.aload_n 0, 1) := by decide +kernel
theorem d_Mo_multiply_31 : decode prog_10_method_18_code 31 = .ok (.getfield 78, 3) := by decide +kernel
theorem d_Mo_multiply_34 : decode prog_10_method_18_code 34 = .ok (.ifCond .le 5, 3) := by decide +kernel
theorem d_Mo_multiply_37 : decode prog_10_method_18_code 37 = .ok (.iconst 0, 1) := by decide +kernel
theorem d_Mo_multiply_38 : decode prog_10_method_18_code 38 = .ok (.ireturn, 1) := by decide +kernel
theorem d_Mo_multiply_39 : decode prog_10_method_18_code 39 = .ok (.aload_n 0, 1) := by decide +kernel
theorem d_Mo_multiply_40 : decode prog_10_method_18_code 40 = .ok (.iload_n 2, 1) := by decide +kernel
theorem d_Mo_multiply_41 : decode prog_10_method_18_code 41 = .ok (.aload_n 0, 1) := by decide +kernel
theorem d_Mo_multiply_42 : decode prog_10_method_18_code 42 = .ok (.getfield 29, 3) := by decide +kernel
theorem d_Mo_multiply_45 : decode prog_10_method_18_code 45 = .ok (.invokevirtual 104, 3) := by decide +kernel
theorem d_Mo_multiply_48 : decode prog_10_method_18_code 48 = .ok (.aload_n 0, 1) := by decide +kernel
theorem d_Mo_multiply_49 : decode prog_10_method_18_code 49 = .ok (.iload_n 3, 1) := by decide +kernel
theorem d_Mo_multiply_50 : decode prog_10_method_18_code 50 = .ok (.aload_n 0, 1) := by decide +kernel
theorem d_Mo_multiply_51 : decode prog_10_method_18_code 51 = .ok (.getfield 32, 3) := by decide +kernel
theorem d_Mo_multiply_54 : decode prog_10_method_18_code 54 = .ok (.invokevirtual 104, 3) := by decide +kernel
theorem d_Mo_multiply_57 : decode prog_10_method_18_code 57 = .ok (.iconst 0, 1) := by decide +kernel
theorem d_Mo_multiply_58 : decode prog_10_method_18_code 58 = .ok (.istore 4, 2) := by decide +kernel
theorem d_Mo_multiply_60 : decode prog_10_method_18_code 60 = .ok (.iload 4, 2) := by decide +kernel
theorem d_Mo_multiply_62 : decode prog_10_method_18_code 62 = .ok (.bipush 16, 2) := by decide +kernel
theorem d_Mo_multiply_64 : decode prog_10_method_18_code 64 = .ok (.if_icmp .ge 73, 3) := by decide +kernel
theorem d_Mo_multiply_67 : decode prog_10_method_18_code 67 = .ok (.aload_n 0, 1) := by decide +kernel
theorem d_Mo_multiply_68 : decode prog_10_method_18_code 68 = .ok (.getfield 35, 3) := by decide +kernel
theorem d_Mo_multiply_71 : decode prog_10_method_18_code 71 = .ok (.iload 4, 2) := by decide +kernel
theorem d_Mo_multiply_73 : decode prog_10_method_18_code 73 = .ok (.lconst 0, 1) := by decide +kernel
theorem d_Mo_multiply_74 : decode prog_10_method_18_code 74 = .ok (.lastore, 1) := by decide +kernel
theorem d_Mo_multiply_75 : decode prog_10_method_18_code 75 = .ok (.iconst 0, 1) := by decide +kernel
theorem d_Mo_multiply_76 : decode prog_10_method_18_code 76 = .ok (.istore 5, 2) := by decide +kernel
theorem d_Mo_multiply_78 : decode prog_10_method_18_code 78 = .ok (.iload 5, 2) := by decide +kernel
theorem d_Mo_multiply_80 : decode prog_10_method_18_code 80 = .ok (.iload 4, 2) := by decide +kernel
theorem d_Mo_multiply_82 : decode prog_10_method_18_code 82 = .ok (.if_icmp .gt 49, 3) := by decide +kernel
theorem d_Mo_multiply_85 : decode prog_10_method_18_code 85 = .ok (.iload 5, 2) := by decide +kernel
theorem d_Mo_multiply_87 : decode prog_10_method_18_code 87 = .ok (.bipush 8, 2) := by decide +kernel
theorem d_Mo_multiply_89 : decode prog_10_method_18_code 89 = .ok (.if_icmp .ge 42, 3) := by decide +kernel
theorem d_Mo_multiply_92 : decode prog_10_method_18_code 92 = .ok (.aload_n 0, 1) := by decide +kernel
theorem d_Mo_multiply_93 : decode prog_10_method_18_code 93 = .ok (.getfield 35, 3) := by decide +kernel
theorem d_Mo_multiply_96 : decode prog_10_method_18_code 96 = .ok (.iload 4, 2) := by decide +kernel
theorem d_Mo_multiply_98 : decode prog_10_method_18_code 98 = .ok (.aload_n 0, 1) := by decide +kernel
theorem d_Mo_multiply_99 : decode prog_10_method_18_code 99 = .ok (.getfield 35, 3) := by decide +kernel
theorem d_Mo_multiply_102 : decode prog_10_method_18_code 102 = .ok (.iload 4, 2) := by decide +kernel
theorem d_Mo_multiply_104 : decode prog_10_method_18_code 104 = .ok (.laload, 1) := by decide +kernel
theorem d_Mo_multiply_105 : decode prog_10_method_18_code 105 = .ok (.aload_n 0, 1) := by decide +kernel
theorem d_Mo_multiply_106 : decode prog_10_method_18_code 106 = .ok (.getfield 29, 3) := by decide +kernel
theorem d_Mo_multiply_109 : decode prog_10_method_18_code 109 = .ok (.iload 5, 2) := by decide +kernel
theorem d_Mo_multiply_111 : decode prog_10_method_18_code 111 = .ok (.laload, 1) := by decide +kernel
theorem d_Mo_multiply_112 : decode prog_10_method_18_code 112 = .ok (.aload_n 0, 1) := by decide +kernel
theorem d_Mo_multiply_113 : decode prog_10_method_18_code 113 = .ok (.getfield 32, 3) := by decide +kernel
theorem d_Mo_multiply_116 : decode prog_10_method_18_code 116 = .ok (.iload 4, 2) := by decide +kernel
theorem d_Mo_multiply_118 : decode prog_10_method_18_code 118 = .ok (.iload 5, 2) := by decide +kernel
theorem d_Mo_multiply_120 : decode prog_10_method_18_code 120 = .ok (.isub, 1) := by decide +kernel
theorem d_Mo_multiply_121 : decode prog_10_method_18_code 121 = .ok (.laload, 1) := by decide +kernel
theorem d_Mo_multiply_122 : decode prog_10_method_18_code 122 = .ok (.lmul, 1) := by decide +kernel
theorem d_Mo_multiply_123 : decode prog_10_method_18_code 123 = .ok (.ladd, 1) := by decide +kernel
theorem d_Mo_multiply_124 : decode prog_10_method_18_code 124 = .ok (.lastore, 1) := by decide +kernel
theorem d_Mo_multiply_125 : decode prog_10_method_18_code 125 = .ok (.iinc 5 1, 3) := by decide +kernel
theorem d_Mo_multiply_128 : decode prog_10_method_18_code 128 = .ok (.goto (-50), 3) := by decide +kernel
theorem d_Mo_multiply_131 : decode prog_10_method_18_code 131 = .ok (.iinc 4 1, 3) := by decide +kernel
theorem d_Mo_multiply_134 : decode prog_10_method_18_code 134 = .ok (.goto (-74), 3) := by decide +kernel
theorem d_Mo_multiply_137 : decode prog_10_method_18_code 137 = .ok (.aload_n 0, 1) := by decide +kernel
theorem d_Mo_multiply_138 : decode prog_10_method_18_code 138 = .ok (.iload_n 1, 1) := by decide +kernel
theorem d_Mo_multiply_139 : decode prog_10_method_18_code 139 = .ok (.aload_n 0, 1) := by decide +kernel
theorem d_Mo_multiply_140 : decode prog_10_method_18_code 140 = .ok (.getfield 35, 3) := by decide +kernel
theorem d_Mo_multiply_143 : decode prog_10_method_18_code 143 = .ok (.iconst 2, 1) := by decide +kernel
theorem d_Mo_multiply_144 : decode prog_10_method_18_code 144 = .ok (.invokevirtual 116, 3) := by decide +kernel
theorem d_Mo_multiply_147 : decode prog_10_method_18_code 147 = .ok (.ireturn, 1) := by decide +kernel
def B_Mo_multiply_78 (P : Int32 → zM → zN → Prop) (k60 : Int32 → zM → Prop) (a1 : Int32) (v4 : Int32) (N : zN) (k78 : Int32 → zM → Prop) (v5 : Int32) (M : zM) : Prop := (v4 < v5 → k60 (v4 + (1 : Int32)) M) ∧ (¬ v4 < v5 → ((8 : Int32) ≤ v5 → k60 (v4 + (1 : Int32)) M) ∧ (¬ (8 : Int32) ≤ v5 → vp_in v4 (zlong 108) ∧ vp_in v5 (zlong 106) ∧ vp_in (v4 - v5) (zlong 107) ∧ vp_in v4 (zlong 108) ∧ ∀ M21 : zM, M21 = zput M 108 v4.toNatClampNeg ((M 108 v4.toNatClampNeg) + ((M 106 v5.toNatClampNeg) * (M 107 (v4 - v5).toNatClampNeg))) → k78 (v5 + (1 : Int32)) M21))
def L_Mo_multiply_78 (P : Int32 → zM → zN → Prop) (k60 : Int32 → zM → Prop) (a1 : Int32) (v4 : Int32) (N : zN) (n : Nat) : Int32 → zM → Prop := Nat.rec (fun _ _ => False) (fun _ k => B_Mo_multiply_78 P k60 a1 v4 N k) n
def B_Mo_multiply_60 (P : Int32 → zM → zN → Prop) (a1 : Int32) (N : zN) (k60 : Int32 → zM → Prop) (v4 : Int32) (M : zM) : Prop := ((16 : Int32) ≤ v4 → w_Mo_settle a1 108 (2 : Int32) M N (fun r17 N19 => P r17 M N19)) ∧ (¬ (16 : Int32) ≤ v4 → vp_in v4 (zlong 108) ∧ ∀ M20 : zM, M20 = zput M 108 v4.toNatClampNeg (0 : Int64) → ∃ n, L_Mo_multiply_78 P k60 a1 v4 N n (0 : Int32) M20)
def L_Mo_multiply_60 (P : Int32 → zM → zN → Prop) (a1 : Int32) (N : zN) (n : Nat) : Int32 → zM → Prop := Nat.rec (fun _ _ => False) (fun _ k => B_Mo_multiply_60 P a1 N k) n
def J_Mo_multiply_27 (P : Int32 → zM → zN → Prop) (a1 : Int32) (a2 : Int32) (a3 : Int32) (t0 : Int32) (M : zM) (N : zN) : Prop := ∀ N10 : zN, N10 = zpui N 99 0 t0 → ((N10 99 0) ≤ 0 → w_Mo_load a2 106 M N10 (fun M12 => w_Mo_load a3 107 M12 N10 (fun M15 => ∃ n, L_Mo_multiply_60 P a1 N10 n (0 : Int32) M15))) ∧ (¬ (N10 99 0) ≤ 0 → P (0 : Int32) M N10)
def w_Mo_multiply (a1 : Int32) (a2 : Int32) (a3 : Int32) (M : zM) (N : zN) (P : Int32 → zM → zN → Prop) : Prop := w_Mo_isRegister a1  (fun r1 => (r1 = 0 → J_Mo_multiply_27 P a1 a2 a3 (1 : Int32) M N) ∧ (¬ r1 = 0 → w_Mo_isRegister a2  (fun r4 => (r4 = 0 → J_Mo_multiply_27 P a1 a2 a3 (1 : Int32) M N) ∧ (¬ r4 = 0 → w_Mo_isRegister a3  (fun r7 => (r7 = 0 → J_Mo_multiply_27 P a1 a2 a3 (1 : Int32) M N) ∧ (¬ r7 = 0 → J_Mo_multiply_27 P a1 a2 a3 (0 : Int32) M N))))))
def ws_Mo_multiply : List Cond := .code y_Mo_multiply prog_10_method_18_code 6 (Option.some Jvm.ClassFile.FieldType.int) :: zall
def rm_Mo_multiply : Room := { frames := 3, cells := 0, slots := 0, locals := 67 }
theorem hd_Mo_multiply : y_Mo_multiply.cls ≠ "java/lang/invoke/MethodHandle" ∧ y_Mo_multiply.cls ≠ "java/lang/invoke/VarHandle" ∧ (parseMethodDescriptor y_Mo_multiply.desc).map (fun d => d.parameters.length) = some 3 := by decide +kernel
set_option maxHeartbeats 4000000 in
set_option maxRecDepth 100000 in
theorem c_Mo_multiply (l : Launch) (G : zG) (b : Nat) (a1 : Int32) (a2 : Int32) (a3 : Int32) (M : zM) (N : zN) {P : Int32 → zM → zN → Prop} (hw : w_Mo_multiply a1 a2 a3 M N P) : Met l y_Mo_multiply ws_Mo_multiply rm_Mo_multiply (zPc G b M N [.ref (b + 99), .int a1, .int a2, .int a3]) (zQi G b (fun r M' N' => P r M' N')) 0 0 (zA b) := by
  refine Met.ofW (cc := prog_10_method_18_code) (maxL := 6) (ret := (Option.some Jvm.ClassFile.FieldType.int)) (by decide) rfl ?_
  intro p e s m args below meth c s₁ B hml hv
  obtain ⟨rfl, hZ, hK, hT⟩ := hv
  have hx := B.exec
  have hb := B.bytes
  have hr := B.returns
  have hts := atoms_spec (ws := ws_Mo_multiply) B.pre
  have hta : ∀ w ∈ zall, w.before ([.ref (b + 99), .int a1, .int a2, .int a3] : List Value).toArray s = true := fun w h => hts w (List.mem_cons_of_mem _ h)
  have hown : s.vm.findClass R_Mo = some m.cls := findClass_of_methodNamed B.named
  have hlocks := B.notSynchronized
  have hS : va_S (zA b) s.heap s.heap [] := va_S.rf
  have hl := lv_entry ([.ref (b + 99), .int a1, .int a2, .int a3]) (n := 6) (Nat.le_of_ble_eq_true rfl)
  rw [lg_entry_eq]
  generalize (lg_sl ([.ref (b + 99), .int a1, .int a2, .int a3]) ++ List.replicate (6 - (lg_sl ([.ref (b + 99), .int a1, .int a2, .int a3])).length) Slot.unset).toArray = ls at hl ⊢
  have hl : lv_has ls 6 [(0, .ref (b + 99)), (1, .int a1), (2, .int a2), (3, .int a3)] := hl
  have lp60 : ∀ (N : zN) (n : Nat) (v4 : Int32) (M : zM) (H : Heap) (ls : Array Slot) (locs : List Loc), va_P G.1 zCl (zws G b M N) H → va_S (zA b) s.heap H locs → lv_has ls 6 [(0, .ref (b + 99)), (1, .int a1), (4, .int v4)] → L_Mo_multiply_60 P a1 N n v4 M → W p l e (headSpec ws_Mo_multiply rm_Mo_multiply).room s m ([.ref (b + 99), .int a1, .int a2, .int a3] : List Value).toArray below meth c H locs 0 0 (MQ below (zQi G b (fun r M' N' => P r M' N')) ([.ref (b + 99), .int a1, .int a2, .int a3] : List Value).toArray s 0 0 (zA b)) (F0 m 60 ls []) := by
    intro N n
    induction n with
    | zero => intro v4 M H ls locs hZ hS hl hw; exact False.elim hw
    | succ n60 ih60 =>
      have lp78 : ∀ (v4 : Int32) (n : Nat) (v5 : Int32) (M : zM) (H : Heap) (ls : Array Slot) (locs : List Loc), va_P G.1 zCl (zws G b M N) H → va_S (zA b) s.heap H locs → lv_has ls 6 [(0, .ref (b + 99)), (1, .int a1), (4, .int v4), (5, .int v5)] → L_Mo_multiply_78 P (L_Mo_multiply_60 P a1 N n60) a1 v4 N n v5 M → W p l e (headSpec ws_Mo_multiply rm_Mo_multiply).room s m ([.ref (b + 99), .int a1, .int a2, .int a3] : List Value).toArray below meth c H locs 0 0 (MQ below (zQi G b (fun r M' N' => P r M' N')) ([.ref (b + 99), .int a1, .int a2, .int a3] : List Value).toArray s 0 0 (zA b)) (F0 m 78 ls []) := by
        intro v4 n
        induction n with
        | zero => intro v5 M H ls locs hZ hS hl hw; exact False.elim hw
        | succ n78 ih78 =>
          intro v5 M H ls locs hZ hS hl hw
          have hw : B_Mo_multiply_78 P (L_Mo_multiply_60 P a1 N n60) a1 v4 N (L_Mo_multiply_78 P (L_Mo_multiply_60 P a1 N n60) a1 v4 N n78) v5 M := hw
          unfold B_Mo_multiply_78 at hw
          refine lv_iload (pc := 78) hx hb d_Mo_multiply_78 (lv_at hl 3 rfl) ?_
          refine lv_iload (pc := 80) hx hb d_Mo_multiply_80 (lv_at hl 2 rfl) ?_
          refine lv_icmp_gt (pc := 82) (tgt := 131) hx hb d_Mo_multiply_82 (by decide) (fun hc => ?_) (fun hc => ?_)
          · have hw := hw.1 hc
            refine lv_iinc (pc := 131) (k := 2) (v := v4 + (1 : Int32)) (lv' := [(4, .int (v4 + (1 : Int32))), (0, .ref (b + 99)), (1, .int a1), (5, .int v5)]) hx hb d_Mo_multiply_131 hl rfl (by rfl) (by decide) rfl (fun ls hl => ?_)
            refine lv_goto (pc := 134) (tgt := 60) hx hb d_Mo_multiply_134 (by decide) ?_
            exact ih60 (v4 + (1 : Int32)) M _ _ _ hZ hS (lv_sub hl [1, 2, 0] rfl) hw
          · have hw := hw.2 hc
            refine lv_iload (pc := 85) hx hb d_Mo_multiply_85 (lv_at hl 3 rfl) ?_
            refine lv_bipush (pc := 87) (v := 8) hx hb d_Mo_multiply_87 (by decide) ?_
            refine lv_icmp_ge (pc := 89) (tgt := 131) hx hb d_Mo_multiply_89 (by decide) (fun hc => ?_) (fun hc => ?_)
            · have hw := hw.1 hc
              refine lv_iinc (pc := 131) (k := 2) (v := v4 + (1 : Int32)) (lv' := [(4, .int (v4 + (1 : Int32))), (0, .ref (b + 99)), (1, .int a1), (5, .int v5)]) hx hb d_Mo_multiply_131 hl rfl (by rfl) (by decide) rfl (fun ls hl => ?_)
              refine lv_goto (pc := 134) (tgt := 60) hx hb d_Mo_multiply_134 (by decide) ?_
              exact ih60 (v4 + (1 : Int32)) M _ _ _ hZ hS (lv_sub hl [1, 2, 0] rfl) hw
            · have hw := hw.2 hc
              refine lv_aload_n (pc := 92) hx hb d_Mo_multiply_92 rfl (lv_at hl 0 rfl) ?_
              refine zg_Mo_35 (pc := 93) hx hb hta hown hK hZ d_Mo_multiply_93 ?_
              refine lv_iload (pc := 96) hx hb d_Mo_multiply_96 (lv_at hl 2 rfl) ?_
              refine lv_aload_n (pc := 98) hx hb d_Mo_multiply_98 rfl (lv_at hl 0 rfl) ?_
              refine zg_Mo_35 (pc := 99) hx hb hta hown hK hZ d_Mo_multiply_99 ?_
              refine lv_iload (pc := 102) hx hb d_Mo_multiply_102 (lv_at hl 2 rfl) ?_
              obtain ⟨hc, hw⟩ := hw
              refine z_lald (pc := 104) hx hb hK hZ hc d_Mo_multiply_104 ?_
              refine lv_aload_n (pc := 105) hx hb d_Mo_multiply_105 rfl (lv_at hl 0 rfl) ?_
              refine zg_Mo_29 (pc := 106) hx hb hta hown hK hZ d_Mo_multiply_106 ?_
              refine lv_iload (pc := 109) hx hb d_Mo_multiply_109 (lv_at hl 3 rfl) ?_
              obtain ⟨hc, hw⟩ := hw
              refine z_lald (pc := 111) hx hb hK hZ hc d_Mo_multiply_111 ?_
              refine lv_aload_n (pc := 112) hx hb d_Mo_multiply_112 rfl (lv_at hl 0 rfl) ?_
              refine zg_Mo_32 (pc := 113) hx hb hta hown hK hZ d_Mo_multiply_113 ?_
              refine lv_iload (pc := 116) hx hb d_Mo_multiply_116 (lv_at hl 2 rfl) ?_
              refine lv_iload (pc := 118) hx hb d_Mo_multiply_118 (lv_at hl 3 rfl) ?_
              refine lv_isub (pc := 120) hx hb d_Mo_multiply_120 ?_
              obtain ⟨hc, hw⟩ := hw
              refine z_lald (pc := 121) hx hb hK hZ hc d_Mo_multiply_121 ?_
              refine lv_lmul (pc := 122) hx hb d_Mo_multiply_122 ?_
              refine lv_ladd (pc := 123) hx hb d_Mo_multiply_123 ?_
              obtain ⟨hc, hw⟩ := hw
              refine z_last (pc := 124) hx hb hK hZ hS hc d_Mo_multiply_124 (fun M21 H locs hM21 hZ hS => ?_)
              have hw := hw M21 hM21
              refine lv_iinc (pc := 125) (k := 3) (v := v5 + (1 : Int32)) (lv' := [(5, .int (v5 + (1 : Int32))), (0, .ref (b + 99)), (1, .int a1), (4, .int v4)]) hx hb d_Mo_multiply_125 hl rfl (by rfl) (by decide) rfl (fun ls hl => ?_)
              refine lv_goto (pc := 128) (tgt := 78) hx hb d_Mo_multiply_128 (by decide) ?_
              exact ih78 (v5 + (1 : Int32)) M21 _ _ _ hZ hS (lv_sub hl [1, 2, 3, 0] rfl) hw
      intro v4 M H ls locs hZ hS hl hw
      have hw : B_Mo_multiply_60 P a1 N (L_Mo_multiply_60 P a1 N n60) v4 M := hw
      unfold B_Mo_multiply_60 at hw
      refine lv_iload (pc := 60) hx hb d_Mo_multiply_60 (lv_at hl 2 rfl) ?_
      refine lv_bipush (pc := 62) (v := 16) hx hb d_Mo_multiply_62 (by decide) ?_
      refine lv_icmp_ge (pc := 64) (tgt := 137) hx hb d_Mo_multiply_64 (by decide) (fun hc => ?_) (fun hc => ?_)
      · have hw := hw.1 hc
        refine lv_aload_n (pc := 137) hx hb d_Mo_multiply_137 rfl (lv_at hl 0 rfl) ?_
        refine lv_iload_n (pc := 138) hx hb d_Mo_multiply_138 rfl (lv_at hl 1 rfl) ?_
        refine lv_aload_n (pc := 139) hx hb d_Mo_multiply_139 rfl (lv_at hl 0 rfl) ?_
        refine zg_Mo_35 (pc := 140) hx hb hta hown hK hZ d_Mo_multiply_140 ?_
        refine lv_iconst (pc := 143) (v := 2) hx hb d_Mo_multiply_143 (by decide) ?_
        refine z_calli (pc := 144) (va_runV (C := R_Mo) (b := b + 99) (As := [.int a1, .ref (b + 108), .int (2 : Int32)]) (rest := []) ⟨hx, hb, hml, hown, hts⟩ (c_Mo_settle l G b a1 108 (2 : Int32) M N hw) (cwV 3 hts (z_good (zgV wd829 wd831 wsel19 wd7 wd832)) rfl rfl rfl ⟨rfl, hd_Mo_settle⟩ ⟨Nat.le_of_ble_eq_true rfl, Nat.le_of_ble_eq_true rfl⟩) (z_preV zo_Mo rfl rfl hZ hK hT hS) rfl rfl hl.1 rfl (lv_room (Nat.le_of_ble_eq_true rfl)) d_Mo_multiply_144 ⟨Nat.le_of_ble_eq_true rfl, Nat.le_of_ble_eq_true rfl⟩) hS (fun r17 M18 N19 H locs hw hZ hS => ?_)
        obtain ⟨hw, eM18⟩ := hw
        rw [eM18] at hZ
        exact z_iret hx hb hr hlocks hK hT hZ hS hw d_Mo_multiply_147
      · have hw := hw.2 hc
        refine lv_aload_n (pc := 67) hx hb d_Mo_multiply_67 rfl (lv_at hl 0 rfl) ?_
        refine zg_Mo_35 (pc := 68) hx hb hta hown hK hZ d_Mo_multiply_68 ?_
        refine lv_iload (pc := 71) hx hb d_Mo_multiply_71 (lv_at hl 2 rfl) ?_
        refine lv_lconst (pc := 73) (v := 0) hx hb d_Mo_multiply_73 (by decide) ?_
        obtain ⟨hc, hw⟩ := hw
        refine z_last (pc := 74) hx hb hK hZ hS hc d_Mo_multiply_74 (fun M20 H locs hM20 hZ hS => ?_)
        have hw := hw M20 hM20
        refine lv_iconst (pc := 75) (v := 0) hx hb d_Mo_multiply_75 (by decide) ?_
        refine lv_istore (pc := 76) (lv' := [(5, .int (0 : Int32)), (0, .ref (b + 99)), (1, .int a1), (4, .int v4)]) hx hb d_Mo_multiply_76 hl (by decide) rfl (fun ls hl => ?_)
        obtain ⟨n, hw⟩ := hw
        exact lp78 v4 n (0 : Int32) M20 _ _ _ hZ hS (lv_sub hl [1, 2, 3, 0] rfl) hw
  have j27 : ∀ (t0 : Int32) (M : zM) (N : zN) (H : Heap) (ls : Array Slot) (locs : List Loc), va_P G.1 zCl (zws G b M N) H → va_S (zA b) s.heap H locs → lv_has ls 6 [(0, .ref (b + 99)), (1, .int a1), (2, .int a2), (3, .int a3)] → J_Mo_multiply_27 P a1 a2 a3 t0 M N → W p l e (headSpec ws_Mo_multiply rm_Mo_multiply).room s m ([.ref (b + 99), .int a1, .int a2, .int a3] : List Value).toArray below meth c H locs 0 0 (MQ below (zQi G b (fun r M' N' => P r M' N')) ([.ref (b + 99), .int a1, .int a2, .int a3] : List Value).toArray s 0 0 (zA b)) (F0 m 27 ls [.int t0, .ref (b + 99)]) := by
    intro t0 M N H ls locs hZ hS hl hw
    unfold J_Mo_multiply_27 at hw
    refine zp_Mo_78 (pc := 27) hx hb hta hown hK hZ hS d_Mo_multiply_27 (fun N10 H locs hN10 hZ hS => ?_)
    have hw := hw N10 hN10
    refine lv_aload_n (pc := 30) hx hb d_Mo_multiply_30 rfl (lv_at hl 0 rfl) ?_
    refine zg_Mo_78 (pc := 31) hx hb hta hown hK hZ d_Mo_multiply_31 ?_
    refine lv_if_le (pc := 34) (tgt := 39) hx hb d_Mo_multiply_34 (by decide) (fun hc => ?_) (fun hc => ?_)
    · have hw := hw.1 hc
      refine lv_aload_n (pc := 39) hx hb d_Mo_multiply_39 rfl (lv_at hl 0 rfl) ?_
      refine lv_iload_n (pc := 40) hx hb d_Mo_multiply_40 rfl (lv_at hl 2 rfl) ?_
      refine lv_aload_n (pc := 41) hx hb d_Mo_multiply_41 rfl (lv_at hl 0 rfl) ?_
      refine zg_Mo_29 (pc := 42) hx hb hta hown hK hZ d_Mo_multiply_42 ?_
      refine z_callv (pc := 45) (va_runV (C := R_Mo) (b := b + 99) (As := [.int a2, .ref (b + 106)]) (rest := []) ⟨hx, hb, hml, hown, hts⟩ (c_Mo_load l G b a2 106 M N10 hw) (cwV 2 hts (z_good (zgV wd810 wd812 wsel18 wd7 wd813)) rfl rfl rfl ⟨rfl, hd_Mo_load⟩ ⟨Nat.le_of_ble_eq_true rfl, Nat.le_of_ble_eq_true rfl⟩) (z_preV zo_Mo rfl rfl hZ hK hT hS) rfl rfl hl.1 rfl (lv_room (Nat.le_of_ble_eq_true rfl)) d_Mo_multiply_45 ⟨Nat.le_of_ble_eq_true rfl, Nat.le_of_ble_eq_true rfl⟩) hS (fun M12 N13 H locs hw hZ hS => ?_)
      obtain ⟨hw, eN13⟩ := hw
      rw [eN13] at hZ
      refine lv_aload_n (pc := 48) hx hb d_Mo_multiply_48 rfl (lv_at hl 0 rfl) ?_
      refine lv_iload_n (pc := 49) hx hb d_Mo_multiply_49 rfl (lv_at hl 3 rfl) ?_
      refine lv_aload_n (pc := 50) hx hb d_Mo_multiply_50 rfl (lv_at hl 0 rfl) ?_
      refine zg_Mo_32 (pc := 51) hx hb hta hown hK hZ d_Mo_multiply_51 ?_
      refine z_callv (pc := 54) (va_runV (C := R_Mo) (b := b + 99) (As := [.int a3, .ref (b + 107)]) (rest := []) ⟨hx, hb, hml, hown, hts⟩ (c_Mo_load l G b a3 107 M12 N10 hw) (cwV 2 hts (z_good (zgV wd810 wd812 wsel18 wd7 wd813)) rfl rfl rfl ⟨rfl, hd_Mo_load⟩ ⟨Nat.le_of_ble_eq_true rfl, Nat.le_of_ble_eq_true rfl⟩) (z_preV zo_Mo rfl rfl hZ hK hT hS) rfl rfl hl.1 rfl (lv_room (Nat.le_of_ble_eq_true rfl)) d_Mo_multiply_54 ⟨Nat.le_of_ble_eq_true rfl, Nat.le_of_ble_eq_true rfl⟩) hS (fun M15 N16 H locs hw hZ hS => ?_)
      obtain ⟨hw, eN16⟩ := hw
      rw [eN16] at hZ
      refine lv_iconst (pc := 57) (v := 0) hx hb d_Mo_multiply_57 (by decide) ?_
      refine lv_istore (pc := 58) (lv' := [(4, .int (0 : Int32)), (0, .ref (b + 99)), (1, .int a1), (2, .int a2), (3, .int a3)]) hx hb d_Mo_multiply_58 hl (by decide) rfl (fun ls hl => ?_)
      obtain ⟨n, hw⟩ := hw
      exact lp60 N10 n (0 : Int32) M15 _ _ _ hZ hS (lv_sub hl [1, 2, 0] rfl) hw
    · have hw := hw.2 hc
      refine lv_iconst (pc := 37) (v := 0) hx hb d_Mo_multiply_37 (by decide) ?_
      exact z_iret hx hb hr hlocks hK hT hZ hS hw d_Mo_multiply_38
  unfold w_Mo_multiply at hw
  refine lv_aload_n (pc := 0) hx hb d_Mo_multiply_0 rfl (lv_at hl 0 rfl) ?_
  refine lv_iload_n (pc := 1) hx hb d_Mo_multiply_1 rfl (lv_at hl 1 rfl) ?_
  refine z_calli (pc := 2) (va_runS (As := [.int a1]) (rest := [.ref (b + 99)]) ⟨hx, hb, hml, hown, hts⟩ (c_Mo_isRegister l G b a1 M N hw) (va_cwS 1 hts (z_good (zgS wd805 wd806 wd7 wd807)) rfl rfl rfl hd_Mo_isRegister ⟨Nat.le_of_ble_eq_true rfl, Nat.le_of_ble_eq_true rfl⟩) (z_preS hZ hK hT hS) rfl rfl hl.1 rfl (lv_room (Nat.le_of_ble_eq_true rfl)) d_Mo_multiply_2 ⟨Nat.le_of_ble_eq_true rfl, Nat.le_of_ble_eq_true rfl⟩) hS (fun r1 M2 N3 H locs hw hZ hS => ?_)
  obtain ⟨hw, eM2, eN3⟩ := hw
  rw [eM2, eN3] at hZ
  refine lv_if_eq (pc := 5) (tgt := 26) hx hb d_Mo_multiply_5 (by decide) (fun hc => ?_) (fun hc => ?_)
  · have hw := hw.1 hc
    refine lv_iconst (pc := 26) (v := 1) hx hb d_Mo_multiply_26 (by decide) ?_
    exact j27 (1 : Int32) M N _ _ _ hZ hS hl hw
  · have hw := hw.2 hc
    refine lv_iload_n (pc := 8) hx hb d_Mo_multiply_8 rfl (lv_at hl 2 rfl) ?_
    refine z_calli (pc := 9) (va_runS (As := [.int a2]) (rest := [.ref (b + 99)]) ⟨hx, hb, hml, hown, hts⟩ (c_Mo_isRegister l G b a2 M N hw) (va_cwS 1 hts (z_good (zgS wd805 wd806 wd7 wd807)) rfl rfl rfl hd_Mo_isRegister ⟨Nat.le_of_ble_eq_true rfl, Nat.le_of_ble_eq_true rfl⟩) (z_preS hZ hK hT hS) rfl rfl hl.1 rfl (lv_room (Nat.le_of_ble_eq_true rfl)) d_Mo_multiply_9 ⟨Nat.le_of_ble_eq_true rfl, Nat.le_of_ble_eq_true rfl⟩) hS (fun r4 M5 N6 H locs hw hZ hS => ?_)
    obtain ⟨hw, eM5, eN6⟩ := hw
    rw [eM5, eN6] at hZ
    refine lv_if_eq (pc := 12) (tgt := 26) hx hb d_Mo_multiply_12 (by decide) (fun hc => ?_) (fun hc => ?_)
    · have hw := hw.1 hc
      refine lv_iconst (pc := 26) (v := 1) hx hb d_Mo_multiply_26 (by decide) ?_
      exact j27 (1 : Int32) M N _ _ _ hZ hS hl hw
    · have hw := hw.2 hc
      refine lv_iload_n (pc := 15) hx hb d_Mo_multiply_15 rfl (lv_at hl 3 rfl) ?_
      refine z_calli (pc := 16) (va_runS (As := [.int a3]) (rest := [.ref (b + 99)]) ⟨hx, hb, hml, hown, hts⟩ (c_Mo_isRegister l G b a3 M N hw) (va_cwS 1 hts (z_good (zgS wd805 wd806 wd7 wd807)) rfl rfl rfl hd_Mo_isRegister ⟨Nat.le_of_ble_eq_true rfl, Nat.le_of_ble_eq_true rfl⟩) (z_preS hZ hK hT hS) rfl rfl hl.1 rfl (lv_room (Nat.le_of_ble_eq_true rfl)) d_Mo_multiply_16 ⟨Nat.le_of_ble_eq_true rfl, Nat.le_of_ble_eq_true rfl⟩) hS (fun r7 M8 N9 H locs hw hZ hS => ?_)
      obtain ⟨hw, eM8, eN9⟩ := hw
      rw [eM8, eN9] at hZ
      refine lv_if_eq (pc := 19) (tgt := 26) hx hb d_Mo_multiply_19 (by decide) (fun hc => ?_) (fun hc => ?_)
      · have hw := hw.1 hc
        refine lv_iconst (pc := 26) (v := 1) hx hb d_Mo_multiply_26 (by decide) ?_
        exact j27 (1 : Int32) M N _ _ _ hZ hS hl hw
      · have hw := hw.2 hc
        refine lv_iconst (pc := 22) (v := 0) hx hb d_Mo_multiply_22 (by decide) ?_
        refine lv_goto (pc := 23) (tgt := 27) hx hb d_Mo_multiply_23 (by decide) ?_
        exact j27 (0 : Int32) M N _ _ _ hZ hS hl hw
theorem d_Mo_derivative_0 : decode prog_10_method_20_code 0 = .ok (.iconst 0, 1) := by decide +kernel
theorem d_Mo_derivative_1 : decode prog_10_method_20_code 1 = .ok (.istore_n 2, 1) := by decide +kernel
theorem d_Mo_derivative_2 : decode prog_10_method_20_code 2 = .ok (.iload_n 2, 1) := by decide +kernel
theorem d_Mo_derivative_3 : decode prog_10_method_20_code 3 = .ok (.bipush 15, 2) := by decide +kernel
theorem d_Mo_derivative_5 : decode prog_10_method_20_code 5 = .ok (.if_icmp .ge 22, 3) := by decide +kernel
theorem d_Mo_derivative_8 : decode prog_10_method_20_code 8 = .ok (.aload_n 1, 1) := by decide +kernel
theorem d_Mo_derivative_9 : decode prog_10_method_20_code 9 = .ok (.iload_n 2, 1) := by decide +kernel
theorem d_Mo_derivative_10 : decode prog_10_method_20_code 10 = .ok (.iload_n 2, 1) := by decide +kernel
theorem d_Mo_derivative_11 : decode prog_10_method_20_code 11 = .ok (.iconst 1, 1) := by decide +kernel
theorem d_Mo_derivative_12 : decode prog_10_method_20_code 12 = .ok (.iadd, 1) := by decide +kernel
theorem d_Mo_derivative_13 : decode prog_10_method_20_code 13 = .ok (.i2l, 1) := by decide +kernel
theorem d_Mo_derivative_14 : decode prog_10_method_20_code 14 = .ok (.aload_n 0, 1) := by decide +kernel
theorem d_Mo_derivative_15 : decode prog_10_method_20_code 15 = .ok (.iload_n 2, 1) := by decide +kernel
theorem d_Mo_derivative_16 : decode prog_10_method_20_code 16 = .ok (.iconst 1, 1) := by decide +kernel
theorem d_Mo_derivative_17 : decode prog_10_method_20_code 17 = .ok (.iadd, 1) := by decide +kernel
theorem d_Mo_derivative_18 : decode prog_10_method_20_code 18 = .ok (.laload, 1) := by decide +kernel
theorem d_Mo_derivative_19 : decode prog_10_method_20_code 19 = .ok (.lmul, 1) := by decide +kernel
theorem d_Mo_derivative_20 : decode prog_10_method_20_code 20 = .ok (.lastore, 1) := by decide +kernel
theorem d_Mo_derivative_21 : decode prog_10_method_20_code 21 = .ok (.iinc 2 1, 3) := by decide +kernel
theorem d_Mo_derivative_24 : decode prog_10_method_20_code 24 = .ok (.goto (-22), 3) := by decide +kernel
theorem d_Mo_derivative_27 : decode prog_10_method_20_code 27 = .ok (.aload_n 1, 1) := by decide +kernel
theorem d_Mo_derivative_28 : decode prog_10_method_20_code 28 = .ok (.bipush 15, 2) := by decide +kernel
theorem d_Mo_derivative_30 : decode prog_10_method_20_code 30 = .ok (.lconst 0, 1) := by decide +kernel
theorem d_Mo_derivative_31 : decode prog_10_method_20_code 31 = .ok (.lastore, 1) := by decide +kernel
theorem d_Mo_derivative_32 : decode prog_10_method_20_code 32 = .ok (.return_, 1) := by decide +kernel
def B_Mo_derivative_2 (P : zM → Prop) (a0 : Nat) (a1 : Nat) (k2 : Int32 → zM → Prop) (v2 : Int32) (M : zM) : Prop := ((15 : Int32) ≤ v2 → vp_in (15 : Int32) (zlong a1) ∧ ∀ M1 : zM, M1 = zput M a1 (15 : Int32).toNatClampNeg (0 : Int64) → P M1) ∧ (¬ (15 : Int32) ≤ v2 → vp_in (v2 + (1 : Int32)) (zlong a0) ∧ vp_in v2 (zlong a1) ∧ ∀ M2 : zM, M2 = zput M a1 v2.toNatClampNeg (((v2 + (1 : Int32)).toInt64) * (M a0 (v2 + (1 : Int32)).toNatClampNeg)) → k2 (v2 + (1 : Int32)) M2)
def L_Mo_derivative_2 (P : zM → Prop) (a0 : Nat) (a1 : Nat) (n : Nat) : Int32 → zM → Prop := Nat.rec (fun _ _ => False) (fun _ k => B_Mo_derivative_2 P a0 a1 k) n
def w_Mo_derivative (a0 : Nat) (a1 : Nat) (M : zM) (P : zM → Prop) : Prop := ∃ n, L_Mo_derivative_2 P a0 a1 n (0 : Int32) M
def ws_Mo_derivative : List Cond := .code y_Mo_derivative prog_10_method_20_code 3 (Option.none : Option Jvm.ClassFile.FieldType) :: zall
def rm_Mo_derivative : Room := { frames := 0, cells := 0, slots := 0, locals := 0 }
theorem hd_Mo_derivative : y_Mo_derivative.cls ≠ "java/lang/invoke/MethodHandle" ∧ y_Mo_derivative.cls ≠ "java/lang/invoke/VarHandle" ∧ (parseMethodDescriptor y_Mo_derivative.desc).map (fun d => d.parameters.length) = some 2 := by decide +kernel
set_option maxHeartbeats 4000000 in
set_option maxRecDepth 100000 in
theorem c_Mo_derivative (l : Launch) (G : zG) (b : Nat) (a0 : Nat) (a1 : Nat) (M : zM) (N : zN) {P : zM → Prop} (hw : w_Mo_derivative a0 a1 M P) : Met l y_Mo_derivative ws_Mo_derivative rm_Mo_derivative (zPc G b M N [.ref (b + a0), .ref (b + a1)]) (zQv G b (fun M' N' => P M' ∧ N' = N)) 0 0 (zA b) := by
  refine Met.ofW (cc := prog_10_method_20_code) (maxL := 3) (ret := (Option.none : Option Jvm.ClassFile.FieldType)) (by decide) rfl ?_
  intro p e s m args below meth c s₁ B hml hv
  obtain ⟨rfl, hZ, hK, hT⟩ := hv
  have hx := B.exec
  have hb := B.bytes
  have hr := B.returns
  have hts := atoms_spec (ws := ws_Mo_derivative) B.pre
  have hta : ∀ w ∈ zall, w.before ([.ref (b + a0), .ref (b + a1)] : List Value).toArray s = true := fun w h => hts w (List.mem_cons_of_mem _ h)
  have hown : s.vm.findClass R_Mo = some m.cls := findClass_of_methodNamed B.named
  have hlocks := B.notSynchronized
  have hS : va_S (zA b) s.heap s.heap [] := va_S.rf
  have hl := lv_entry ([.ref (b + a0), .ref (b + a1)]) (n := 3) (Nat.le_of_ble_eq_true rfl)
  rw [lg_entry_eq]
  generalize (lg_sl ([.ref (b + a0), .ref (b + a1)]) ++ List.replicate (3 - (lg_sl ([.ref (b + a0), .ref (b + a1)])).length) Slot.unset).toArray = ls at hl ⊢
  have hl : lv_has ls 3 [(0, .ref (b + a0)), (1, .ref (b + a1))] := hl
  have lp2 : ∀ (n : Nat) (v2 : Int32) (M : zM) (H : Heap) (ls : Array Slot) (locs : List Loc), va_P G.1 zCl (zws G b M N) H → va_S (zA b) s.heap H locs → lv_has ls 3 [(0, .ref (b + a0)), (1, .ref (b + a1)), (2, .int v2)] → L_Mo_derivative_2 P a0 a1 n v2 M → W p l e (headSpec ws_Mo_derivative rm_Mo_derivative).room s m ([.ref (b + a0), .ref (b + a1)] : List Value).toArray below meth c H locs 0 0 (MQ below (zQv G b (fun M' N' => P M' ∧ N' = N)) ([.ref (b + a0), .ref (b + a1)] : List Value).toArray s 0 0 (zA b)) (F0 m 2 ls []) := by
    intro  n
    induction n with
    | zero => intro v2 M H ls locs hZ hS hl hw; exact False.elim hw
    | succ n2 ih2 =>
      intro v2 M H ls locs hZ hS hl hw
      have hw : B_Mo_derivative_2 P a0 a1 (L_Mo_derivative_2 P a0 a1 n2) v2 M := hw
      unfold B_Mo_derivative_2 at hw
      refine lv_iload_n (pc := 2) hx hb d_Mo_derivative_2 rfl (lv_at hl 2 rfl) ?_
      refine lv_bipush (pc := 3) (v := 15) hx hb d_Mo_derivative_3 (by decide) ?_
      refine lv_icmp_ge (pc := 5) (tgt := 27) hx hb d_Mo_derivative_5 (by decide) (fun hc => ?_) (fun hc => ?_)
      · have hw := hw.1 hc
        refine lv_aload_n (pc := 27) hx hb d_Mo_derivative_27 rfl (lv_at hl 1 rfl) ?_
        refine lv_bipush (pc := 28) (v := 15) hx hb d_Mo_derivative_28 (by decide) ?_
        refine lv_lconst (pc := 30) (v := 0) hx hb d_Mo_derivative_30 (by decide) ?_
        obtain ⟨hc, hw⟩ := hw
        refine z_last (pc := 31) hx hb hK hZ hS hc d_Mo_derivative_31 (fun M1 H locs hM1 hZ hS => ?_)
        have hw := hw M1 hM1
        exact z_vret hx hb hr hlocks hK hT hZ hS ⟨hw, rfl⟩ d_Mo_derivative_32
      · have hw := hw.2 hc
        refine lv_aload_n (pc := 8) hx hb d_Mo_derivative_8 rfl (lv_at hl 1 rfl) ?_
        refine lv_iload_n (pc := 9) hx hb d_Mo_derivative_9 rfl (lv_at hl 2 rfl) ?_
        refine lv_iload_n (pc := 10) hx hb d_Mo_derivative_10 rfl (lv_at hl 2 rfl) ?_
        refine lv_iconst (pc := 11) (v := 1) hx hb d_Mo_derivative_11 (by decide) ?_
        refine lv_iadd (pc := 12) hx hb d_Mo_derivative_12 ?_
        refine lv_i2l (pc := 13) (v := (v2 + (1 : Int32)).toInt64) hx hb d_Mo_derivative_13 rfl ?_
        refine lv_aload_n (pc := 14) hx hb d_Mo_derivative_14 rfl (lv_at hl 0 rfl) ?_
        refine lv_iload_n (pc := 15) hx hb d_Mo_derivative_15 rfl (lv_at hl 2 rfl) ?_
        refine lv_iconst (pc := 16) (v := 1) hx hb d_Mo_derivative_16 (by decide) ?_
        refine lv_iadd (pc := 17) hx hb d_Mo_derivative_17 ?_
        obtain ⟨hc, hw⟩ := hw
        refine z_lald (pc := 18) hx hb hK hZ hc d_Mo_derivative_18 ?_
        refine lv_lmul (pc := 19) hx hb d_Mo_derivative_19 ?_
        obtain ⟨hc, hw⟩ := hw
        refine z_last (pc := 20) hx hb hK hZ hS hc d_Mo_derivative_20 (fun M2 H locs hM2 hZ hS => ?_)
        have hw := hw M2 hM2
        refine lv_iinc (pc := 21) (k := 2) (v := v2 + (1 : Int32)) (lv' := [(2, .int (v2 + (1 : Int32))), (0, .ref (b + a0)), (1, .ref (b + a1))]) hx hb d_Mo_derivative_21 hl rfl (by rfl) (by decide) rfl (fun ls hl => ?_)
        refine lv_goto (pc := 24) (tgt := 2) hx hb d_Mo_derivative_24 (by decide) ?_
        exact ih2 (v2 + (1 : Int32)) M2 _ _ _ hZ hS (lv_sub hl [1, 2, 0] rfl) hw
  unfold w_Mo_derivative at hw
  refine lv_iconst (pc := 0) (v := 0) hx hb d_Mo_derivative_0 (by decide) ?_
  refine lv_istore_n (pc := 1) (lv' := [(2, .int (0 : Int32)), (0, .ref (b + a0)), (1, .ref (b + a1))]) hx hb d_Mo_derivative_1 rfl hl (by decide) rfl (fun ls hl => ?_)
  obtain ⟨n, hw⟩ := hw
  exact lp2  n (0 : Int32) M _ _ _ hZ hS (lv_sub hl [1, 2, 0] rfl) hw
