theorem d_Mo_derive_0 : decode prog_10_method_19_code 0 = .ok (.aload_n 0, 1) := by decide +kernel
theorem d_Mo_derive_1 : decode prog_10_method_19_code 1 = .ok (.iload_n 1, 1) := by decide +kernel
theorem d_Mo_derive_2 : decode prog_10_method_19_code 2 = .ok (.invokestatic 98, 3) := by decide +kernel
theorem d_Mo_derive_5 : decode prog_10_method_19_code 5 = .ok (.ifCond .eq 14, 3) := by decide +kernel
theorem d_Mo_derive_8 : decode prog_10_method_19_code 8 = .ok (.iload_n 2, 1) := by decide +kernel
theorem d_Mo_derive_9 : decode prog_10_method_19_code 9 = .ok (.invokestatic 98, 3) := by decide +kernel
theorem d_Mo_derive_12 : decode prog_10_method_19_code 12 = .ok (.ifCond .eq 7, 3) := by decide +kernel
theorem d_Mo_derive_15 : decode prog_10_method_19_code 15 = .ok (.iconst 0, 1) := by decide +kernel
theorem d_Mo_derive_16 : decode prog_10_method_19_code 16 = .ok (.goto 4, 3) := by decide +kernel
theorem d_Mo_derive_19 : decode prog_10_method_19_code 19 = .ok (.iconst 1, 1) := by decide +kernel
theorem d_Mo_derive_20 : decode prog_10_method_19_code 20 = .ok (.putfield 78, 3) := by decide +kernel
theorem d_Mo_derive_23 : decode prog_10_method_19_code 23 = .ok (.aload_n 0, 1) := by decide +kernel
theorem d_Mo_derive_24 : decode prog_10_method_19_code 24 = .ok (.getfield 78, 3) := by decide +kernel
theorem d_Mo_derive_27 : decode prog_10_method_19_code 27 = .ok (.ifCond .le 5, 3) := by decide +kernel
theorem d_Mo_derive_30 : decode prog_10_method_19_code 30 = .ok (.iconst 0, 1) := by decide +kernel
theorem d_Mo_derive_31 : decode prog_10_method_19_code 31 = .ok (.ireturn, 1) := by decide +kernel
theorem d_Mo_derive_32 : decode prog_10_method_19_code 32 = .ok (.aload_n 0, 1) := by decide +kernel
theorem d_Mo_derive_33 : decode prog_10_method_19_code 33 = .ok (.iload_n 2, 1) := by decide +kernel
theorem d_Mo_derive_34 : decode prog_10_method_19_code 34 = .ok (.aload_n 0, 1) := by decide +kernel
theorem d_Mo_derive_35 : decode prog_10_method_19_code 35 = .ok (.getfield 29, 3) := by decide +kernel
theorem d_Mo_derive_38 : decode prog_10_method_19_code 38 = .ok (.invokevirtual 104, 3) := by decide +kernel
theorem d_Mo_derive_41 : decode prog_10_method_19_code 41 = .ok (.aload_n 0, 1) := by decide +kernel
theorem d_Mo_derive_42 : decode prog_10_method_19_code 42 = .ok (.getfield 29, 3) := by decide +kernel
theorem d_Mo_derive_45 : decode prog_10_method_19_code 45 = .ok (.aload_n 0, 1) := by decide +kernel
theorem d_Mo_derive_46 : decode prog_10_method_19_code 46 = .ok (.getfield 35, 3) := by decide +kernel
theorem d_Mo_derive_49 : decode prog_10_method_19_code 49 = .ok (.invokestatic 120, 3) := by decide +kernel
theorem d_Mo_derive_52 : decode prog_10_method_19_code 52 = .ok (.aload_n 0, 1) := by decide +kernel
theorem d_Mo_derive_53 : decode prog_10_method_19_code 53 = .ok (.iload_n 1, 1) := by decide +kernel
theorem d_Mo_derive_54 : decode prog_10_method_19_code 54 = .ok (.aload_n 0, 1) := by decide +kernel
theorem d_Mo_derive_55 : decode prog_10_method_19_code 55 = .ok (.getfield 35, 3) := by decide +kernel
theorem d_Mo_derive_58 : decode prog_10_method_19_code 58 = .ok (.iconst 2, 1) := by decide +kernel
theorem d_Mo_derive_59 : decode prog_10_method_19_code 59 = .ok (.invokevirtual 116, 3) := by decide +kernel
theorem d_Mo_derive_62 : decode prog_10_method_19_code 62 = .ok (.ireturn, 1) := by decide +kernel
def J_Mo_derive_20 (P : Int32 → zM → zN → Prop) (a1 : Int32) (a2 : Int32) (t0 : Int32) (M : zM) (N : zN) : Prop := ∀ N7 : zN, N7 = zpui N 99 0 t0 → ((N7 99 0) ≤ 0 → w_Mo_load a2 106 M N7 (fun M9 => w_Mo_derivative 106 108 M9 (fun M12 => w_Mo_settle a1 108 (2 : Int32) M12 N7 (fun r14 N16 => P r14 M12 N16)))) ∧ (¬ (N7 99 0) ≤ 0 → P (0 : Int32) M N7)
def w_Mo_derive (a1 : Int32) (a2 : Int32) (M : zM) (N : zN) (P : Int32 → zM → zN → Prop) : Prop := w_Mo_isRegister a1  (fun r1 => (r1 = 0 → J_Mo_derive_20 P a1 a2 (1 : Int32) M N) ∧ (¬ r1 = 0 → w_Mo_isRegister a2  (fun r4 => (r4 = 0 → J_Mo_derive_20 P a1 a2 (1 : Int32) M N) ∧ (¬ r4 = 0 → J_Mo_derive_20 P a1 a2 (0 : Int32) M N))))
def ws_Mo_derive : List Cond := .code y_Mo_derive prog_10_method_19_code 3 (Option.some Jvm.ClassFile.FieldType.int) :: zall
def rm_Mo_derive : Room := { frames := 3, cells := 0, slots := 0, locals := 67 }
theorem hd_Mo_derive : y_Mo_derive.cls ≠ "java/lang/invoke/MethodHandle" ∧ y_Mo_derive.cls ≠ "java/lang/invoke/VarHandle" ∧ (parseMethodDescriptor y_Mo_derive.desc).map (fun d => d.parameters.length) = some 2 := by decide +kernel
set_option maxHeartbeats 4000000 in
set_option maxRecDepth 100000 in
theorem c_Mo_derive (l : Launch) (G : zG) (b : Nat) (a1 : Int32) (a2 : Int32) (M : zM) (N : zN) {P : Int32 → zM → zN → Prop} (hw : w_Mo_derive a1 a2 M N P) : Met l y_Mo_derive ws_Mo_derive rm_Mo_derive (zPc G b M N [.ref (b + 99), .int a1, .int a2]) (zQi G b (fun r M' N' => P r M' N')) 0 0 (zA b) := by
  refine Met.ofW (cc := prog_10_method_19_code) (maxL := 3) (ret := (Option.some Jvm.ClassFile.FieldType.int)) (by decide) rfl ?_
  intro p e s m args below meth c s₁ B hml hv
  obtain ⟨rfl, hZ, hK, hT⟩ := hv
  have hx := B.exec
  have hb := B.bytes
  have hr := B.returns
  have hts := atoms_spec (ws := ws_Mo_derive) B.pre
  have hta : ∀ w ∈ zall, w.before ([.ref (b + 99), .int a1, .int a2] : List Value).toArray s = true := fun w h => hts w (List.mem_cons_of_mem _ h)
  have hown : s.vm.findClass R_Mo = some m.cls := findClass_of_methodNamed B.named
  have hlocks := B.notSynchronized
  have hS : va_S (zA b) s.heap s.heap [] := va_S.rf
  have hl := lv_entry ([.ref (b + 99), .int a1, .int a2]) (n := 3) (Nat.le_of_ble_eq_true rfl)
  rw [lg_entry_eq]
  generalize (lg_sl ([.ref (b + 99), .int a1, .int a2]) ++ List.replicate (3 - (lg_sl ([.ref (b + 99), .int a1, .int a2])).length) Slot.unset).toArray = ls at hl ⊢
  have hl : lv_has ls 3 [(0, .ref (b + 99)), (1, .int a1), (2, .int a2)] := hl
  have j20 : ∀ (t0 : Int32) (M : zM) (N : zN) (H : Heap) (ls : Array Slot) (locs : List Loc), va_P G.1 zCl (zws G b M N) H → va_S (zA b) s.heap H locs → lv_has ls 3 [(0, .ref (b + 99)), (1, .int a1), (2, .int a2)] → J_Mo_derive_20 P a1 a2 t0 M N → W p l e (headSpec ws_Mo_derive rm_Mo_derive).room s m ([.ref (b + 99), .int a1, .int a2] : List Value).toArray below meth c H locs 0 0 (MQ below (zQi G b (fun r M' N' => P r M' N')) ([.ref (b + 99), .int a1, .int a2] : List Value).toArray s 0 0 (zA b)) (F0 m 20 ls [.int t0, .ref (b + 99)]) := by
    intro t0 M N H ls locs hZ hS hl hw
    unfold J_Mo_derive_20 at hw
    refine zp_Mo_78 (pc := 20) hx hb hta hown hK hZ hS d_Mo_derive_20 (fun N7 H locs hN7 hZ hS => ?_)
    have hw := hw N7 hN7
    refine lv_aload_n (pc := 23) hx hb d_Mo_derive_23 rfl (lv_at hl 0 rfl) ?_
    refine zg_Mo_78 (pc := 24) hx hb hta hown hK hZ d_Mo_derive_24 ?_
    refine lv_if_le (pc := 27) (tgt := 32) hx hb d_Mo_derive_27 (by decide) (fun hc => ?_) (fun hc => ?_)
    · have hw := hw.1 hc
      refine lv_aload_n (pc := 32) hx hb d_Mo_derive_32 rfl (lv_at hl 0 rfl) ?_
      refine lv_iload_n (pc := 33) hx hb d_Mo_derive_33 rfl (lv_at hl 2 rfl) ?_
      refine lv_aload_n (pc := 34) hx hb d_Mo_derive_34 rfl (lv_at hl 0 rfl) ?_
      refine zg_Mo_29 (pc := 35) hx hb hta hown hK hZ d_Mo_derive_35 ?_
      refine z_callv (pc := 38) (va_runV (C := R_Mo) (b := b + 99) (As := [.int a2, .ref (b + 106)]) (rest := []) ⟨hx, hb, hml, hown, hts⟩ (c_Mo_load l G b a2 106 M N7 hw) (cwV 2 hts (z_good (zgV wd810 wd812 wsel18 wd7 wd813)) rfl rfl rfl ⟨rfl, hd_Mo_load⟩ ⟨Nat.le_of_ble_eq_true rfl, Nat.le_of_ble_eq_true rfl⟩) (z_preV zo_Mo rfl rfl hZ hK hT hS) rfl rfl hl.1 rfl (lv_room (Nat.le_of_ble_eq_true rfl)) d_Mo_derive_38 ⟨Nat.le_of_ble_eq_true rfl, Nat.le_of_ble_eq_true rfl⟩) hS (fun M9 N10 H locs hw hZ hS => ?_)
      obtain ⟨hw, eN10⟩ := hw
      rw [eN10] at hZ
      refine lv_aload_n (pc := 41) hx hb d_Mo_derive_41 rfl (lv_at hl 0 rfl) ?_
      refine zg_Mo_29 (pc := 42) hx hb hta hown hK hZ d_Mo_derive_42 ?_
      refine lv_aload_n (pc := 45) hx hb d_Mo_derive_45 rfl (lv_at hl 0 rfl) ?_
      refine zg_Mo_35 (pc := 46) hx hb hta hown hK hZ d_Mo_derive_46 ?_
      refine z_callv (pc := 49) (va_runS (As := [.ref (b + 106), .ref (b + 108)]) (rest := []) ⟨hx, hb, hml, hown, hts⟩ (c_Mo_derivative l G b 106 108 M9 N7 hw) (va_cwS 2 hts (z_good (zgS wd850 wd851 wd7 wd852)) rfl rfl rfl hd_Mo_derivative ⟨Nat.le_of_ble_eq_true rfl, Nat.le_of_ble_eq_true rfl⟩) (z_preS hZ hK hT hS) rfl rfl hl.1 rfl (lv_room (Nat.le_of_ble_eq_true rfl)) d_Mo_derive_49 ⟨Nat.le_of_ble_eq_true rfl, Nat.le_of_ble_eq_true rfl⟩) hS (fun M12 N13 H locs hw hZ hS => ?_)
      obtain ⟨hw, eN13⟩ := hw
      rw [eN13] at hZ
      refine lv_aload_n (pc := 52) hx hb d_Mo_derive_52 rfl (lv_at hl 0 rfl) ?_
      refine lv_iload_n (pc := 53) hx hb d_Mo_derive_53 rfl (lv_at hl 1 rfl) ?_
      refine lv_aload_n (pc := 54) hx hb d_Mo_derive_54 rfl (lv_at hl 0 rfl) ?_
      refine zg_Mo_35 (pc := 55) hx hb hta hown hK hZ d_Mo_derive_55 ?_
      refine lv_iconst (pc := 58) (v := 2) hx hb d_Mo_derive_58 (by decide) ?_
      refine z_calli (pc := 59) (va_runV (C := R_Mo) (b := b + 99) (As := [.int a1, .ref (b + 108), .int (2 : Int32)]) (rest := []) ⟨hx, hb, hml, hown, hts⟩ (c_Mo_settle l G b a1 108 (2 : Int32) M12 N7 hw) (cwV 3 hts (z_good (zgV wd829 wd831 wsel19 wd7 wd832)) rfl rfl rfl ⟨rfl, hd_Mo_settle⟩ ⟨Nat.le_of_ble_eq_true rfl, Nat.le_of_ble_eq_true rfl⟩) (z_preV zo_Mo rfl rfl hZ hK hT hS) rfl rfl hl.1 rfl (lv_room (Nat.le_of_ble_eq_true rfl)) d_Mo_derive_59 ⟨Nat.le_of_ble_eq_true rfl, Nat.le_of_ble_eq_true rfl⟩) hS (fun r14 M15 N16 H locs hw hZ hS => ?_)
      obtain ⟨hw, eM15⟩ := hw
      rw [eM15] at hZ
      exact z_iret hx hb hr hlocks hK hT hZ hS hw d_Mo_derive_62
    · have hw := hw.2 hc
      refine lv_iconst (pc := 30) (v := 0) hx hb d_Mo_derive_30 (by decide) ?_
      exact z_iret hx hb hr hlocks hK hT hZ hS hw d_Mo_derive_31
  unfold w_Mo_derive at hw
  refine lv_aload_n (pc := 0) hx hb d_Mo_derive_0 rfl (lv_at hl 0 rfl) ?_
  refine lv_iload_n (pc := 1) hx hb d_Mo_derive_1 rfl (lv_at hl 1 rfl) ?_
  refine z_calli (pc := 2) (va_runS (As := [.int a1]) (rest := [.ref (b + 99)]) ⟨hx, hb, hml, hown, hts⟩ (c_Mo_isRegister l G b a1 M N hw) (va_cwS 1 hts (z_good (zgS wd805 wd806 wd7 wd807)) rfl rfl rfl hd_Mo_isRegister ⟨Nat.le_of_ble_eq_true rfl, Nat.le_of_ble_eq_true rfl⟩) (z_preS hZ hK hT hS) rfl rfl hl.1 rfl (lv_room (Nat.le_of_ble_eq_true rfl)) d_Mo_derive_2 ⟨Nat.le_of_ble_eq_true rfl, Nat.le_of_ble_eq_true rfl⟩) hS (fun r1 M2 N3 H locs hw hZ hS => ?_)
  obtain ⟨hw, eM2, eN3⟩ := hw
  rw [eM2, eN3] at hZ
  refine lv_if_eq (pc := 5) (tgt := 19) hx hb d_Mo_derive_5 (by decide) (fun hc => ?_) (fun hc => ?_)
  · have hw := hw.1 hc
    refine lv_iconst (pc := 19) (v := 1) hx hb d_Mo_derive_19 (by decide) ?_
    exact j20 (1 : Int32) M N _ _ _ hZ hS hl hw
  · have hw := hw.2 hc
    refine lv_iload_n (pc := 8) hx hb d_Mo_derive_8 rfl (lv_at hl 2 rfl) ?_
    refine z_calli (pc := 9) (va_runS (As := [.int a2]) (rest := [.ref (b + 99)]) ⟨hx, hb, hml, hown, hts⟩ (c_Mo_isRegister l G b a2 M N hw) (va_cwS 1 hts (z_good (zgS wd805 wd806 wd7 wd807)) rfl rfl rfl hd_Mo_isRegister ⟨Nat.le_of_ble_eq_true rfl, Nat.le_of_ble_eq_true rfl⟩) (z_preS hZ hK hT hS) rfl rfl hl.1 rfl (lv_room (Nat.le_of_ble_eq_true rfl)) d_Mo_derive_9 ⟨Nat.le_of_ble_eq_true rfl, Nat.le_of_ble_eq_true rfl⟩) hS (fun r4 M5 N6 H locs hw hZ hS => ?_)
    obtain ⟨hw, eM5, eN6⟩ := hw
    rw [eM5, eN6] at hZ
    refine lv_if_eq (pc := 12) (tgt := 19) hx hb d_Mo_derive_12 (by decide) (fun hc => ?_) (fun hc => ?_)
    · have hw := hw.1 hc
      refine lv_iconst (pc := 19) (v := 1) hx hb d_Mo_derive_19 (by decide) ?_
      exact j20 (1 : Int32) M N _ _ _ hZ hS hl hw
    · have hw := hw.2 hc
      refine lv_iconst (pc := 15) (v := 0) hx hb d_Mo_derive_15 (by decide) ?_
      refine lv_goto (pc := 16) (tgt := 20) hx hb d_Mo_derive_16 (by decide) ?_
      exact j20 (0 : Int32) M N _ _ _ hZ hS hl hw
theorem d_Mo_shift_0 : decode prog_10_method_21_code 0 = .ok (.aload_n 0, 1) := by decide +kernel
theorem d_Mo_shift_1 : decode prog_10_method_21_code 1 = .ok (.iload_n 1, 1) := by decide +kernel
theorem d_Mo_shift_2 : decode prog_10_method_21_code 2 = .ok (.invokestatic 98, 3) := by decide +kernel
theorem d_Mo_shift_5 : decode prog_10_method_21_code 5 = .ok (.ifCond .eq 10, 3) := by decide +kernel
theorem d_Mo_shift_8 : decode prog_10_method_21_code 8 = .ok (.iload_n 2, 1) := by decide +kernel
theorem d_Mo_shift_9 : decode prog_10_method_21_code 9 = .ok (.invokestatic 98, 3) := by decide +kernel
theorem d_Mo_shift_12 : decode prog_10_method_21_code 12 = .ok (.ifCond .ne 7, 3) := by decide +kernel
theorem d_Mo_shift_15 : decode prog_10_method_21_code 15 = .ok (.iconst 1, 1) := by decide +kernel
theorem d_Mo_shift_16 : decode prog_10_method_21_code 16 = .ok (.goto 20, 3) := by decide +kernel
theorem d_Mo_shift_19 : decode prog_10_method_21_code 19 = .ok (.iload_n 3, 1) := by decide +kernel
theorem d_Mo_shift_20 : decode prog_10_method_21_code 20 = .ok (.bipush (-9), 2) := by decide +kernel
theorem d_Mo_shift_22 : decode prog_10_method_21_code 22 = .ok (.if_icmp .lt 9, 3) := by decide +kernel
theorem d_Mo_shift_25 : decode prog_10_method_21_code 25 = .ok (.iload_n 3, 1) := by decide +kernel
theorem d_Mo_shift_26 : decode prog_10_method_21_code 26 = .ok (.bipush 9, 2) := by decide +kernel
theorem d_Mo_shift_28 : decode prog_10_method_21_code 28 = .ok (.if_icmp .le 7, 3) := by decide +kernel
theorem d_Mo_shift_31 : decode prog_10_method_21_code 31 = .ok (.iconst 2, 1) := by decide +kernel
theorem d_Mo_shift_32 : decode prog_10_method_21_code 32 = .ok (.goto 4, 3) := by decide +kernel
theorem d_Mo_shift_35 : decode prog_10_method_21_code 35 = .ok (.iconst 0, 1) := by decide +kernel
theorem d_Mo_shift_36 : decode prog_10_method_21_code 36 = .ok (.putfield 78, 3) := by decide +kernel
theorem d_Mo_shift_39 : decode prog_10_method_21_code 39 = .ok (.aload_n 0, 1) := by decide +kernel
theorem d_Mo_shift_40 : decode prog_10_method_21_code 40 = .ok (.getfield 78, 3) := by decide +kernel
theorem d_Mo_shift_43 : decode prog_10_method_21_code 43 = .ok (.ifCond .le 5, 3) := by decide +kernel
theorem d_Mo_shift_46 : decode prog_10_method_21_code 46 = .ok (.iconst 0, 1) := by decide +kernel
theorem d_Mo_shift_47 : decode prog_10_method_21_code 47 = .ok (.ireturn, 1) := by decide +kernel
theorem d_Mo_shift_48 : decode prog_10_method_21_code 48 = .ok (.aload_n 0, 1) := by decide +kernel
theorem d_Mo_shift_49 : decode prog_10_method_21_code 49 = .ok (.iload_n 2, 1) := by decide +kernel
theorem d_Mo_shift_50 : decode prog_10_method_21_code 50 = .ok (.aload_n 0, 1) := by decide +kernel
theorem d_Mo_shift_51 : decode prog_10_method_21_code 51 = .ok (.getfield 29, 3) := by decide +kernel
theorem d_Mo_shift_54 : decode prog_10_method_21_code 54 = .ok (.invokevirtual 104, 3) := by decide +kernel
theorem d_Mo_shift_57 : decode prog_10_method_21_code 57 = .ok (.iconst 0, 1) := by decide +kernel
theorem d_Mo_shift_58 : decode prog_10_method_21_code 58 = .ok (.istore 4, 2) := by decide +kernel
theorem d_Mo_shift_60 : decode prog_10_method_21_code 60 = .ok (.iload 4, 2) := by decide +kernel
theorem d_Mo_shift_62 : decode prog_10_method_21_code 62 = .ok (.bipush 16, 2) := by decide +kernel
theorem d_Mo_shift_64 : decode prog_10_method_21_code 64 = .ok (.if_icmp .ge 17, 3) := by decide +kernel
theorem d_Mo_shift_67 : decode prog_10_method_21_code 67 = .ok (.aload_n 0, 1) := by decide +kernel
theorem d_Mo_shift_68 : decode prog_10_method_21_code 68 = .ok (.getfield 35, 3) := by decide +kernel
theorem d_Mo_shift_71 : decode prog_10_method_21_code 71 = .ok (.iload 4, 2) := by decide +kernel
theorem d_Mo_shift_73 : decode prog_10_method_21_code 73 = .ok (.lconst 0, 1) := by decide +kernel
theorem d_Mo_shift_74 : decode prog_10_method_21_code 74 = .ok (.lastore, 1) := by decide +kernel
theorem d_Mo_shift_75 : decode prog_10_method_21_code 75 = .ok (.iinc 4 1, 3) := by decide +kernel
theorem d_Mo_shift_78 : decode prog_10_method_21_code 78 = .ok (.goto (-18), 3) := by decide +kernel
theorem d_Mo_shift_81 : decode prog_10_method_21_code 81 = .ok (.bipush 7, 2) := by decide +kernel
theorem d_Mo_shift_83 : decode prog_10_method_21_code 83 = .ok (.istore 4, 2) := by decide +kernel
theorem d_Mo_shift_85 : decode prog_10_method_21_code 85 = .ok (.iload 4, 2) := by decide +kernel
theorem d_Mo_shift_87 : decode prog_10_method_21_code 87 = .ok (.ifCond .lt 74, 3) := by decide +kernel
theorem d_Mo_shift_90 : decode prog_10_method_21_code 90 = .ok (.bipush 8, 2) := by decide +kernel
theorem d_Mo_shift_92 : decode prog_10_method_21_code 92 = .ok (.istore 5, 2) := by decide +kernel
theorem d_Mo_shift_94 : decode prog_10_method_21_code 94 = .ok (.iload 5, 2) := by decide +kernel
theorem d_Mo_shift_96 : decode prog_10_method_21_code 96 = .ok (.ifCond .le 36, 3) := by decide +kernel
theorem d_Mo_shift_99 : decode prog_10_method_21_code 99 = .ok (.aload_n 0, 1) := by decide +kernel
theorem d_Mo_shift_100 : decode prog_10_method_21_code 100 = .ok (.getfield 35, 3) := by decide +kernel
theorem d_Mo_shift_103 : decode prog_10_method_21_code 103 = .ok (.iload 5, 2) := by decide +kernel
theorem d_Mo_shift_105 : decode prog_10_method_21_code 105 = .ok (.aload_n 0, 1) := by decide +kernel
theorem d_Mo_shift_106 : decode prog_10_method_21_code 106 = .ok (.getfield 35, 3) := by decide +kernel
theorem d_Mo_shift_109 : decode prog_10_method_21_code 109 = .ok (.iload 5, 2) := by decide +kernel
theorem d_Mo_shift_111 : decode prog_10_method_21_code 111 = .ok (.laload, 1) := by decide +kernel
theorem d_Mo_shift_112 : decode prog_10_method_21_code 112 = .ok (.iload_n 3, 1) := by decide +kernel
theorem d_Mo_shift_113 : decode prog_10_method_21_code 113 = .ok (.i2l, 1) := by decide +kernel
theorem d_Mo_shift_114 : decode prog_10_method_21_code 114 = .ok (.lmul, 1) := by decide +kernel
theorem d_Mo_shift_115 : decode prog_10_method_21_code 115 = .ok (.aload_n 0, 1) := by decide +kernel
theorem d_Mo_shift_116 : decode prog_10_method_21_code 116 = .ok (.getfield 35, 3) := by decide +kernel
theorem d_Mo_shift_119 : decode prog_10_method_21_code 119 = .ok (.iload 5, 2) := by decide +kernel
theorem d_Mo_shift_121 : decode prog_10_method_21_code 121 = .ok (.iconst 1, 1) := by decide +kernel
theorem d_Mo_shift_122 : decode prog_10_method_21_code 122 = .ok (.isub, 1) := by decide +kernel
theorem d_Mo_shift_123 : decode prog_10_method_21_code 123 = .ok (.laload, 1) := by decide +kernel
theorem d_Mo_shift_124 : decode prog_10_method_21_code 124 = .ok (.ladd, 1) := by decide +kernel
theorem d_Mo_shift_125 : decode prog_10_method_21_code 125 = .ok (.lastore, 1) := by decide +kernel
theorem d_Mo_shift_126 : decode prog_10_method_21_code 126 = .ok (.iinc 5 (-1), 3) := by decide +kernel
theorem d_Mo_shift_129 : decode prog_10_method_21_code 129 = .ok (.goto (-35), 3) := by decide +kernel
theorem d_Mo_shift_132 : decode prog_10_method_21_code 132 = .ok (.aload_n 0, 1) := by decide +kernel
theorem d_Mo_shift_133 : decode prog_10_method_21_code 133 = .ok (.getfield 35, 3) := by decide +kernel
theorem d_Mo_shift_136 : decode prog_10_method_21_code 136 = .ok (.iconst 0, 1) := by decide +kernel
theorem d_Mo_shift_137 : decode prog_10_method_21_code 137 = .ok (.aload_n 0, 1) := by decide +kernel
theorem d_Mo_shift_138 : decode prog_10_method_21_code 138 = .ok (.getfield 35, 3) := by decide +kernel
theorem d_Mo_shift_141 : decode prog_10_method_21_code 141 = .ok (.iconst 0, 1) := by decide +kernel
theorem d_Mo_shift_142 : decode prog_10_method_21_code 142 = .ok (.laload, 1) := by decide +kernel
theorem d_Mo_shift_143 : decode prog_10_method_21_code 143 = .ok (.iload_n 3, 1) := by decide +kernel
theorem d_Mo_shift_144 : decode prog_10_method_21_code 144 = .ok (.i2l, 1) := by decide +kernel
theorem d_Mo_shift_145 : decode prog_10_method_21_code 145 = .ok (.lmul, 1) := by decide +kernel
theorem d_Mo_shift_146 : decode prog_10_method_21_code 146 = .ok (.aload_n 0, 1) := by decide +kernel
theorem d_Mo_shift_147 : decode prog_10_method_21_code 147 = .ok (.getfield 29, 3) := by decide +kernel
theorem d_Mo_shift_150 : decode prog_10_method_21_code 150 = .ok (.iload 4, 2) := by decide +kernel
theorem d_Mo_shift_152 : decode prog_10_method_21_code 152 = .ok (.laload, 1) := by decide +kernel
theorem d_Mo_shift_153 : decode prog_10_method_21_code 153 = .ok (.ladd, 1) := by decide +kernel
theorem d_Mo_shift_154 : decode prog_10_method_21_code 154 = .ok (.lastore, 1) := by decide +kernel
theorem d_Mo_shift_155 : decode prog_10_method_21_code 155 = .ok (.iinc 4 (-1), 3) := by decide +kernel
theorem d_Mo_shift_158 : decode prog_10_method_21_code 158 = .ok (.goto (-73), 3) := by decide +kernel
theorem d_Mo_shift_161 : decode prog_10_method_21_code 161 = .ok (.aload_n 0, 1) := by decide +kernel
theorem d_Mo_shift_162 : decode prog_10_method_21_code 162 = .ok (.iload_n 1, 1) := by decide +kernel
theorem d_Mo_shift_163 : decode prog_10_method_21_code 163 = .ok (.aload_n 0, 1) := by decide +kernel
theorem d_Mo_shift_164 : decode prog_10_method_21_code 164 = .ok (.getfield 35, 3) := by decide +kernel
theorem d_Mo_shift_167 : decode prog_10_method_21_code 167 = .ok (.iconst 3, 1) := by decide +kernel
theorem d_Mo_shift_168 : decode prog_10_method_21_code 168 = .ok (.invokevirtual 116, 3) := by decide +kernel
theorem d_Mo_shift_171 : decode prog_10_method_21_code 171 = .ok (.ireturn, 1) := by decide +kernel
def B_Mo_shift_94 (P : Int32 → zM → zN → Prop) (k85 : Int32 → zM → Prop) (a1 : Int32) (a3 : Int32) (v4 : Int32) (N : zN) (k94 : Int32 → zM → Prop) (v5 : Int32) (M : zM) : Prop := (v5 ≤ 0 → vp_in (0 : Int32) (zlong 108) ∧ vp_in v4 (zlong 106) ∧ vp_in (0 : Int32) (zlong 108) ∧ ∀ M15 : zM, M15 = zput M 108 (0 : Int32).toNatClampNeg (((M 108 (0 : Int32).toNatClampNeg) * a3.toInt64) + (M 106 v4.toNatClampNeg)) → k85 (v4 + (-1 : Int32)) M15) ∧ (¬ v5 ≤ 0 → vp_in v5 (zlong 108) ∧ vp_in (v5 - (1 : Int32)) (zlong 108) ∧ vp_in v5 (zlong 108) ∧ ∀ M16 : zM, M16 = zput M 108 v5.toNatClampNeg (((M 108 v5.toNatClampNeg) * a3.toInt64) + (M 108 (v5 - (1 : Int32)).toNatClampNeg)) → k94 (v5 + (-1 : Int32)) M16)
def L_Mo_shift_94 (P : Int32 → zM → zN → Prop) (k85 : Int32 → zM → Prop) (a1 : Int32) (a3 : Int32) (v4 : Int32) (N : zN) (n : Nat) : Int32 → zM → Prop := Nat.rec (fun _ _ => False) (fun _ k => B_Mo_shift_94 P k85 a1 a3 v4 N k) n
def B_Mo_shift_85 (P : Int32 → zM → zN → Prop) (a1 : Int32) (a3 : Int32) (N : zN) (k85 : Int32 → zM → Prop) (v4 : Int32) (M : zM) : Prop := (v4 < 0 → w_Mo_settle a1 108 (3 : Int32) M N (fun r12 N14 => P r12 M N14)) ∧ (¬ v4 < 0 → ∃ n, L_Mo_shift_94 P k85 a1 a3 v4 N n (8 : Int32) M)
def L_Mo_shift_85 (P : Int32 → zM → zN → Prop) (a1 : Int32) (a3 : Int32) (N : zN) (n : Nat) : Int32 → zM → Prop := Nat.rec (fun _ _ => False) (fun _ k => B_Mo_shift_85 P a1 a3 N k) n
def B_Mo_shift_60 (P : Int32 → zM → zN → Prop) (a1 : Int32) (a3 : Int32) (N : zN) (k60 : Int32 → zM → Prop) (v4 : Int32) (M : zM) : Prop := ((16 : Int32) ≤ v4 → ∃ n, L_Mo_shift_85 P a1 a3 N n (7 : Int32) M) ∧ (¬ (16 : Int32) ≤ v4 → vp_in v4 (zlong 108) ∧ ∀ M11 : zM, M11 = zput M 108 v4.toNatClampNeg (0 : Int64) → k60 (v4 + (1 : Int32)) M11)
def L_Mo_shift_60 (P : Int32 → zM → zN → Prop) (a1 : Int32) (a3 : Int32) (N : zN) (n : Nat) : Int32 → zM → Prop := Nat.rec (fun _ _ => False) (fun _ k => B_Mo_shift_60 P a1 a3 N k) n
def J_Mo_shift_36 (P : Int32 → zM → zN → Prop) (a1 : Int32) (a2 : Int32) (a3 : Int32) (t0 : Int32) (M : zM) (N : zN) : Prop := ∀ N7 : zN, N7 = zpui N 99 0 t0 → ((N7 99 0) ≤ 0 → w_Mo_load a2 106 M N7 (fun M9 => ∃ n, L_Mo_shift_60 P a1 a3 N7 n (0 : Int32) M9)) ∧ (¬ (N7 99 0) ≤ 0 → P (0 : Int32) M N7)
def w_Mo_shift (a1 : Int32) (a2 : Int32) (a3 : Int32) (M : zM) (N : zN) (P : Int32 → zM → zN → Prop) : Prop := w_Mo_isRegister a1  (fun r1 => (r1 = 0 → J_Mo_shift_36 P a1 a2 a3 (1 : Int32) M N) ∧ (¬ r1 = 0 → w_Mo_isRegister a2  (fun r4 => (¬ r4 = 0 → (a3 < (-9 : Int32) → J_Mo_shift_36 P a1 a2 a3 (2 : Int32) M N) ∧ (¬ a3 < (-9 : Int32) → (a3 ≤ (9 : Int32) → J_Mo_shift_36 P a1 a2 a3 (0 : Int32) M N) ∧ (¬ a3 ≤ (9 : Int32) → J_Mo_shift_36 P a1 a2 a3 (2 : Int32) M N))) ∧ (r4 = 0 → J_Mo_shift_36 P a1 a2 a3 (1 : Int32) M N))))
def ws_Mo_shift : List Cond := .code y_Mo_shift prog_10_method_21_code 6 (Option.some Jvm.ClassFile.FieldType.int) :: zall
def rm_Mo_shift : Room := { frames := 3, cells := 0, slots := 0, locals := 67 }
theorem hd_Mo_shift : y_Mo_shift.cls ≠ "java/lang/invoke/MethodHandle" ∧ y_Mo_shift.cls ≠ "java/lang/invoke/VarHandle" ∧ (parseMethodDescriptor y_Mo_shift.desc).map (fun d => d.parameters.length) = some 3 := by decide +kernel
set_option maxHeartbeats 4000000 in
set_option maxRecDepth 100000 in
theorem c_Mo_shift (l : Launch) (G : zG) (b : Nat) (a1 : Int32) (a2 : Int32) (a3 : Int32) (M : zM) (N : zN) {P : Int32 → zM → zN → Prop} (hw : w_Mo_shift a1 a2 a3 M N P) : Met l y_Mo_shift ws_Mo_shift rm_Mo_shift (zPc G b M N [.ref (b + 99), .int a1, .int a2, .int a3]) (zQi G b (fun r M' N' => P r M' N')) 0 0 (zA b) := by
  refine Met.ofW (cc := prog_10_method_21_code) (maxL := 6) (ret := (Option.some Jvm.ClassFile.FieldType.int)) (by decide) rfl ?_
  intro p e s m args below meth c s₁ B hml hv
  obtain ⟨rfl, hZ, hK, hT⟩ := hv
  have hx := B.exec
  have hb := B.bytes
  have hr := B.returns
  have hts := atoms_spec (ws := ws_Mo_shift) B.pre
  have hta : ∀ w ∈ zall, w.before ([.ref (b + 99), .int a1, .int a2, .int a3] : List Value).toArray s = true := fun w h => hts w (List.mem_cons_of_mem _ h)
  have hown : s.vm.findClass R_Mo = some m.cls := findClass_of_methodNamed B.named
  have hlocks := B.notSynchronized
  have hS : va_S (zA b) s.heap s.heap [] := va_S.rf
  have hl := lv_entry ([.ref (b + 99), .int a1, .int a2, .int a3]) (n := 6) (Nat.le_of_ble_eq_true rfl)
  rw [lg_entry_eq]
  generalize (lg_sl ([.ref (b + 99), .int a1, .int a2, .int a3]) ++ List.replicate (6 - (lg_sl ([.ref (b + 99), .int a1, .int a2, .int a3])).length) Slot.unset).toArray = ls at hl ⊢
  have hl : lv_has ls 6 [(0, .ref (b + 99)), (1, .int a1), (2, .int a2), (3, .int a3)] := hl
  have lp85 : ∀ (N : zN) (n : Nat) (v4 : Int32) (M : zM) (H : Heap) (ls : Array Slot) (locs : List Loc), va_P G.1 zCl (zws G b M N) H → va_S (zA b) s.heap H locs → lv_has ls 6 [(0, .ref (b + 99)), (1, .int a1), (3, .int a3), (4, .int v4)] → L_Mo_shift_85 P a1 a3 N n v4 M → W p l e (headSpec ws_Mo_shift rm_Mo_shift).room s m ([.ref (b + 99), .int a1, .int a2, .int a3] : List Value).toArray below meth c H locs 0 0 (MQ below (zQi G b (fun r M' N' => P r M' N')) ([.ref (b + 99), .int a1, .int a2, .int a3] : List Value).toArray s 0 0 (zA b)) (F0 m 85 ls []) := by
    intro N n
    induction n with
    | zero => intro v4 M H ls locs hZ hS hl hw; exact False.elim hw
    | succ n85 ih85 =>
      have lp94 : ∀ (v4 : Int32) (n : Nat) (v5 : Int32) (M : zM) (H : Heap) (ls : Array Slot) (locs : List Loc), va_P G.1 zCl (zws G b M N) H → va_S (zA b) s.heap H locs → lv_has ls 6 [(0, .ref (b + 99)), (1, .int a1), (3, .int a3), (4, .int v4), (5, .int v5)] → L_Mo_shift_94 P (L_Mo_shift_85 P a1 a3 N n85) a1 a3 v4 N n v5 M → W p l e (headSpec ws_Mo_shift rm_Mo_shift).room s m ([.ref (b + 99), .int a1, .int a2, .int a3] : List Value).toArray below meth c H locs 0 0 (MQ below (zQi G b (fun r M' N' => P r M' N')) ([.ref (b + 99), .int a1, .int a2, .int a3] : List Value).toArray s 0 0 (zA b)) (F0 m 94 ls []) := by
        intro v4 n
        induction n with
        | zero => intro v5 M H ls locs hZ hS hl hw; exact False.elim hw
        | succ n94 ih94 =>
          intro v5 M H ls locs hZ hS hl hw
          have hw : B_Mo_shift_94 P (L_Mo_shift_85 P a1 a3 N n85) a1 a3 v4 N (L_Mo_shift_94 P (L_Mo_shift_85 P a1 a3 N n85) a1 a3 v4 N n94) v5 M := hw
          unfold B_Mo_shift_94 at hw
          refine lv_iload (pc := 94) hx hb d_Mo_shift_94 (lv_at hl 4 rfl) ?_
          refine lv_if_le (pc := 96) (tgt := 132) hx hb d_Mo_shift_96 (by decide) (fun hc => ?_) (fun hc => ?_)
          · have hw := hw.1 hc
            refine lv_aload_n (pc := 132) hx hb d_Mo_shift_132 rfl (lv_at hl 0 rfl) ?_
            refine zg_Mo_35 (pc := 133) hx hb hta hown hK hZ d_Mo_shift_133 ?_
            refine lv_iconst (pc := 136) (v := 0) hx hb d_Mo_shift_136 (by decide) ?_
            refine lv_aload_n (pc := 137) hx hb d_Mo_shift_137 rfl (lv_at hl 0 rfl) ?_
            refine zg_Mo_35 (pc := 138) hx hb hta hown hK hZ d_Mo_shift_138 ?_
            refine lv_iconst (pc := 141) (v := 0) hx hb d_Mo_shift_141 (by decide) ?_
            obtain ⟨hc, hw⟩ := hw
            refine z_lald (pc := 142) hx hb hK hZ hc d_Mo_shift_142 ?_
            refine lv_iload_n (pc := 143) hx hb d_Mo_shift_143 rfl (lv_at hl 2 rfl) ?_
            refine lv_i2l (pc := 144) (v := a3.toInt64) hx hb d_Mo_shift_144 rfl ?_
            refine lv_lmul (pc := 145) hx hb d_Mo_shift_145 ?_
            refine lv_aload_n (pc := 146) hx hb d_Mo_shift_146 rfl (lv_at hl 0 rfl) ?_
            refine zg_Mo_29 (pc := 147) hx hb hta hown hK hZ d_Mo_shift_147 ?_
            refine lv_iload (pc := 150) hx hb d_Mo_shift_150 (lv_at hl 3 rfl) ?_
            obtain ⟨hc, hw⟩ := hw
            refine z_lald (pc := 152) hx hb hK hZ hc d_Mo_shift_152 ?_
            refine lv_ladd (pc := 153) hx hb d_Mo_shift_153 ?_
            obtain ⟨hc, hw⟩ := hw
            refine z_last (pc := 154) hx hb hK hZ hS hc d_Mo_shift_154 (fun M15 H locs hM15 hZ hS => ?_)
            have hw := hw M15 hM15
            refine lv_iinc (pc := 155) (k := 3) (v := v4 + (-1 : Int32)) (lv' := [(4, .int (v4 + (-1 : Int32))), (0, .ref (b + 99)), (1, .int a1), (3, .int a3), (5, .int v5)]) hx hb d_Mo_shift_155 hl rfl (by rfl) (by decide) rfl (fun ls hl => ?_)
            refine lv_goto (pc := 158) (tgt := 85) hx hb d_Mo_shift_158 (by decide) ?_
            exact ih85 (v4 + (-1 : Int32)) M15 _ _ _ hZ hS (lv_sub hl [1, 2, 3, 0] rfl) hw
          · have hw := hw.2 hc
            refine lv_aload_n (pc := 99) hx hb d_Mo_shift_99 rfl (lv_at hl 0 rfl) ?_
            refine zg_Mo_35 (pc := 100) hx hb hta hown hK hZ d_Mo_shift_100 ?_
            refine lv_iload (pc := 103) hx hb d_Mo_shift_103 (lv_at hl 4 rfl) ?_
            refine lv_aload_n (pc := 105) hx hb d_Mo_shift_105 rfl (lv_at hl 0 rfl) ?_
            refine zg_Mo_35 (pc := 106) hx hb hta hown hK hZ d_Mo_shift_106 ?_
            refine lv_iload (pc := 109) hx hb d_Mo_shift_109 (lv_at hl 4 rfl) ?_
            obtain ⟨hc, hw⟩ := hw
            refine z_lald (pc := 111) hx hb hK hZ hc d_Mo_shift_111 ?_
            refine lv_iload_n (pc := 112) hx hb d_Mo_shift_112 rfl (lv_at hl 2 rfl) ?_
            refine lv_i2l (pc := 113) (v := a3.toInt64) hx hb d_Mo_shift_113 rfl ?_
            refine lv_lmul (pc := 114) hx hb d_Mo_shift_114 ?_
            refine lv_aload_n (pc := 115) hx hb d_Mo_shift_115 rfl (lv_at hl 0 rfl) ?_
            refine zg_Mo_35 (pc := 116) hx hb hta hown hK hZ d_Mo_shift_116 ?_
            refine lv_iload (pc := 119) hx hb d_Mo_shift_119 (lv_at hl 4 rfl) ?_
            refine lv_iconst (pc := 121) (v := 1) hx hb d_Mo_shift_121 (by decide) ?_
            refine lv_isub (pc := 122) hx hb d_Mo_shift_122 ?_
            obtain ⟨hc, hw⟩ := hw
            refine z_lald (pc := 123) hx hb hK hZ hc d_Mo_shift_123 ?_
            refine lv_ladd (pc := 124) hx hb d_Mo_shift_124 ?_
            obtain ⟨hc, hw⟩ := hw
            refine z_last (pc := 125) hx hb hK hZ hS hc d_Mo_shift_125 (fun M16 H locs hM16 hZ hS => ?_)
            have hw := hw M16 hM16
            refine lv_iinc (pc := 126) (k := 4) (v := v5 + (-1 : Int32)) (lv' := [(5, .int (v5 + (-1 : Int32))), (0, .ref (b + 99)), (1, .int a1), (3, .int a3), (4, .int v4)]) hx hb d_Mo_shift_126 hl rfl (by rfl) (by decide) rfl (fun ls hl => ?_)
            refine lv_goto (pc := 129) (tgt := 94) hx hb d_Mo_shift_129 (by decide) ?_
            exact ih94 (v5 + (-1 : Int32)) M16 _ _ _ hZ hS (lv_sub hl [1, 2, 3, 4, 0] rfl) hw
      intro v4 M H ls locs hZ hS hl hw
      have hw : B_Mo_shift_85 P a1 a3 N (L_Mo_shift_85 P a1 a3 N n85) v4 M := hw
      unfold B_Mo_shift_85 at hw
      refine lv_iload (pc := 85) hx hb d_Mo_shift_85 (lv_at hl 3 rfl) ?_
      refine lv_if_lt (pc := 87) (tgt := 161) hx hb d_Mo_shift_87 (by decide) (fun hc => ?_) (fun hc => ?_)
      · have hw := hw.1 hc
        refine lv_aload_n (pc := 161) hx hb d_Mo_shift_161 rfl (lv_at hl 0 rfl) ?_
        refine lv_iload_n (pc := 162) hx hb d_Mo_shift_162 rfl (lv_at hl 1 rfl) ?_
        refine lv_aload_n (pc := 163) hx hb d_Mo_shift_163 rfl (lv_at hl 0 rfl) ?_
        refine zg_Mo_35 (pc := 164) hx hb hta hown hK hZ d_Mo_shift_164 ?_
        refine lv_iconst (pc := 167) (v := 3) hx hb d_Mo_shift_167 (by decide) ?_
        refine z_calli (pc := 168) (va_runV (C := R_Mo) (b := b + 99) (As := [.int a1, .ref (b + 108), .int (3 : Int32)]) (rest := []) ⟨hx, hb, hml, hown, hts⟩ (c_Mo_settle l G b a1 108 (3 : Int32) M N hw) (cwV 3 hts (z_good (zgV wd829 wd831 wsel19 wd7 wd832)) rfl rfl rfl ⟨rfl, hd_Mo_settle⟩ ⟨Nat.le_of_ble_eq_true rfl, Nat.le_of_ble_eq_true rfl⟩) (z_preV zo_Mo rfl rfl hZ hK hT hS) rfl rfl hl.1 rfl (lv_room (Nat.le_of_ble_eq_true rfl)) d_Mo_shift_168 ⟨Nat.le_of_ble_eq_true rfl, Nat.le_of_ble_eq_true rfl⟩) hS (fun r12 M13 N14 H locs hw hZ hS => ?_)
        obtain ⟨hw, eM13⟩ := hw
        rw [eM13] at hZ
        exact z_iret hx hb hr hlocks hK hT hZ hS hw d_Mo_shift_171
      · have hw := hw.2 hc
        refine lv_bipush (pc := 90) (v := 8) hx hb d_Mo_shift_90 (by decide) ?_
        refine lv_istore (pc := 92) (lv' := [(5, .int (8 : Int32)), (0, .ref (b + 99)), (1, .int a1), (3, .int a3), (4, .int v4)]) hx hb d_Mo_shift_92 hl (by decide) rfl (fun ls hl => ?_)
        obtain ⟨n, hw⟩ := hw
        exact lp94 v4 n (8 : Int32) M _ _ _ hZ hS (lv_sub hl [1, 2, 3, 4, 0] rfl) hw
  have lp60 : ∀ (N : zN) (n : Nat) (v4 : Int32) (M : zM) (H : Heap) (ls : Array Slot) (locs : List Loc), va_P G.1 zCl (zws G b M N) H → va_S (zA b) s.heap H locs → lv_has ls 6 [(0, .ref (b + 99)), (1, .int a1), (3, .int a3), (4, .int v4)] → L_Mo_shift_60 P a1 a3 N n v4 M → W p l e (headSpec ws_Mo_shift rm_Mo_shift).room s m ([.ref (b + 99), .int a1, .int a2, .int a3] : List Value).toArray below meth c H locs 0 0 (MQ below (zQi G b (fun r M' N' => P r M' N')) ([.ref (b + 99), .int a1, .int a2, .int a3] : List Value).toArray s 0 0 (zA b)) (F0 m 60 ls []) := by
    intro N n
    induction n with
    | zero => intro v4 M H ls locs hZ hS hl hw; exact False.elim hw
    | succ n60 ih60 =>
      intro v4 M H ls locs hZ hS hl hw
      have hw : B_Mo_shift_60 P a1 a3 N (L_Mo_shift_60 P a1 a3 N n60) v4 M := hw
      unfold B_Mo_shift_60 at hw
      refine lv_iload (pc := 60) hx hb d_Mo_shift_60 (lv_at hl 3 rfl) ?_
      refine lv_bipush (pc := 62) (v := 16) hx hb d_Mo_shift_62 (by decide) ?_
      refine lv_icmp_ge (pc := 64) (tgt := 81) hx hb d_Mo_shift_64 (by decide) (fun hc => ?_) (fun hc => ?_)
      · have hw := hw.1 hc
        refine lv_bipush (pc := 81) (v := 7) hx hb d_Mo_shift_81 (by decide) ?_
        refine lv_istore (pc := 83) (lv' := [(4, .int (7 : Int32)), (0, .ref (b + 99)), (1, .int a1), (3, .int a3)]) hx hb d_Mo_shift_83 hl (by decide) rfl (fun ls hl => ?_)
        obtain ⟨n, hw⟩ := hw
        exact lp85 N n (7 : Int32) M _ _ _ hZ hS (lv_sub hl [1, 2, 3, 0] rfl) hw
      · have hw := hw.2 hc
        refine lv_aload_n (pc := 67) hx hb d_Mo_shift_67 rfl (lv_at hl 0 rfl) ?_
        refine zg_Mo_35 (pc := 68) hx hb hta hown hK hZ d_Mo_shift_68 ?_
        refine lv_iload (pc := 71) hx hb d_Mo_shift_71 (lv_at hl 3 rfl) ?_
        refine lv_lconst (pc := 73) (v := 0) hx hb d_Mo_shift_73 (by decide) ?_
        obtain ⟨hc, hw⟩ := hw
        refine z_last (pc := 74) hx hb hK hZ hS hc d_Mo_shift_74 (fun M11 H locs hM11 hZ hS => ?_)
        have hw := hw M11 hM11
        refine lv_iinc (pc := 75) (k := 3) (v := v4 + (1 : Int32)) (lv' := [(4, .int (v4 + (1 : Int32))), (0, .ref (b + 99)), (1, .int a1), (3, .int a3)]) hx hb d_Mo_shift_75 hl rfl (by rfl) (by decide) rfl (fun ls hl => ?_)
        refine lv_goto (pc := 78) (tgt := 60) hx hb d_Mo_shift_78 (by decide) ?_
        exact ih60 (v4 + (1 : Int32)) M11 _ _ _ hZ hS (lv_sub hl [1, 2, 3, 0] rfl) hw
  have j36 : ∀ (t0 : Int32) (M : zM) (N : zN) (H : Heap) (ls : Array Slot) (locs : List Loc), va_P G.1 zCl (zws G b M N) H → va_S (zA b) s.heap H locs → lv_has ls 6 [(0, .ref (b + 99)), (1, .int a1), (2, .int a2), (3, .int a3)] → J_Mo_shift_36 P a1 a2 a3 t0 M N → W p l e (headSpec ws_Mo_shift rm_Mo_shift).room s m ([.ref (b + 99), .int a1, .int a2, .int a3] : List Value).toArray below meth c H locs 0 0 (MQ below (zQi G b (fun r M' N' => P r M' N')) ([.ref (b + 99), .int a1, .int a2, .int a3] : List Value).toArray s 0 0 (zA b)) (F0 m 36 ls [.int t0, .ref (b + 99)]) := by
    intro t0 M N H ls locs hZ hS hl hw
    unfold J_Mo_shift_36 at hw
    refine zp_Mo_78 (pc := 36) hx hb hta hown hK hZ hS d_Mo_shift_36 (fun N7 H locs hN7 hZ hS => ?_)
    have hw := hw N7 hN7
    refine lv_aload_n (pc := 39) hx hb d_Mo_shift_39 rfl (lv_at hl 0 rfl) ?_
    refine zg_Mo_78 (pc := 40) hx hb hta hown hK hZ d_Mo_shift_40 ?_
    refine lv_if_le (pc := 43) (tgt := 48) hx hb d_Mo_shift_43 (by decide) (fun hc => ?_) (fun hc => ?_)
    · have hw := hw.1 hc
      refine lv_aload_n (pc := 48) hx hb d_Mo_shift_48 rfl (lv_at hl 0 rfl) ?_
      refine lv_iload_n (pc := 49) hx hb d_Mo_shift_49 rfl (lv_at hl 2 rfl) ?_
      refine lv_aload_n (pc := 50) hx hb d_Mo_shift_50 rfl (lv_at hl 0 rfl) ?_
      refine zg_Mo_29 (pc := 51) hx hb hta hown hK hZ d_Mo_shift_51 ?_
      refine z_callv (pc := 54) (va_runV (C := R_Mo) (b := b + 99) (As := [.int a2, .ref (b + 106)]) (rest := []) ⟨hx, hb, hml, hown, hts⟩ (c_Mo_load l G b a2 106 M N7 hw) (cwV 2 hts (z_good (zgV wd810 wd812 wsel18 wd7 wd813)) rfl rfl rfl ⟨rfl, hd_Mo_load⟩ ⟨Nat.le_of_ble_eq_true rfl, Nat.le_of_ble_eq_true rfl⟩) (z_preV zo_Mo rfl rfl hZ hK hT hS) rfl rfl hl.1 rfl (lv_room (Nat.le_of_ble_eq_true rfl)) d_Mo_shift_54 ⟨Nat.le_of_ble_eq_true rfl, Nat.le_of_ble_eq_true rfl⟩) hS (fun M9 N10 H locs hw hZ hS => ?_)
      obtain ⟨hw, eN10⟩ := hw
      rw [eN10] at hZ
      refine lv_iconst (pc := 57) (v := 0) hx hb d_Mo_shift_57 (by decide) ?_
      refine lv_istore (pc := 58) (lv' := [(4, .int (0 : Int32)), (0, .ref (b + 99)), (1, .int a1), (2, .int a2), (3, .int a3)]) hx hb d_Mo_shift_58 hl (by decide) rfl (fun ls hl => ?_)
      obtain ⟨n, hw⟩ := hw
      exact lp60 N7 n (0 : Int32) M9 _ _ _ hZ hS (lv_sub hl [1, 2, 4, 0] rfl) hw
    · have hw := hw.2 hc
      refine lv_iconst (pc := 46) (v := 0) hx hb d_Mo_shift_46 (by decide) ?_
      exact z_iret hx hb hr hlocks hK hT hZ hS hw d_Mo_shift_47
  unfold w_Mo_shift at hw
  refine lv_aload_n (pc := 0) hx hb d_Mo_shift_0 rfl (lv_at hl 0 rfl) ?_
  refine lv_iload_n (pc := 1) hx hb d_Mo_shift_1 rfl (lv_at hl 1 rfl) ?_
  refine z_calli (pc := 2) (va_runS (As := [.int a1]) (rest := [.ref (b + 99)]) ⟨hx, hb, hml, hown, hts⟩ (c_Mo_isRegister l G b a1 M N hw) (va_cwS 1 hts (z_good (zgS wd805 wd806 wd7 wd807)) rfl rfl rfl hd_Mo_isRegister ⟨Nat.le_of_ble_eq_true rfl, Nat.le_of_ble_eq_true rfl⟩) (z_preS hZ hK hT hS) rfl rfl hl.1 rfl (lv_room (Nat.le_of_ble_eq_true rfl)) d_Mo_shift_2 ⟨Nat.le_of_ble_eq_true rfl, Nat.le_of_ble_eq_true rfl⟩) hS (fun r1 M2 N3 H locs hw hZ hS => ?_)
  obtain ⟨hw, eM2, eN3⟩ := hw
  rw [eM2, eN3] at hZ
  refine lv_if_eq (pc := 5) (tgt := 15) hx hb d_Mo_shift_5 (by decide) (fun hc => ?_) (fun hc => ?_)
  · have hw := hw.1 hc
    refine lv_iconst (pc := 15) (v := 1) hx hb d_Mo_shift_15 (by decide) ?_
    refine lv_goto (pc := 16) (tgt := 36) hx hb d_Mo_shift_16 (by decide) ?_
    exact j36 (1 : Int32) M N _ _ _ hZ hS hl hw
  · have hw := hw.2 hc
    refine lv_iload_n (pc := 8) hx hb d_Mo_shift_8 rfl (lv_at hl 2 rfl) ?_
    refine z_calli (pc := 9) (va_runS (As := [.int a2]) (rest := [.ref (b + 99)]) ⟨hx, hb, hml, hown, hts⟩ (c_Mo_isRegister l G b a2 M N hw) (va_cwS 1 hts (z_good (zgS wd805 wd806 wd7 wd807)) rfl rfl rfl hd_Mo_isRegister ⟨Nat.le_of_ble_eq_true rfl, Nat.le_of_ble_eq_true rfl⟩) (z_preS hZ hK hT hS) rfl rfl hl.1 rfl (lv_room (Nat.le_of_ble_eq_true rfl)) d_Mo_shift_9 ⟨Nat.le_of_ble_eq_true rfl, Nat.le_of_ble_eq_true rfl⟩) hS (fun r4 M5 N6 H locs hw hZ hS => ?_)
    obtain ⟨hw, eM5, eN6⟩ := hw
    rw [eM5, eN6] at hZ
    refine lv_if_ne (pc := 12) (tgt := 19) hx hb d_Mo_shift_12 (by decide) (fun hc => ?_) (fun hc => ?_)
    · have hw := hw.1 hc
      refine lv_iload_n (pc := 19) hx hb d_Mo_shift_19 rfl (lv_at hl 3 rfl) ?_
      refine lv_bipush (pc := 20) (v := -9) hx hb d_Mo_shift_20 (by decide) ?_
      refine lv_icmp_lt (pc := 22) (tgt := 31) hx hb d_Mo_shift_22 (by decide) (fun hc => ?_) (fun hc => ?_)
      · have hw := hw.1 hc
        refine lv_iconst (pc := 31) (v := 2) hx hb d_Mo_shift_31 (by decide) ?_
        refine lv_goto (pc := 32) (tgt := 36) hx hb d_Mo_shift_32 (by decide) ?_
        exact j36 (2 : Int32) M N _ _ _ hZ hS hl hw
      · have hw := hw.2 hc
        refine lv_iload_n (pc := 25) hx hb d_Mo_shift_25 rfl (lv_at hl 3 rfl) ?_
        refine lv_bipush (pc := 26) (v := 9) hx hb d_Mo_shift_26 (by decide) ?_
        refine lv_icmp_le (pc := 28) (tgt := 35) hx hb d_Mo_shift_28 (by decide) (fun hc => ?_) (fun hc => ?_)
        · have hw := hw.1 hc
          refine lv_iconst (pc := 35) (v := 0) hx hb d_Mo_shift_35 (by decide) ?_
          exact j36 (0 : Int32) M N _ _ _ hZ hS hl hw
        · have hw := hw.2 hc
          refine lv_iconst (pc := 31) (v := 2) hx hb d_Mo_shift_31 (by decide) ?_
          refine lv_goto (pc := 32) (tgt := 36) hx hb d_Mo_shift_32 (by decide) ?_
          exact j36 (2 : Int32) M N _ _ _ hZ hS hl hw
    · have hw := hw.2 hc
      refine lv_iconst (pc := 15) (v := 1) hx hb d_Mo_shift_15 (by decide) ?_
      refine lv_goto (pc := 16) (tgt := 36) hx hb d_Mo_shift_16 (by decide) ?_
      exact j36 (1 : Int32) M N _ _ _ hZ hS hl hw
theorem zg_Mo_38 {p : Program} {l : Launch} {e : Env} {R : Room} {s : State} {m : MethodId} {args : Array Value} {below : List Frame} {meth : Method} {c : Code} {H : Heap} {locs : List Loc} {cells slots : Nat} {Q : State → Prop} {cc : ByteArray} {pc : Nat} {ls : Array Slot} {rest : List Value} {G : zG} {b : Nat} {M : zM} {N : zN} (hx : p.tables.exec = Jvm.exec) (hb : c.code = cc) (hta : ∀ w ∈ zall, w.before args s = true) (hown : s.vm.findClass R_Mo = some m.cls) (hK : va_K G.1 zCl (zty G) s) (hZ : va_P G.1 zCl (zws G b M N) H) (hdg : decode cc pc = .ok (.getfield 38, 3)) (kk : W p l e R s m args below meth c H locs cells slots Q (F0 m (pc + 3) ls (.ref (b + 109) :: rest))) : W p l e R s m args below meth c H locs cells slots Q (F0 m pc ls (.ref (b + 99) :: rest)) :=
  va_get (D := G.1) (ci := 6) (v := .ref (b + 109)) (C := R_Mo) (T := T_Mo) (N := 23) hx hb hta hin_Mo hown hK hZ 99 zo_Mo rfl 13 (by decide) (hta _ wd740) (fun _ h9 => h9) rfl hdg kk
theorem zg_Mo_41 {p : Program} {l : Launch} {e : Env} {R : Room} {s : State} {m : MethodId} {args : Array Value} {below : List Frame} {meth : Method} {c : Code} {H : Heap} {locs : List Loc} {cells slots : Nat} {Q : State → Prop} {cc : ByteArray} {pc : Nat} {ls : Array Slot} {rest : List Value} {G : zG} {b : Nat} {M : zM} {N : zN} (hx : p.tables.exec = Jvm.exec) (hb : c.code = cc) (hta : ∀ w ∈ zall, w.before args s = true) (hown : s.vm.findClass R_Mo = some m.cls) (hK : va_K G.1 zCl (zty G) s) (hZ : va_P G.1 zCl (zws G b M N) H) (hdg : decode cc pc = .ok (.getfield 41, 3)) (kk : W p l e R s m args below meth c H locs cells slots Q (F0 m (pc + 3) ls (.ref (b + 110) :: rest))) : W p l e R s m args below meth c H locs cells slots Q (F0 m pc ls (.ref (b + 99) :: rest)) :=
  va_get (D := G.1) (ci := 6) (v := .ref (b + 110)) (C := R_Mo) (T := T_Mo) (N := 23) hx hb hta hin_Mo hown hK hZ 99 zo_Mo rfl 14 (by decide) (hta _ wd741) (fun _ h9 => h9) rfl hdg kk
theorem d_Mo_divides_0 : decode prog_10_method_22_code 0 = .ok (.aload_n 1, 1) := by decide +kernel
theorem d_Mo_divides_1 : decode prog_10_method_22_code 1 = .ok (.invokestatic 82, 3) := by decide +kernel
theorem d_Mo_divides_4 : decode prog_10_method_22_code 4 = .ok (.istore_n 3, 1) := by decide +kernel
theorem d_Mo_divides_5 : decode prog_10_method_22_code 5 = .ok (.aload_n 2, 1) := by decide +kernel
theorem d_Mo_divides_6 : decode prog_10_method_22_code 6 = .ok (.invokestatic 82, 3) := by decide +kernel
theorem d_Mo_divides_9 : decode prog_10_method_22_code 9 = .ok (.istore 4, 2) := by decide +kernel
theorem d_Mo_divides_11 : decode prog_10_method_22_code 11 = .ok (.aload_n 2, 1) := by decide +kernel
theorem d_Mo_divides_12 : decode prog_10_method_22_code 12 = .ok (.aload_n 0, 1) := by decide +kernel
theorem d_Mo_divides_13 : decode prog_10_method_22_code 13 = .ok (.getfield 38, 3) := by decide +kernel
theorem d_Mo_divides_16 : decode prog_10_method_22_code 16 = .ok (.invokestatic 124, 3) := by decide +kernel
theorem d_Mo_divides_19 : decode prog_10_method_22_code 19 = .ok (.iconst 0, 1) := by decide +kernel
theorem d_Mo_divides_20 : decode prog_10_method_22_code 20 = .ok (.istore 5, 2) := by decide +kernel
theorem d_Mo_divides_22 : decode prog_10_method_22_code 22 = .ok (.iload 5, 2) := by decide +kernel
theorem d_Mo_divides_24 : decode prog_10_method_22_code 24 = .ok (.bipush 16, 2) := by decide +kernel
theorem d_Mo_divides_26 : decode prog_10_method_22_code 26 = .ok (.if_icmp .ge 17, 3) := by decide +kernel
theorem d_Mo_divides_29 : decode prog_10_method_22_code 29 = .ok (.aload_n 0, 1) := by decide +kernel
theorem d_Mo_divides_30 : decode prog_10_method_22_code 30 = .ok (.getfield 41, 3) := by decide +kernel
theorem d_Mo_divides_33 : decode prog_10_method_22_code 33 = .ok (.iload 5, 2) := by decide +kernel
theorem d_Mo_divides_35 : decode prog_10_method_22_code 35 = .ok (.lconst 0, 1) := by decide +kernel
theorem d_Mo_divides_36 : decode prog_10_method_22_code 36 = .ok (.lastore, 1) := by decide +kernel
theorem d_Mo_divides_37 : decode prog_10_method_22_code 37 = .ok (.iinc 5 1, 3) := by decide +kernel
theorem d_Mo_divides_40 : decode prog_10_method_22_code 40 = .ok (.goto (-18), 3) := by decide +kernel
theorem d_Mo_divides_43 : decode prog_10_method_22_code 43 = .ok (.iload 4, 2) := by decide +kernel
theorem d_Mo_divides_45 : decode prog_10_method_22_code 45 = .ok (.iload_n 3, 1) := by decide +kernel
theorem d_Mo_divides_46 : decode prog_10_method_22_code 46 = .ok (.isub, 1) := by decide +kernel
theorem d_Mo_divides_47 : decode prog_10_method_22_code 47 = .ok (.istore 5, 2) := by decide +kernel
theorem d_Mo_divides_49 : decode prog_10_method_22_code 49 = .ok (.iload 5, 2) := by decide +kernel
theorem d_Mo_divides_51 : decode prog_10_method_22_code 51 = .ok (.ifCond .lt 110, 3) := by decide +kernel
theorem d_Mo_divides_54 : decode prog_10_method_22_code 54 = .ok (.aload_n 0, 1) := by decide +kernel
theorem d_Mo_divides_55 : decode prog_10_method_22_code 55 = .ok (.getfield 38, 3) := by decide +kernel
theorem d_Mo_divides_58 : decode prog_10_method_22_code 58 = .ok (.iload 5, 2) := by decide +kernel
theorem d_Mo_divides_60 : decode prog_10_method_22_code 60 = .ok (.iload_n 3, 1) := by decide +kernel
theorem d_Mo_divides_61 : decode prog_10_method_22_code 61 = .ok (.iadd, 1) := by decide +kernel
theorem d_Mo_divides_62 : decode prog_10_method_22_code 62 = .ok (.laload, 1) := by decide +kernel
theorem d_Mo_divides_63 : decode prog_10_method_22_code 63 = .ok (.aload_n 1, 1) := by decide +kernel
theorem d_Mo_divides_64 : decode prog_10_method_22_code 64 = .ok (.iload_n 3, 1) := by decide +kernel
theorem d_Mo_divides_65 : decode prog_10_method_22_code 65 = .ok (.laload, 1) := by decide +kernel
theorem d_Mo_divides_66 : decode prog_10_method_22_code 66 = .ok (.lrem, 1) := by decide +kernel
theorem d_Mo_divides_67 : decode prog_10_method_22_code 67 = .ok (.lconst 0, 1) := by decide +kernel
theorem d_Mo_divides_68 : decode prog_10_method_22_code 68 = .ok (.lcmp, 1) := by decide +kernel
theorem d_Mo_divides_69 : decode prog_10_method_22_code 69 = .ok (.ifCond .eq 5, 3) := by decide +kernel
theorem d_Mo_divides_72 : decode prog_10_method_22_code 72 = .ok (.iconst 0, 1) := by decide +kernel
theorem d_Mo_divides_73 : decode prog_10_method_22_code 73 = .ok (.ireturn, 1) := by decide +kernel
theorem d_Mo_divides_74 : decode prog_10_method_22_code 74 = .ok (.aload_n 0, 1) := by decide +kernel
theorem d_Mo_divides_75 : decode prog_10_method_22_code 75 = .ok (.getfield 38, 3) := by decide +kernel
theorem d_Mo_divides_78 : decode prog_10_method_22_code 78 = .ok (.iload 5, 2) := by decide +kernel
theorem d_Mo_divides_80 : decode prog_10_method_22_code 80 = .ok (.iload_n 3, 1) := by decide +kernel
theorem d_Mo_divides_81 : decode prog_10_method_22_code 81 = .ok (.iadd, 1) := by decide +kernel
theorem d_Mo_divides_82 : decode prog_10_method_22_code 82 = .ok (.laload, 1) := by decide +kernel
theorem d_Mo_divides_83 : decode prog_10_method_22_code 83 = .ok (.aload_n 1, 1) := by decide +kernel
theorem d_Mo_divides_84 : decode prog_10_method_22_code 84 = .ok (.iload_n 3, 1) := by decide +kernel
theorem d_Mo_divides_85 : decode prog_10_method_22_code 85 = .ok (.laload, 1) := by decide +kernel
theorem d_Mo_divides_86 : decode prog_10_method_22_code 86 = .ok (.ldiv, 1) := by decide +kernel
theorem d_Mo_divides_87 : decode prog_10_method_22_code 87 = .ok (.lstore 6, 2) := by decide +kernel
theorem d_Mo_divides_89 : decode prog_10_method_22_code 89 = .ok (.lload 6, 2) := by decide +kernel
theorem d_Mo_divides_91 : decode prog_10_method_22_code 91 = .ok (.invokestatic 90, 3) := by decide +kernel
theorem d_Mo_divides_94 : decode prog_10_method_22_code 94 = .ok (.ldc2_w 127, 3) := by decide +kernel
theorem d_Mo_divides_97 : decode prog_10_method_22_code 97 = .ok (.lcmp, 1) := by decide +kernel
theorem d_Mo_divides_98 : decode prog_10_method_22_code 98 = .ok (.ifCond .le 5, 3) := by decide +kernel
theorem d_Mo_divides_101 : decode prog_10_method_22_code 101 = .ok (.iconst 0, 1) := by decide +kernel
theorem d_Mo_divides_102 : decode prog_10_method_22_code 102 = .ok (.ireturn, 1) := by decide +kernel
theorem d_Mo_divides_103 : decode prog_10_method_22_code 103 = .ok (.aload_n 0, 1) := by decide +kernel
theorem d_Mo_divides_104 : decode prog_10_method_22_code 104 = .ok (.getfield 41, 3) := by decide +kernel
theorem d_Mo_divides_107 : decode prog_10_method_22_code 107 = .ok (.iload 5, 2) := by decide +kernel
theorem d_Mo_divides_109 : decode prog_10_method_22_code 109 = .ok (.lload 6, 2) := by decide +kernel
theorem d_Mo_divides_111 : decode prog_10_method_22_code 111 = .ok (.lastore, 1) := by decide +kernel
theorem d_Mo_divides_112 : decode prog_10_method_22_code 112 = .ok (.iconst 0, 1) := by decide +kernel
theorem d_Mo_divides_113 : decode prog_10_method_22_code 113 = .ok (.istore 8, 2) := by decide +kernel
theorem d_Mo_divides_115 : decode prog_10_method_22_code 115 = .ok (.iload 8, 2) := by decide +kernel
theorem d_Mo_divides_117 : decode prog_10_method_22_code 117 = .ok (.iload_n 3, 1) := by decide +kernel
theorem d_Mo_divides_118 : decode prog_10_method_22_code 118 = .ok (.if_icmp .gt 37, 3) := by decide +kernel
theorem d_Mo_divides_121 : decode prog_10_method_22_code 121 = .ok (.aload_n 0, 1) := by decide +kernel
theorem d_Mo_divides_122 : decode prog_10_method_22_code 122 = .ok (.getfield 38, 3) := by decide +kernel
theorem d_Mo_divides_125 : decode prog_10_method_22_code 125 = .ok (.iload 5, 2) := by decide +kernel
theorem d_Mo_divides_127 : decode prog_10_method_22_code 127 = .ok (.iload 8, 2) := by decide +kernel
theorem d_Mo_divides_129 : decode prog_10_method_22_code 129 = .ok (.iadd, 1) := by decide +kernel
theorem d_Mo_divides_130 : decode prog_10_method_22_code 130 = .ok (.aload_n 0, 1) := by decide +kernel
theorem d_Mo_divides_131 : decode prog_10_method_22_code 131 = .ok (.getfield 38, 3) := by decide +kernel
theorem d_Mo_divides_134 : decode prog_10_method_22_code 134 = .ok (.iload 5, 2) := by decide +kernel
theorem d_Mo_divides_136 : decode prog_10_method_22_code 136 = .ok (.iload 8, 2) := by decide +kernel
theorem d_Mo_divides_138 : decode prog_10_method_22_code 138 = .ok (.iadd, 1) := by decide +kernel
theorem d_Mo_divides_139 : decode prog_10_method_22_code 139 = .ok (.laload, 1) := by decide +kernel
theorem d_Mo_divides_140 : decode prog_10_method_22_code 140 = .ok (.lload 6, 2) := by decide +kernel
theorem d_Mo_divides_142 : decode prog_10_method_22_code 142 = .ok (.aload_n 1, 1) := by decide +kernel
theorem d_Mo_divides_143 : decode prog_10_method_22_code 143 = .ok (.iload 8, 2) := by decide +kernel
theorem d_Mo_divides_145 : decode prog_10_method_22_code 145 = .ok (.laload, 1) := by decide +kernel
theorem d_Mo_divides_146 : decode prog_10_method_22_code 146 = .ok (.lmul, 1) := by decide +kernel
theorem d_Mo_divides_147 : decode prog_10_method_22_code 147 = .ok (.lsub, 1) := by decide +kernel
theorem d_Mo_divides_148 : decode prog_10_method_22_code 148 = .ok (.lastore, 1) := by decide +kernel
theorem d_Mo_divides_149 : decode prog_10_method_22_code 149 = .ok (.iinc 8 1, 3) := by decide +kernel
theorem d_Mo_divides_152 : decode prog_10_method_22_code 152 = .ok (.goto (-37), 3) := by decide +kernel
theorem d_Mo_divides_155 : decode prog_10_method_22_code 155 = .ok (.iinc 5 (-1), 3) := by decide +kernel
theorem d_Mo_divides_158 : decode prog_10_method_22_code 158 = .ok (.goto (-109), 3) := by decide +kernel
theorem d_Mo_divides_161 : decode prog_10_method_22_code 161 = .ok (.aload_n 0, 1) := by decide +kernel
theorem d_Mo_divides_162 : decode prog_10_method_22_code 162 = .ok (.getfield 38, 3) := by decide +kernel
theorem d_Mo_divides_165 : decode prog_10_method_22_code 165 = .ok (.invokestatic 82, 3) := by decide +kernel
theorem d_Mo_divides_168 : decode prog_10_method_22_code 168 = .ok (.ifCond .ge 7, 3) := by decide +kernel
theorem d_Mo_divides_171 : decode prog_10_method_22_code 171 = .ok (.iconst 1, 1) := by decide +kernel
theorem d_Mo_divides_172 : decode prog_10_method_22_code 172 = .ok (.goto 4, 3) := by decide +kernel
theorem d_Mo_divides_175 : decode prog_10_method_22_code 175 = .ok (.iconst 0, 1) := by decide +kernel
theorem d_Mo_divides_176 : decode prog_10_method_22_code 176 = .ok (.ireturn, 1) := by decide +kernel
def B_Mo_divides_115 (P : Int32 → zM → Prop) (k49 : Int32 → zM → Prop) (a1 : Nat) (v3 : Int32) (v5 : Int32) (v6 : Int64) (k115 : Int32 → zM → Prop) (v8 : Int32) (M : zM) : Prop := (v3 < v8 → k49 (v5 + (-1 : Int32)) M) ∧ (¬ v3 < v8 → vp_in (v5 + v8) (zlong 109) ∧ vp_in v8 (zlong a1) ∧ vp_in (v5 + v8) (zlong 109) ∧ ∀ M20 : zM, M20 = zput M 109 (v5 + v8).toNatClampNeg ((M 109 (v5 + v8).toNatClampNeg) - (v6 * (M a1 v8.toNatClampNeg))) → k115 (v8 + (1 : Int32)) M20)
def L_Mo_divides_115 (P : Int32 → zM → Prop) (k49 : Int32 → zM → Prop) (a1 : Nat) (v3 : Int32) (v5 : Int32) (v6 : Int64) (n : Nat) : Int32 → zM → Prop := Nat.rec (fun _ _ => False) (fun _ k => B_Mo_divides_115 P k49 a1 v3 v5 v6 k) n
def B_Mo_divides_49 (P : Int32 → zM → Prop) (a1 : Nat) (v3 : Int32) (k49 : Int32 → zM → Prop) (v5 : Int32) (M : zM) : Prop := (v5 < 0 → w_Mo_degreeOf 109 M (fun r12 => (0 ≤ r12 → narrow .boolean (.int (0 : Int32)) = .int (0 : Int32) ∧ P (0 : Int32) M) ∧ (¬ 0 ≤ r12 → narrow .boolean (.int (1 : Int32)) = .int (1 : Int32) ∧ P (1 : Int32) M))) ∧ (¬ v5 < 0 → vp_in (v5 + v3) (zlong 109) ∧ vp_in v3 (zlong a1) ∧ ¬ (M a1 v3.toNatClampNeg) = 0 ∧ (((M 109 (v5 + v3).toNatClampNeg) - (M 109 (v5 + v3).toNatClampNeg) / (M a1 v3.toNatClampNeg) * (M a1 v3.toNatClampNeg)) = (0 : Int64) → vp_in (v5 + v3) (zlong 109) ∧ vp_in v3 (zlong a1) ∧ ¬ (M a1 v3.toNatClampNeg) = 0 ∧ ∀ x15 : Int64, x15 = (M 109 (v5 + v3).toNatClampNeg) / (M a1 v3.toNatClampNeg) → w_Mo_amount x15  (fun r16 => (r16 ≤ (100000000 : Int64) → vp_in v5 (zlong 110) ∧ ∀ M19 : zM, M19 = zput M 110 v5.toNatClampNeg x15 → ∃ n, L_Mo_divides_115 P k49 a1 v3 v5 x15 n (0 : Int32) M19) ∧ (¬ r16 ≤ (100000000 : Int64) → narrow .boolean (.int (0 : Int32)) = .int (0 : Int32) ∧ P (0 : Int32) M))) ∧ (¬ ((M 109 (v5 + v3).toNatClampNeg) - (M 109 (v5 + v3).toNatClampNeg) / (M a1 v3.toNatClampNeg) * (M a1 v3.toNatClampNeg)) = (0 : Int64) → narrow .boolean (.int (0 : Int32)) = .int (0 : Int32) ∧ P (0 : Int32) M))
def L_Mo_divides_49 (P : Int32 → zM → Prop) (a1 : Nat) (v3 : Int32) (n : Nat) : Int32 → zM → Prop := Nat.rec (fun _ _ => False) (fun _ k => B_Mo_divides_49 P a1 v3 k) n
def B_Mo_divides_22 (P : Int32 → zM → Prop) (a1 : Nat) (v3 : Int32) (v4 : Int32) (k22 : Int32 → zM → Prop) (v5 : Int32) (M : zM) : Prop := ((16 : Int32) ≤ v5 → ∀ x10 : Int32, x10 = v4 - v3 → ∃ n, L_Mo_divides_49 P a1 v3 n x10 M) ∧ (¬ (16 : Int32) ≤ v5 → vp_in v5 (zlong 110) ∧ ∀ M11 : zM, M11 = zput M 110 v5.toNatClampNeg (0 : Int64) → k22 (v5 + (1 : Int32)) M11)
def L_Mo_divides_22 (P : Int32 → zM → Prop) (a1 : Nat) (v3 : Int32) (v4 : Int32) (n : Nat) : Int32 → zM → Prop := Nat.rec (fun _ _ => False) (fun _ k => B_Mo_divides_22 P a1 v3 v4 k) n
def w_Mo_divides (a1 : Nat) (a2 : Nat) (M : zM) (P : Int32 → zM → Prop) : Prop := w_Mo_degreeOf a1 M (fun r1 => w_Mo_degreeOf a2 M (fun r4 => w_Mo_copy a2 109 M (fun M8 => ∃ n, L_Mo_divides_22 P a1 r1 r4 n (0 : Int32) M8)))
def ws_Mo_divides : List Cond := .code y_Mo_divides prog_10_method_22_code 9 (Option.some Jvm.ClassFile.FieldType.boolean) :: zall
def rm_Mo_divides : Room := { frames := 1, cells := 0, slots := 0, locals := 22 }
theorem hd_Mo_divides : y_Mo_divides.cls ≠ "java/lang/invoke/MethodHandle" ∧ y_Mo_divides.cls ≠ "java/lang/invoke/VarHandle" ∧ (parseMethodDescriptor y_Mo_divides.desc).map (fun d => d.parameters.length) = some 2 := by decide +kernel
set_option maxHeartbeats 4000000 in
set_option maxRecDepth 100000 in
theorem c_Mo_divides (l : Launch) (G : zG) (b : Nat) (a1 : Nat) (a2 : Nat) (M : zM) (N : zN) {P : Int32 → zM → Prop} (hw : w_Mo_divides a1 a2 M P) : Met l y_Mo_divides ws_Mo_divides rm_Mo_divides (zPc G b M N [.ref (b + 99), .ref (b + a1), .ref (b + a2)]) (zQi G b (fun r M' N' => P r M' ∧ N' = N)) 0 0 (zA b) := by
  refine Met.ofW (cc := prog_10_method_22_code) (maxL := 9) (ret := (Option.some Jvm.ClassFile.FieldType.boolean)) (by decide) rfl ?_
  intro p e s m args below meth c s₁ B hml hv
  obtain ⟨rfl, hZ, hK, hT⟩ := hv
  have hx := B.exec
  have hb := B.bytes
  have hr := B.returns
  have hts := atoms_spec (ws := ws_Mo_divides) B.pre
  have hta : ∀ w ∈ zall, w.before ([.ref (b + 99), .ref (b + a1), .ref (b + a2)] : List Value).toArray s = true := fun w h => hts w (List.mem_cons_of_mem _ h)
  have hown : s.vm.findClass R_Mo = some m.cls := findClass_of_methodNamed B.named
  have hlocks := B.notSynchronized
  have hS : va_S (zA b) s.heap s.heap [] := va_S.rf
  have hl := lv_entry ([.ref (b + 99), .ref (b + a1), .ref (b + a2)]) (n := 9) (Nat.le_of_ble_eq_true rfl)
  rw [lg_entry_eq]
  generalize (lg_sl ([.ref (b + 99), .ref (b + a1), .ref (b + a2)]) ++ List.replicate (9 - (lg_sl ([.ref (b + 99), .ref (b + a1), .ref (b + a2)])).length) Slot.unset).toArray = ls at hl ⊢
  have hl : lv_has ls 9 [(0, .ref (b + 99)), (1, .ref (b + a1)), (2, .ref (b + a2))] := hl
  have lp49 : ∀ (v3 : Int32) (n : Nat) (v5 : Int32) (M : zM) (H : Heap) (ls : Array Slot) (locs : List Loc), va_P G.1 zCl (zws G b M N) H → va_S (zA b) s.heap H locs → lv_has ls 9 [(0, .ref (b + 99)), (1, .ref (b + a1)), (3, .int v3), (5, .int v5)] → L_Mo_divides_49 P a1 v3 n v5 M → W p l e (headSpec ws_Mo_divides rm_Mo_divides).room s m ([.ref (b + 99), .ref (b + a1), .ref (b + a2)] : List Value).toArray below meth c H locs 0 0 (MQ below (zQi G b (fun r M' N' => P r M' ∧ N' = N)) ([.ref (b + 99), .ref (b + a1), .ref (b + a2)] : List Value).toArray s 0 0 (zA b)) (F0 m 49 ls []) := by
    intro v3 n
    induction n with
    | zero => intro v5 M H ls locs hZ hS hl hw; exact False.elim hw
    | succ n49 ih49 =>
      have lp115 : ∀ (v5 : Int32) (v6 : Int64) (n : Nat) (v8 : Int32) (M : zM) (H : Heap) (ls : Array Slot) (locs : List Loc), va_P G.1 zCl (zws G b M N) H → va_S (zA b) s.heap H locs → lv_has ls 9 [(0, .ref (b + 99)), (1, .ref (b + a1)), (3, .int v3), (5, .int v5), (6, .long v6), (8, .int v8)] → L_Mo_divides_115 P (L_Mo_divides_49 P a1 v3 n49) a1 v3 v5 v6 n v8 M → W p l e (headSpec ws_Mo_divides rm_Mo_divides).room s m ([.ref (b + 99), .ref (b + a1), .ref (b + a2)] : List Value).toArray below meth c H locs 0 0 (MQ below (zQi G b (fun r M' N' => P r M' ∧ N' = N)) ([.ref (b + 99), .ref (b + a1), .ref (b + a2)] : List Value).toArray s 0 0 (zA b)) (F0 m 115 ls []) := by
        intro v5 v6 n
        induction n with
        | zero => intro v8 M H ls locs hZ hS hl hw; exact False.elim hw
        | succ n115 ih115 =>
          intro v8 M H ls locs hZ hS hl hw
          have hw : B_Mo_divides_115 P (L_Mo_divides_49 P a1 v3 n49) a1 v3 v5 v6 (L_Mo_divides_115 P (L_Mo_divides_49 P a1 v3 n49) a1 v3 v5 v6 n115) v8 M := hw
          unfold B_Mo_divides_115 at hw
          refine lv_iload (pc := 115) hx hb d_Mo_divides_115 (lv_at hl 5 rfl) ?_
          refine lv_iload_n (pc := 117) hx hb d_Mo_divides_117 rfl (lv_at hl 2 rfl) ?_
          refine lv_icmp_gt (pc := 118) (tgt := 155) hx hb d_Mo_divides_118 (by decide) (fun hc => ?_) (fun hc => ?_)
          · have hw := hw.1 hc
            refine lv_iinc (pc := 155) (k := 3) (v := v5 + (-1 : Int32)) (lv' := [(5, .int (v5 + (-1 : Int32))), (0, .ref (b + 99)), (1, .ref (b + a1)), (3, .int v3), (6, .long v6), (8, .int v8)]) hx hb d_Mo_divides_155 hl rfl (by rfl) (by decide) rfl (fun ls hl => ?_)
            refine lv_goto (pc := 158) (tgt := 49) hx hb d_Mo_divides_158 (by decide) ?_
            exact ih49 (v5 + (-1 : Int32)) M _ _ _ hZ hS (lv_sub hl [1, 2, 3, 0] rfl) hw
          · have hw := hw.2 hc
            refine lv_aload_n (pc := 121) hx hb d_Mo_divides_121 rfl (lv_at hl 0 rfl) ?_
            refine zg_Mo_38 (pc := 122) hx hb hta hown hK hZ d_Mo_divides_122 ?_
            refine lv_iload (pc := 125) hx hb d_Mo_divides_125 (lv_at hl 3 rfl) ?_
            refine lv_iload (pc := 127) hx hb d_Mo_divides_127 (lv_at hl 5 rfl) ?_
            refine lv_iadd (pc := 129) hx hb d_Mo_divides_129 ?_
            refine lv_aload_n (pc := 130) hx hb d_Mo_divides_130 rfl (lv_at hl 0 rfl) ?_
            refine zg_Mo_38 (pc := 131) hx hb hta hown hK hZ d_Mo_divides_131 ?_
            refine lv_iload (pc := 134) hx hb d_Mo_divides_134 (lv_at hl 3 rfl) ?_
            refine lv_iload (pc := 136) hx hb d_Mo_divides_136 (lv_at hl 5 rfl) ?_
            refine lv_iadd (pc := 138) hx hb d_Mo_divides_138 ?_
            obtain ⟨hc, hw⟩ := hw
            refine z_lald (pc := 139) hx hb hK hZ hc d_Mo_divides_139 ?_
            refine lv_lload (pc := 140) hx hb d_Mo_divides_140 (lv_at hl 4 rfl) ?_
            refine lv_aload_n (pc := 142) hx hb d_Mo_divides_142 rfl (lv_at hl 1 rfl) ?_
            refine lv_iload (pc := 143) hx hb d_Mo_divides_143 (lv_at hl 5 rfl) ?_
            obtain ⟨hc, hw⟩ := hw
            refine z_lald (pc := 145) hx hb hK hZ hc d_Mo_divides_145 ?_
            refine lv_lmul (pc := 146) hx hb d_Mo_divides_146 ?_
            refine lv_lsub (pc := 147) hx hb d_Mo_divides_147 ?_
            obtain ⟨hc, hw⟩ := hw
            refine z_last (pc := 148) hx hb hK hZ hS hc d_Mo_divides_148 (fun M20 H locs hM20 hZ hS => ?_)
            have hw := hw M20 hM20
            refine lv_iinc (pc := 149) (k := 5) (v := v8 + (1 : Int32)) (lv' := [(8, .int (v8 + (1 : Int32))), (0, .ref (b + 99)), (1, .ref (b + a1)), (3, .int v3), (5, .int v5), (6, .long v6)]) hx hb d_Mo_divides_149 hl rfl (by rfl) (by decide) rfl (fun ls hl => ?_)
            refine lv_goto (pc := 152) (tgt := 115) hx hb d_Mo_divides_152 (by decide) ?_
            exact ih115 (v8 + (1 : Int32)) M20 _ _ _ hZ hS (lv_sub hl [1, 2, 3, 4, 5, 0] rfl) hw
      intro v5 M H ls locs hZ hS hl hw
      have hw : B_Mo_divides_49 P a1 v3 (L_Mo_divides_49 P a1 v3 n49) v5 M := hw
      unfold B_Mo_divides_49 at hw
      refine lv_iload (pc := 49) hx hb d_Mo_divides_49 (lv_at hl 3 rfl) ?_
      refine lv_if_lt (pc := 51) (tgt := 161) hx hb d_Mo_divides_51 (by decide) (fun hc => ?_) (fun hc => ?_)
      · have hw := hw.1 hc
        refine lv_aload_n (pc := 161) hx hb d_Mo_divides_161 rfl (lv_at hl 0 rfl) ?_
        refine zg_Mo_38 (pc := 162) hx hb hta hown hK hZ d_Mo_divides_162 ?_
        refine z_calli (pc := 165) (va_runS (As := [.ref (b + 109)]) (rest := []) ⟨hx, hb, hml, hown, hts⟩ (c_Mo_degreeOf l G b 109 M N hw) (va_cwS 1 hts (z_good (zgS wd814 wd815 wd7 wd816)) rfl rfl rfl hd_Mo_degreeOf ⟨Nat.le_of_ble_eq_true rfl, Nat.le_of_ble_eq_true rfl⟩) (z_preS hZ hK hT hS) rfl rfl hl.1 rfl (lv_room (Nat.le_of_ble_eq_true rfl)) d_Mo_divides_165 ⟨Nat.le_of_ble_eq_true rfl, Nat.le_of_ble_eq_true rfl⟩) hS (fun r12 M13 N14 H locs hw hZ hS => ?_)
        obtain ⟨hw, eM13, eN14⟩ := hw
        rw [eM13, eN14] at hZ
        refine lv_if_ge (pc := 168) (tgt := 175) hx hb d_Mo_divides_168 (by decide) (fun hc => ?_) (fun hc => ?_)
        · have hw := hw.1 hc
          refine lv_iconst (pc := 175) (v := 0) hx hb d_Mo_divides_175 (by decide) ?_
          exact z_zret hx hb hr hlocks hK hT hZ hS ⟨hw.1, ⟨hw.2, rfl⟩⟩ d_Mo_divides_176
        · have hw := hw.2 hc
          refine lv_iconst (pc := 171) (v := 1) hx hb d_Mo_divides_171 (by decide) ?_
          refine lv_goto (pc := 172) (tgt := 176) hx hb d_Mo_divides_172 (by decide) ?_
          exact z_zret hx hb hr hlocks hK hT hZ hS ⟨hw.1, ⟨hw.2, rfl⟩⟩ d_Mo_divides_176
      · have hw := hw.2 hc
        refine lv_aload_n (pc := 54) hx hb d_Mo_divides_54 rfl (lv_at hl 0 rfl) ?_
        refine zg_Mo_38 (pc := 55) hx hb hta hown hK hZ d_Mo_divides_55 ?_
        refine lv_iload (pc := 58) hx hb d_Mo_divides_58 (lv_at hl 3 rfl) ?_
        refine lv_iload_n (pc := 60) hx hb d_Mo_divides_60 rfl (lv_at hl 2 rfl) ?_
        refine lv_iadd (pc := 61) hx hb d_Mo_divides_61 ?_
        obtain ⟨hc, hw⟩ := hw
        refine z_lald (pc := 62) hx hb hK hZ hc d_Mo_divides_62 ?_
        refine lv_aload_n (pc := 63) hx hb d_Mo_divides_63 rfl (lv_at hl 1 rfl) ?_
        refine lv_iload_n (pc := 64) hx hb d_Mo_divides_64 rfl (lv_at hl 2 rfl) ?_
        obtain ⟨hc, hw⟩ := hw
        refine z_lald (pc := 65) hx hb hK hZ hc d_Mo_divides_65 ?_
        obtain ⟨hc, hw⟩ := hw
        refine lv_lrem (pc := 66) hx hb d_Mo_divides_66 hc ?_
        refine lv_lconst (pc := 67) (v := 0) hx hb d_Mo_divides_67 (by decide) ?_
        refine z_lc_eq (pc := 68) (tgt := 74) hx hb d_Mo_divides_68 d_Mo_divides_69 (by decide) (fun hc => ?_) (fun hc => ?_)
        · have hw := hw.1 hc
          refine lv_aload_n (pc := 74) hx hb d_Mo_divides_74 rfl (lv_at hl 0 rfl) ?_
          refine zg_Mo_38 (pc := 75) hx hb hta hown hK hZ d_Mo_divides_75 ?_
          refine lv_iload (pc := 78) hx hb d_Mo_divides_78 (lv_at hl 3 rfl) ?_
          refine lv_iload_n (pc := 80) hx hb d_Mo_divides_80 rfl (lv_at hl 2 rfl) ?_
          refine lv_iadd (pc := 81) hx hb d_Mo_divides_81 ?_
          obtain ⟨hc, hw⟩ := hw
          refine z_lald (pc := 82) hx hb hK hZ hc d_Mo_divides_82 ?_
          refine lv_aload_n (pc := 83) hx hb d_Mo_divides_83 rfl (lv_at hl 1 rfl) ?_
          refine lv_iload_n (pc := 84) hx hb d_Mo_divides_84 rfl (lv_at hl 2 rfl) ?_
          obtain ⟨hc, hw⟩ := hw
          refine z_lald (pc := 85) hx hb hK hZ hc d_Mo_divides_85 ?_
          obtain ⟨hc, hw⟩ := hw
          refine lv_ldiv (pc := 86) hx hb d_Mo_divides_86 hc ?_
          refine lv_topl (fun x15 hx15 => ?_)
          have hw := hw x15 hx15
          refine lv_lstore (pc := 87) (lv' := [(6, .long x15), (0, .ref (b + 99)), (1, .ref (b + a1)), (3, .int v3), (5, .int v5)]) hx hb d_Mo_divides_87 hl (by decide) rfl (fun ls hl => ?_)
          refine lv_lload (pc := 89) hx hb d_Mo_divides_89 (lv_at hl 0 rfl) ?_
          refine z_calll (pc := 91) (va_runS (As := [.long x15]) (rest := []) ⟨hx, hb, hml, hown, hts⟩ (c_Mo_amount l G b x15 M N hw) (va_cwS 1 hts (z_good (zgS wd868 wd869 wd7 wd870)) rfl rfl rfl hd_Mo_amount ⟨Nat.le_of_ble_eq_true rfl, Nat.le_of_ble_eq_true rfl⟩) (z_preS hZ hK hT hS) rfl rfl hl.1 rfl (lv_room (Nat.le_of_ble_eq_true rfl)) d_Mo_divides_91 ⟨Nat.le_of_ble_eq_true rfl, Nat.le_of_ble_eq_true rfl⟩) hS (fun r16 M17 N18 H locs hw hZ hS => ?_)
          obtain ⟨hw, eM17, eN18⟩ := hw
          rw [eM17, eN18] at hZ
          refine lv_ldc2 (pc := 94) (v := 100000000) hx hb hown (hta _ wd871) d_Mo_divides_94 ?_
          refine z_lc_le (pc := 97) (tgt := 103) hx hb d_Mo_divides_97 d_Mo_divides_98 (by decide) (fun hc => ?_) (fun hc => ?_)
          · have hw := hw.1 hc
            refine lv_aload_n (pc := 103) hx hb d_Mo_divides_103 rfl (lv_at hl 1 rfl) ?_
            refine zg_Mo_41 (pc := 104) hx hb hta hown hK hZ d_Mo_divides_104 ?_
            refine lv_iload (pc := 107) hx hb d_Mo_divides_107 (lv_at hl 4 rfl) ?_
            refine lv_lload (pc := 109) hx hb d_Mo_divides_109 (lv_at hl 0 rfl) ?_
            obtain ⟨hc, hw⟩ := hw
            refine z_last (pc := 111) hx hb hK hZ hS hc d_Mo_divides_111 (fun M19 H locs hM19 hZ hS => ?_)
            have hw := hw M19 hM19
            refine lv_iconst (pc := 112) (v := 0) hx hb d_Mo_divides_112 (by decide) ?_
            refine lv_istore (pc := 113) (lv' := [(8, .int (0 : Int32)), (6, .long x15), (0, .ref (b + 99)), (1, .ref (b + a1)), (3, .int v3), (5, .int v5)]) hx hb d_Mo_divides_113 hl (by decide) rfl (fun ls hl => ?_)
            obtain ⟨n, hw⟩ := hw
            exact lp115 v5 x15 n (0 : Int32) M19 _ _ _ hZ hS (lv_sub hl [2, 3, 4, 5, 1, 0] rfl) hw
          · have hw := hw.2 hc
            refine lv_iconst (pc := 101) (v := 0) hx hb d_Mo_divides_101 (by decide) ?_
            exact z_zret hx hb hr hlocks hK hT hZ hS ⟨hw.1, ⟨hw.2, rfl⟩⟩ d_Mo_divides_102
        · have hw := hw.2 hc
          refine lv_iconst (pc := 72) (v := 0) hx hb d_Mo_divides_72 (by decide) ?_
          exact z_zret hx hb hr hlocks hK hT hZ hS ⟨hw.1, ⟨hw.2, rfl⟩⟩ d_Mo_divides_73
  have lp22 : ∀ (v3 : Int32) (v4 : Int32) (n : Nat) (v5 : Int32) (M : zM) (H : Heap) (ls : Array Slot) (locs : List Loc), va_P G.1 zCl (zws G b M N) H → va_S (zA b) s.heap H locs → lv_has ls 9 [(0, .ref (b + 99)), (1, .ref (b + a1)), (3, .int v3), (4, .int v4), (5, .int v5)] → L_Mo_divides_22 P a1 v3 v4 n v5 M → W p l e (headSpec ws_Mo_divides rm_Mo_divides).room s m ([.ref (b + 99), .ref (b + a1), .ref (b + a2)] : List Value).toArray below meth c H locs 0 0 (MQ below (zQi G b (fun r M' N' => P r M' ∧ N' = N)) ([.ref (b + 99), .ref (b + a1), .ref (b + a2)] : List Value).toArray s 0 0 (zA b)) (F0 m 22 ls []) := by
    intro v3 v4 n
    induction n with
    | zero => intro v5 M H ls locs hZ hS hl hw; exact False.elim hw
    | succ n22 ih22 =>
      intro v5 M H ls locs hZ hS hl hw
      have hw : B_Mo_divides_22 P a1 v3 v4 (L_Mo_divides_22 P a1 v3 v4 n22) v5 M := hw
      unfold B_Mo_divides_22 at hw
      refine lv_iload (pc := 22) hx hb d_Mo_divides_22 (lv_at hl 4 rfl) ?_
      refine lv_bipush (pc := 24) (v := 16) hx hb d_Mo_divides_24 (by decide) ?_
      refine lv_icmp_ge (pc := 26) (tgt := 43) hx hb d_Mo_divides_26 (by decide) (fun hc => ?_) (fun hc => ?_)
      · have hw := hw.1 hc
        refine lv_iload (pc := 43) hx hb d_Mo_divides_43 (lv_at hl 3 rfl) ?_
        refine lv_iload_n (pc := 45) hx hb d_Mo_divides_45 rfl (lv_at hl 2 rfl) ?_
        refine lv_isub (pc := 46) hx hb d_Mo_divides_46 ?_
        refine lv_topi (fun x10 hx10 => ?_)
        have hw := hw x10 hx10
        refine lv_istore (pc := 47) (lv' := [(5, .int x10), (0, .ref (b + 99)), (1, .ref (b + a1)), (3, .int v3), (4, .int v4)]) hx hb d_Mo_divides_47 hl (by decide) rfl (fun ls hl => ?_)
        obtain ⟨n, hw⟩ := hw
        exact lp49 v3 n x10 M _ _ _ hZ hS (lv_sub hl [1, 2, 3, 0] rfl) hw
      · have hw := hw.2 hc
        refine lv_aload_n (pc := 29) hx hb d_Mo_divides_29 rfl (lv_at hl 0 rfl) ?_
        refine zg_Mo_41 (pc := 30) hx hb hta hown hK hZ d_Mo_divides_30 ?_
        refine lv_iload (pc := 33) hx hb d_Mo_divides_33 (lv_at hl 4 rfl) ?_
        refine lv_lconst (pc := 35) (v := 0) hx hb d_Mo_divides_35 (by decide) ?_
        obtain ⟨hc, hw⟩ := hw
        refine z_last (pc := 36) hx hb hK hZ hS hc d_Mo_divides_36 (fun M11 H locs hM11 hZ hS => ?_)
        have hw := hw M11 hM11
        refine lv_iinc (pc := 37) (k := 4) (v := v5 + (1 : Int32)) (lv' := [(5, .int (v5 + (1 : Int32))), (0, .ref (b + 99)), (1, .ref (b + a1)), (3, .int v3), (4, .int v4)]) hx hb d_Mo_divides_37 hl rfl (by rfl) (by decide) rfl (fun ls hl => ?_)
        refine lv_goto (pc := 40) (tgt := 22) hx hb d_Mo_divides_40 (by decide) ?_
        exact ih22 (v5 + (1 : Int32)) M11 _ _ _ hZ hS (lv_sub hl [1, 2, 3, 4, 0] rfl) hw
  unfold w_Mo_divides at hw
  refine lv_aload_n (pc := 0) hx hb d_Mo_divides_0 rfl (lv_at hl 1 rfl) ?_
  refine z_calli (pc := 1) (va_runS (As := [.ref (b + a1)]) (rest := []) ⟨hx, hb, hml, hown, hts⟩ (c_Mo_degreeOf l G b a1 M N hw) (va_cwS 1 hts (z_good (zgS wd814 wd815 wd7 wd816)) rfl rfl rfl hd_Mo_degreeOf ⟨Nat.le_of_ble_eq_true rfl, Nat.le_of_ble_eq_true rfl⟩) (z_preS hZ hK hT hS) rfl rfl hl.1 rfl (lv_room (Nat.le_of_ble_eq_true rfl)) d_Mo_divides_1 ⟨Nat.le_of_ble_eq_true rfl, Nat.le_of_ble_eq_true rfl⟩) hS (fun r1 M2 N3 H locs hw hZ hS => ?_)
  obtain ⟨hw, eM2, eN3⟩ := hw
  rw [eM2, eN3] at hZ
  refine lv_istore_n (pc := 4) (lv' := [(3, .int r1), (0, .ref (b + 99)), (1, .ref (b + a1)), (2, .ref (b + a2))]) hx hb d_Mo_divides_4 rfl hl (by decide) rfl (fun ls hl => ?_)
  refine lv_aload_n (pc := 5) hx hb d_Mo_divides_5 rfl (lv_at hl 3 rfl) ?_
  refine z_calli (pc := 6) (va_runS (As := [.ref (b + a2)]) (rest := []) ⟨hx, hb, hml, hown, hts⟩ (c_Mo_degreeOf l G b a2 M N hw) (va_cwS 1 hts (z_good (zgS wd814 wd815 wd7 wd816)) rfl rfl rfl hd_Mo_degreeOf ⟨Nat.le_of_ble_eq_true rfl, Nat.le_of_ble_eq_true rfl⟩) (z_preS hZ hK hT hS) rfl rfl hl.1 rfl (lv_room (Nat.le_of_ble_eq_true rfl)) d_Mo_divides_6 ⟨Nat.le_of_ble_eq_true rfl, Nat.le_of_ble_eq_true rfl⟩) hS (fun r4 M5 N6 H locs hw hZ hS => ?_)
  obtain ⟨hw, eM5, eN6⟩ := hw
  rw [eM5, eN6] at hZ
  refine lv_istore (pc := 9) (lv' := [(4, .int r4), (3, .int r1), (0, .ref (b + 99)), (1, .ref (b + a1)), (2, .ref (b + a2))]) hx hb d_Mo_divides_9 hl (by decide) rfl (fun ls hl => ?_)
  refine lv_aload_n (pc := 11) hx hb d_Mo_divides_11 rfl (lv_at hl 4 rfl) ?_
  refine lv_aload_n (pc := 12) hx hb d_Mo_divides_12 rfl (lv_at hl 2 rfl) ?_
  refine zg_Mo_38 (pc := 13) hx hb hta hown hK hZ d_Mo_divides_13 ?_
  refine z_callv (pc := 16) (va_runS (As := [.ref (b + a2), .ref (b + 109)]) (rest := []) ⟨hx, hb, hml, hown, hts⟩ (c_Mo_copy l G b a2 109 M N hw) (va_cwS 2 hts (z_good (zgS wd865 wd866 wd7 wd867)) rfl rfl rfl hd_Mo_copy ⟨Nat.le_of_ble_eq_true rfl, Nat.le_of_ble_eq_true rfl⟩) (z_preS hZ hK hT hS) rfl rfl hl.1 rfl (lv_room (Nat.le_of_ble_eq_true rfl)) d_Mo_divides_16 ⟨Nat.le_of_ble_eq_true rfl, Nat.le_of_ble_eq_true rfl⟩) hS (fun M8 N9 H locs hw hZ hS => ?_)
  obtain ⟨hw, eN9⟩ := hw
  rw [eN9] at hZ
  refine lv_iconst (pc := 19) (v := 0) hx hb d_Mo_divides_19 (by decide) ?_
  refine lv_istore (pc := 20) (lv' := [(5, .int (0 : Int32)), (4, .int r4), (3, .int r1), (0, .ref (b + 99)), (1, .ref (b + a1)), (2, .ref (b + a2))]) hx hb d_Mo_divides_20 hl (by decide) rfl (fun ls hl => ?_)
  obtain ⟨n, hw⟩ := hw
  exact lp22 r1 r4 n (0 : Int32) M8 _ _ _ hZ hS (lv_sub hl [3, 4, 2, 1, 0] rfl) hw
theorem wsel21 : Cond.selects R_Mo y_Mo_divides y_Mo_divides ∈ zall := List.mem_filter.mpr ⟨List.mem_append_left _ (List.mem_of_getElem? (i := 21) rfl), by decide +kernel⟩
theorem d_Mo_divide_0 : decode prog_10_method_23_code 0 = .ok (.aload_n 0, 1) := by decide +kernel
theorem d_Mo_divide_1 : decode prog_10_method_23_code 1 = .ok (.iload_n 1, 1) := by decide +kernel
theorem d_Mo_divide_2 : decode prog_10_method_23_code 2 = .ok (.invokestatic 98, 3) := by decide +kernel
theorem d_Mo_divide_5 : decode prog_10_method_23_code 5 = .ok (.ifCond .eq 21, 3) := by decide +kernel
theorem d_Mo_divide_8 : decode prog_10_method_23_code 8 = .ok (.iload_n 2, 1) := by decide +kernel
theorem d_Mo_divide_9 : decode prog_10_method_23_code 9 = .ok (.invokestatic 98, 3) := by decide +kernel
theorem d_Mo_divide_12 : decode prog_10_method_23_code 12 = .ok (.ifCond .eq 14, 3) := by decide +kernel
theorem d_Mo_divide_15 : decode prog_10_method_23_code 15 = .ok (.iload_n 3, 1) := by decide +kernel
theorem d_Mo_divide_16 : decode prog_10_method_23_code 16 = .ok (.invokestatic 98, 3) := by decide +kernel
theorem d_Mo_divide_19 : decode prog_10_method_23_code 19 = .ok (.ifCond .eq 7, 3) := by decide +kernel
theorem d_Mo_divide_22 : decode prog_10_method_23_code 22 = .ok (.iconst 0, 1) := by decide +kernel
theorem d_Mo_divide_23 : decode prog_10_method_23_code 23 = .ok (.goto 4, 3) := by decide +kernel
theorem d_Mo_divide_26 : decode prog_10_method_23_code 26 = .ok (.iconst 1, 1) := by decide +kernel
theorem d_Mo_divide_27 : decode prog_10_method_23_code 27 = .ok (.putfield 78, 3) := by decide +kernel
theorem d_Mo_divide_30 : decode prog_10_method_23_code 30 = .ok (.aload_n 0, 1) := by decide +kernel
theorem d_Mo_divide_31 : decode prog_10_method_23_code 31 = .ok (.getfield 78, 3) := by decide +kernel
theorem d_Mo_divide_34 : decode prog_10_method_23_code 34 = .ok (.ifCond .le 5, 3) := by decide +kernel
theorem d_Mo_divide_37 : decode prog_10_method_23_code 37 = .ok (.iconst 0, 1) := by decide +kernel
theorem d_Mo_divide_38 : decode prog_10_method_23_code 38 = .ok (.ireturn, 1) := by decide +kernel
theorem d_Mo_divide_39 : decode prog_10_method_23_code 39 = .ok (.aload_n 0, 1) := by decide +kernel
theorem d_Mo_divide_40 : decode prog_10_method_23_code 40 = .ok (.iload_n 2, 1) := by decide +kernel
theorem d_Mo_divide_41 : decode prog_10_method_23_code 41 = .ok (.aload_n 0, 1) := by decide +kernel
theorem d_Mo_divide_42 : decode prog_10_method_23_code 42 = .ok (.getfield 29, 3) := by decide +kernel
theorem d_Mo_divide_45 : decode prog_10_method_23_code 45 = .ok (.invokevirtual 104, 3) := by decide +kernel
theorem d_Mo_divide_48 : decode prog_10_method_23_code 48 = .ok (.aload_n 0, 1) := by decide +kernel
theorem d_Mo_divide_49 : decode prog_10_method_23_code 49 = .ok (.iload_n 3, 1) := by decide +kernel
theorem d_Mo_divide_50 : decode prog_10_method_23_code 50 = .ok (.aload_n 0, 1) := by decide +kernel
theorem d_Mo_divide_51 : decode prog_10_method_23_code 51 = .ok (.getfield 32, 3) := by decide +kernel
theorem d_Mo_divide_54 : decode prog_10_method_23_code 54 = .ok (.invokevirtual 104, 3) := by decide +kernel
theorem d_Mo_divide_57 : decode prog_10_method_23_code 57 = .ok (.aload_n 0, 1) := by decide +kernel
theorem d_Mo_divide_58 : decode prog_10_method_23_code 58 = .ok (.aload_n 0, 1) := by decide +kernel
theorem d_Mo_divide_59 : decode prog_10_method_23_code 59 = .ok (.getfield 32, 3) := by decide +kernel
theorem d_Mo_divide_62 : decode prog_10_method_23_code 62 = .ok (.invokestatic 82, 3) := by decide +kernel
theorem d_Mo_divide_65 : decode prog_10_method_23_code 65 = .ok (.ifCond .lt 22, 3) := by decide +kernel
theorem d_Mo_divide_68 : decode prog_10_method_23_code 68 = .ok (.aload_n 0, 1) := by decide +kernel
theorem d_Mo_divide_69 : decode prog_10_method_23_code 69 = .ok (.aload_n 0, 1) := by decide +kernel
theorem d_Mo_divide_70 : decode prog_10_method_23_code 70 = .ok (.getfield 32, 3) := by decide +kernel
theorem d_Mo_divide_73 : decode prog_10_method_23_code 73 = .ok (.aload_n 0, 1) := by decide +kernel
theorem d_Mo_divide_74 : decode prog_10_method_23_code 74 = .ok (.getfield 29, 3) := by decide +kernel
theorem d_Mo_divide_77 : decode prog_10_method_23_code 77 = .ok (.invokevirtual 129, 3) := by decide +kernel
theorem d_Mo_divide_80 : decode prog_10_method_23_code 80 = .ok (.ifCond .eq 7, 3) := by decide +kernel
theorem d_Mo_divide_83 : decode prog_10_method_23_code 83 = .ok (.iconst 0, 1) := by decide +kernel
theorem d_Mo_divide_84 : decode prog_10_method_23_code 84 = .ok (.goto 4, 3) := by decide +kernel
theorem d_Mo_divide_87 : decode prog_10_method_23_code 87 = .ok (.iconst 2, 1) := by decide +kernel
theorem d_Mo_divide_88 : decode prog_10_method_23_code 88 = .ok (.putfield 78, 3) := by decide +kernel
theorem d_Mo_divide_91 : decode prog_10_method_23_code 91 = .ok (.aload_n 0, 1) := by decide +kernel
theorem d_Mo_divide_92 : decode prog_10_method_23_code 92 = .ok (.getfield 78, 3) := by decide +kernel
theorem d_Mo_divide_95 : decode prog_10_method_23_code 95 = .ok (.ifCond .le 7, 3) := by decide +kernel
theorem d_Mo_divide_98 : decode prog_10_method_23_code 98 = .ok (.iconst 0, 1) := by decide +kernel
theorem d_Mo_divide_99 : decode prog_10_method_23_code 99 = .ok (.goto 13, 3) := by decide +kernel
theorem d_Mo_divide_102 : decode prog_10_method_23_code 102 = .ok (.aload_n 0, 1) := by decide +kernel
theorem d_Mo_divide_103 : decode prog_10_method_23_code 103 = .ok (.iload_n 1, 1) := by decide +kernel
theorem d_Mo_divide_104 : decode prog_10_method_23_code 104 = .ok (.aload_n 0, 1) := by decide +kernel
theorem d_Mo_divide_105 : decode prog_10_method_23_code 105 = .ok (.getfield 41, 3) := by decide +kernel
theorem d_Mo_divide_108 : decode prog_10_method_23_code 108 = .ok (.iconst 3, 1) := by decide +kernel
theorem d_Mo_divide_109 : decode prog_10_method_23_code 109 = .ok (.invokevirtual 116, 3) := by decide +kernel
theorem d_Mo_divide_112 : decode prog_10_method_23_code 112 = .ok (.ireturn, 1) := by decide +kernel
def J_Mo_divide_88 (P : Int32 → zM → zN → Prop) (a1 : Int32) (t0 : Int32) (M : zM) (N : zN) : Prop := ∀ N23 : zN, N23 = zpui N 99 0 t0 → ((N23 99 0) ≤ 0 → w_Mo_settle a1 110 (3 : Int32) M N23 (fun r24 N26 => P r24 M N26)) ∧ (¬ (N23 99 0) ≤ 0 → P (0 : Int32) M N23)
def J_Mo_divide_27 (P : Int32 → zM → zN → Prop) (a1 : Int32) (a2 : Int32) (a3 : Int32) (t0 : Int32) (M : zM) (N : zN) : Prop := ∀ N10 : zN, N10 = zpui N 99 0 t0 → ((N10 99 0) ≤ 0 → w_Mo_load a2 106 M N10 (fun M12 => w_Mo_load a3 107 M12 N10 (fun M15 => w_Mo_degreeOf 107 M15 (fun r17 => (r17 < 0 → J_Mo_divide_88 P a1 (2 : Int32) M15 N10) ∧ (¬ r17 < 0 → w_Mo_divides 107 106 M15 (fun r20 M21 => (r20 = 0 → J_Mo_divide_88 P a1 (2 : Int32) M21 N10) ∧ (¬ r20 = 0 → J_Mo_divide_88 P a1 (0 : Int32) M21 N10))))))) ∧ (¬ (N10 99 0) ≤ 0 → P (0 : Int32) M N10)
def w_Mo_divide (a1 : Int32) (a2 : Int32) (a3 : Int32) (M : zM) (N : zN) (P : Int32 → zM → zN → Prop) : Prop := w_Mo_isRegister a1  (fun r1 => (r1 = 0 → J_Mo_divide_27 P a1 a2 a3 (1 : Int32) M N) ∧ (¬ r1 = 0 → w_Mo_isRegister a2  (fun r4 => (r4 = 0 → J_Mo_divide_27 P a1 a2 a3 (1 : Int32) M N) ∧ (¬ r4 = 0 → w_Mo_isRegister a3  (fun r7 => (r7 = 0 → J_Mo_divide_27 P a1 a2 a3 (1 : Int32) M N) ∧ (¬ r7 = 0 → J_Mo_divide_27 P a1 a2 a3 (0 : Int32) M N))))))
def ws_Mo_divide : List Cond := .code y_Mo_divide prog_10_method_23_code 4 (Option.some Jvm.ClassFile.FieldType.int) :: zall
def rm_Mo_divide : Room := { frames := 3, cells := 0, slots := 0, locals := 67 }
theorem hd_Mo_divide : y_Mo_divide.cls ≠ "java/lang/invoke/MethodHandle" ∧ y_Mo_divide.cls ≠ "java/lang/invoke/VarHandle" ∧ (parseMethodDescriptor y_Mo_divide.desc).map (fun d => d.parameters.length) = some 3 := by decide +kernel
set_option maxHeartbeats 4000000 in
set_option maxRecDepth 100000 in
theorem c_Mo_divide (l : Launch) (G : zG) (b : Nat) (a1 : Int32) (a2 : Int32) (a3 : Int32) (M : zM) (N : zN) {P : Int32 → zM → zN → Prop} (hw : w_Mo_divide a1 a2 a3 M N P) : Met l y_Mo_divide ws_Mo_divide rm_Mo_divide (zPc G b M N [.ref (b + 99), .int a1, .int a2, .int a3]) (zQi G b (fun r M' N' => P r M' N')) 0 0 (zA b) := by
  refine Met.ofW (cc := prog_10_method_23_code) (maxL := 4) (ret := (Option.some Jvm.ClassFile.FieldType.int)) (by decide) rfl ?_
  intro p e s m args below meth c s₁ B hml hv
  obtain ⟨rfl, hZ, hK, hT⟩ := hv
  have hx := B.exec
  have hb := B.bytes
  have hr := B.returns
  have hts := atoms_spec (ws := ws_Mo_divide) B.pre
  have hta : ∀ w ∈ zall, w.before ([.ref (b + 99), .int a1, .int a2, .int a3] : List Value).toArray s = true := fun w h => hts w (List.mem_cons_of_mem _ h)
  have hown : s.vm.findClass R_Mo = some m.cls := findClass_of_methodNamed B.named
  have hlocks := B.notSynchronized
  have hS : va_S (zA b) s.heap s.heap [] := va_S.rf
  have hl := lv_entry ([.ref (b + 99), .int a1, .int a2, .int a3]) (n := 4) (Nat.le_of_ble_eq_true rfl)
  rw [lg_entry_eq]
  generalize (lg_sl ([.ref (b + 99), .int a1, .int a2, .int a3]) ++ List.replicate (4 - (lg_sl ([.ref (b + 99), .int a1, .int a2, .int a3])).length) Slot.unset).toArray = ls at hl ⊢
  have hl : lv_has ls 4 [(0, .ref (b + 99)), (1, .int a1), (2, .int a2), (3, .int a3)] := hl
  have j88 : ∀ (t0 : Int32) (M : zM) (N : zN) (H : Heap) (ls : Array Slot) (locs : List Loc), va_P G.1 zCl (zws G b M N) H → va_S (zA b) s.heap H locs → lv_has ls 4 [(0, .ref (b + 99)), (1, .int a1)] → J_Mo_divide_88 P a1 t0 M N → W p l e (headSpec ws_Mo_divide rm_Mo_divide).room s m ([.ref (b + 99), .int a1, .int a2, .int a3] : List Value).toArray below meth c H locs 0 0 (MQ below (zQi G b (fun r M' N' => P r M' N')) ([.ref (b + 99), .int a1, .int a2, .int a3] : List Value).toArray s 0 0 (zA b)) (F0 m 88 ls [.int t0, .ref (b + 99)]) := by
    intro t0 M N H ls locs hZ hS hl hw
    unfold J_Mo_divide_88 at hw
    refine zp_Mo_78 (pc := 88) hx hb hta hown hK hZ hS d_Mo_divide_88 (fun N23 H locs hN23 hZ hS => ?_)
    have hw := hw N23 hN23
    refine lv_aload_n (pc := 91) hx hb d_Mo_divide_91 rfl (lv_at hl 0 rfl) ?_
    refine zg_Mo_78 (pc := 92) hx hb hta hown hK hZ d_Mo_divide_92 ?_
    refine lv_if_le (pc := 95) (tgt := 102) hx hb d_Mo_divide_95 (by decide) (fun hc => ?_) (fun hc => ?_)
    · have hw := hw.1 hc
      refine lv_aload_n (pc := 102) hx hb d_Mo_divide_102 rfl (lv_at hl 0 rfl) ?_
      refine lv_iload_n (pc := 103) hx hb d_Mo_divide_103 rfl (lv_at hl 1 rfl) ?_
      refine lv_aload_n (pc := 104) hx hb d_Mo_divide_104 rfl (lv_at hl 0 rfl) ?_
      refine zg_Mo_41 (pc := 105) hx hb hta hown hK hZ d_Mo_divide_105 ?_
      refine lv_iconst (pc := 108) (v := 3) hx hb d_Mo_divide_108 (by decide) ?_
      refine z_calli (pc := 109) (va_runV (C := R_Mo) (b := b + 99) (As := [.int a1, .ref (b + 110), .int (3 : Int32)]) (rest := []) ⟨hx, hb, hml, hown, hts⟩ (c_Mo_settle l G b a1 110 (3 : Int32) M N23 hw) (cwV 3 hts (z_good (zgV wd829 wd831 wsel19 wd7 wd832)) rfl rfl rfl ⟨rfl, hd_Mo_settle⟩ ⟨Nat.le_of_ble_eq_true rfl, Nat.le_of_ble_eq_true rfl⟩) (z_preV zo_Mo rfl rfl hZ hK hT hS) rfl rfl hl.1 rfl (lv_room (Nat.le_of_ble_eq_true rfl)) d_Mo_divide_109 ⟨Nat.le_of_ble_eq_true rfl, Nat.le_of_ble_eq_true rfl⟩) hS (fun r24 M25 N26 H locs hw hZ hS => ?_)
      obtain ⟨hw, eM25⟩ := hw
      rw [eM25] at hZ
      exact z_iret hx hb hr hlocks hK hT hZ hS hw d_Mo_divide_112
    · have hw := hw.2 hc
      refine lv_iconst (pc := 98) (v := 0) hx hb d_Mo_divide_98 (by decide) ?_
      refine lv_goto (pc := 99) (tgt := 112) hx hb d_Mo_divide_99 (by decide) ?_
      exact z_iret hx hb hr hlocks hK hT hZ hS hw d_Mo_divide_112
  have j27 : ∀ (t0 : Int32) (M : zM) (N : zN) (H : Heap) (ls : Array Slot) (locs : List Loc), va_P G.1 zCl (zws G b M N) H → va_S (zA b) s.heap H locs → lv_has ls 4 [(0, .ref (b + 99)), (1, .int a1), (2, .int a2), (3, .int a3)] → J_Mo_divide_27 P a1 a2 a3 t0 M N → W p l e (headSpec ws_Mo_divide rm_Mo_divide).room s m ([.ref (b + 99), .int a1, .int a2, .int a3] : List Value).toArray below meth c H locs 0 0 (MQ below (zQi G b (fun r M' N' => P r M' N')) ([.ref (b + 99), .int a1, .int a2, .int a3] : List Value).toArray s 0 0 (zA b)) (F0 m 27 ls [.int t0, .ref (b + 99)]) := by
    intro t0 M N H ls locs hZ hS hl hw
    unfold J_Mo_divide_27 at hw
    refine zp_Mo_78 (pc := 27) hx hb hta hown hK hZ hS d_Mo_divide_27 (fun N10 H locs hN10 hZ hS => ?_)
    have hw := hw N10 hN10
    refine lv_aload_n (pc := 30) hx hb d_Mo_divide_30 rfl (lv_at hl 0 rfl) ?_
    refine zg_Mo_78 (pc := 31) hx hb hta hown hK hZ d_Mo_divide_31 ?_
    refine lv_if_le (pc := 34) (tgt := 39) hx hb d_Mo_divide_34 (by decide) (fun hc => ?_) (fun hc => ?_)
    · have hw := hw.1 hc
      refine lv_aload_n (pc := 39) hx hb d_Mo_divide_39 rfl (lv_at hl 0 rfl) ?_
      refine lv_iload_n (pc := 40) hx hb d_Mo_divide_40 rfl (lv_at hl 2 rfl) ?_
      refine lv_aload_n (pc := 41) hx hb d_Mo_divide_41 rfl (lv_at hl 0 rfl) ?_
      refine zg_Mo_29 (pc := 42) hx hb hta hown hK hZ d_Mo_divide_42 ?_
      refine z_callv (pc := 45) (va_runV (C := R_Mo) (b := b + 99) (As := [.int a2, .ref (b + 106)]) (rest := []) ⟨hx, hb, hml, hown, hts⟩ (c_Mo_load l G b a2 106 M N10 hw) (cwV 2 hts (z_good (zgV wd810 wd812 wsel18 wd7 wd813)) rfl rfl rfl ⟨rfl, hd_Mo_load⟩ ⟨Nat.le_of_ble_eq_true rfl, Nat.le_of_ble_eq_true rfl⟩) (z_preV zo_Mo rfl rfl hZ hK hT hS) rfl rfl hl.1 rfl (lv_room (Nat.le_of_ble_eq_true rfl)) d_Mo_divide_45 ⟨Nat.le_of_ble_eq_true rfl, Nat.le_of_ble_eq_true rfl⟩) hS (fun M12 N13 H locs hw hZ hS => ?_)
      obtain ⟨hw, eN13⟩ := hw
      rw [eN13] at hZ
      refine lv_aload_n (pc := 48) hx hb d_Mo_divide_48 rfl (lv_at hl 0 rfl) ?_
      refine lv_iload_n (pc := 49) hx hb d_Mo_divide_49 rfl (lv_at hl 3 rfl) ?_
      refine lv_aload_n (pc := 50) hx hb d_Mo_divide_50 rfl (lv_at hl 0 rfl) ?_
      refine zg_Mo_32 (pc := 51) hx hb hta hown hK hZ d_Mo_divide_51 ?_
      refine z_callv (pc := 54) (va_runV (C := R_Mo) (b := b + 99) (As := [.int a3, .ref (b + 107)]) (rest := []) ⟨hx, hb, hml, hown, hts⟩ (c_Mo_load l G b a3 107 M12 N10 hw) (cwV 2 hts (z_good (zgV wd810 wd812 wsel18 wd7 wd813)) rfl rfl rfl ⟨rfl, hd_Mo_load⟩ ⟨Nat.le_of_ble_eq_true rfl, Nat.le_of_ble_eq_true rfl⟩) (z_preV zo_Mo rfl rfl hZ hK hT hS) rfl rfl hl.1 rfl (lv_room (Nat.le_of_ble_eq_true rfl)) d_Mo_divide_54 ⟨Nat.le_of_ble_eq_true rfl, Nat.le_of_ble_eq_true rfl⟩) hS (fun M15 N16 H locs hw hZ hS => ?_)
      obtain ⟨hw, eN16⟩ := hw
      rw [eN16] at hZ
      refine lv_aload_n (pc := 57) hx hb d_Mo_divide_57 rfl (lv_at hl 0 rfl) ?_
      refine lv_aload_n (pc := 58) hx hb d_Mo_divide_58 rfl (lv_at hl 0 rfl) ?_
      refine zg_Mo_32 (pc := 59) hx hb hta hown hK hZ d_Mo_divide_59 ?_
      refine z_calli (pc := 62) (va_runS (As := [.ref (b + 107)]) (rest := [.ref (b + 99)]) ⟨hx, hb, hml, hown, hts⟩ (c_Mo_degreeOf l G b 107 M15 N10 hw) (va_cwS 1 hts (z_good (zgS wd814 wd815 wd7 wd816)) rfl rfl rfl hd_Mo_degreeOf ⟨Nat.le_of_ble_eq_true rfl, Nat.le_of_ble_eq_true rfl⟩) (z_preS hZ hK hT hS) rfl rfl hl.1 rfl (lv_room (Nat.le_of_ble_eq_true rfl)) d_Mo_divide_62 ⟨Nat.le_of_ble_eq_true rfl, Nat.le_of_ble_eq_true rfl⟩) hS (fun r17 M18 N19 H locs hw hZ hS => ?_)
      obtain ⟨hw, eM18, eN19⟩ := hw
      rw [eM18, eN19] at hZ
      refine lv_if_lt (pc := 65) (tgt := 87) hx hb d_Mo_divide_65 (by decide) (fun hc => ?_) (fun hc => ?_)
      · have hw := hw.1 hc
        refine lv_iconst (pc := 87) (v := 2) hx hb d_Mo_divide_87 (by decide) ?_
        exact j88 (2 : Int32) M15 N10 _ _ _ hZ hS (lv_sub hl [0, 1] rfl) hw
      · have hw := hw.2 hc
        refine lv_aload_n (pc := 68) hx hb d_Mo_divide_68 rfl (lv_at hl 0 rfl) ?_
        refine lv_aload_n (pc := 69) hx hb d_Mo_divide_69 rfl (lv_at hl 0 rfl) ?_
        refine zg_Mo_32 (pc := 70) hx hb hta hown hK hZ d_Mo_divide_70 ?_
        refine lv_aload_n (pc := 73) hx hb d_Mo_divide_73 rfl (lv_at hl 0 rfl) ?_
        refine zg_Mo_29 (pc := 74) hx hb hta hown hK hZ d_Mo_divide_74 ?_
        refine z_calli (pc := 77) (va_runV (C := R_Mo) (b := b + 99) (As := [.ref (b + 107), .ref (b + 106)]) (rest := [.ref (b + 99)]) ⟨hx, hb, hml, hown, hts⟩ (c_Mo_divides l G b 107 106 M15 N10 hw) (cwV 2 hts (z_good (zgV wd861 wd863 wsel21 wd7 wd864)) rfl rfl rfl ⟨rfl, hd_Mo_divides⟩ ⟨Nat.le_of_ble_eq_true rfl, Nat.le_of_ble_eq_true rfl⟩) (z_preV zo_Mo rfl rfl hZ hK hT hS) rfl rfl hl.1 rfl (lv_room (Nat.le_of_ble_eq_true rfl)) d_Mo_divide_77 ⟨Nat.le_of_ble_eq_true rfl, Nat.le_of_ble_eq_true rfl⟩) hS (fun r20 M21 N22 H locs hw hZ hS => ?_)
        obtain ⟨hw, eN22⟩ := hw
        rw [eN22] at hZ
        refine lv_if_eq (pc := 80) (tgt := 87) hx hb d_Mo_divide_80 (by decide) (fun hc => ?_) (fun hc => ?_)
        · have hw := hw.1 hc
          refine lv_iconst (pc := 87) (v := 2) hx hb d_Mo_divide_87 (by decide) ?_
          exact j88 (2 : Int32) M21 N10 _ _ _ hZ hS (lv_sub hl [0, 1] rfl) hw
        · have hw := hw.2 hc
          refine lv_iconst (pc := 83) (v := 0) hx hb d_Mo_divide_83 (by decide) ?_
          refine lv_goto (pc := 84) (tgt := 88) hx hb d_Mo_divide_84 (by decide) ?_
          exact j88 (0 : Int32) M21 N10 _ _ _ hZ hS (lv_sub hl [0, 1] rfl) hw
    · have hw := hw.2 hc
      refine lv_iconst (pc := 37) (v := 0) hx hb d_Mo_divide_37 (by decide) ?_
      exact z_iret hx hb hr hlocks hK hT hZ hS hw d_Mo_divide_38
  unfold w_Mo_divide at hw
  refine lv_aload_n (pc := 0) hx hb d_Mo_divide_0 rfl (lv_at hl 0 rfl) ?_
  refine lv_iload_n (pc := 1) hx hb d_Mo_divide_1 rfl (lv_at hl 1 rfl) ?_
  refine z_calli (pc := 2) (va_runS (As := [.int a1]) (rest := [.ref (b + 99)]) ⟨hx, hb, hml, hown, hts⟩ (c_Mo_isRegister l G b a1 M N hw) (va_cwS 1 hts (z_good (zgS wd805 wd806 wd7 wd807)) rfl rfl rfl hd_Mo_isRegister ⟨Nat.le_of_ble_eq_true rfl, Nat.le_of_ble_eq_true rfl⟩) (z_preS hZ hK hT hS) rfl rfl hl.1 rfl (lv_room (Nat.le_of_ble_eq_true rfl)) d_Mo_divide_2 ⟨Nat.le_of_ble_eq_true rfl, Nat.le_of_ble_eq_true rfl⟩) hS (fun r1 M2 N3 H locs hw hZ hS => ?_)
  obtain ⟨hw, eM2, eN3⟩ := hw
  rw [eM2, eN3] at hZ
  refine lv_if_eq (pc := 5) (tgt := 26) hx hb d_Mo_divide_5 (by decide) (fun hc => ?_) (fun hc => ?_)
  · have hw := hw.1 hc
    refine lv_iconst (pc := 26) (v := 1) hx hb d_Mo_divide_26 (by decide) ?_
    exact j27 (1 : Int32) M N _ _ _ hZ hS hl hw
  · have hw := hw.2 hc
    refine lv_iload_n (pc := 8) hx hb d_Mo_divide_8 rfl (lv_at hl 2 rfl) ?_
    refine z_calli (pc := 9) (va_runS (As := [.int a2]) (rest := [.ref (b + 99)]) ⟨hx, hb, hml, hown, hts⟩ (c_Mo_isRegister l G b a2 M N hw) (va_cwS 1 hts (z_good (zgS wd805 wd806 wd7 wd807)) rfl rfl rfl hd_Mo_isRegister ⟨Nat.le_of_ble_eq_true rfl, Nat.le_of_ble_eq_true rfl⟩) (z_preS hZ hK hT hS) rfl rfl hl.1 rfl (lv_room (Nat.le_of_ble_eq_true rfl)) d_Mo_divide_9 ⟨Nat.le_of_ble_eq_true rfl, Nat.le_of_ble_eq_true rfl⟩) hS (fun r4 M5 N6 H locs hw hZ hS => ?_)
    obtain ⟨hw, eM5, eN6⟩ := hw
    rw [eM5, eN6] at hZ
    refine lv_if_eq (pc := 12) (tgt := 26) hx hb d_Mo_divide_12 (by decide) (fun hc => ?_) (fun hc => ?_)
    · have hw := hw.1 hc
      refine lv_iconst (pc := 26) (v := 1) hx hb d_Mo_divide_26 (by decide) ?_
      exact j27 (1 : Int32) M N _ _ _ hZ hS hl hw
    · have hw := hw.2 hc
      refine lv_iload_n (pc := 15) hx hb d_Mo_divide_15 rfl (lv_at hl 3 rfl) ?_
      refine z_calli (pc := 16) (va_runS (As := [.int a3]) (rest := [.ref (b + 99)]) ⟨hx, hb, hml, hown, hts⟩ (c_Mo_isRegister l G b a3 M N hw) (va_cwS 1 hts (z_good (zgS wd805 wd806 wd7 wd807)) rfl rfl rfl hd_Mo_isRegister ⟨Nat.le_of_ble_eq_true rfl, Nat.le_of_ble_eq_true rfl⟩) (z_preS hZ hK hT hS) rfl rfl hl.1 rfl (lv_room (Nat.le_of_ble_eq_true rfl)) d_Mo_divide_16 ⟨Nat.le_of_ble_eq_true rfl, Nat.le_of_ble_eq_true rfl⟩) hS (fun r7 M8 N9 H locs hw hZ hS => ?_)
      obtain ⟨hw, eM8, eN9⟩ := hw
      rw [eM8, eN9] at hZ
      refine lv_if_eq (pc := 19) (tgt := 26) hx hb d_Mo_divide_19 (by decide) (fun hc => ?_) (fun hc => ?_)
      · have hw := hw.1 hc
        refine lv_iconst (pc := 26) (v := 1) hx hb d_Mo_divide_26 (by decide) ?_
        exact j27 (1 : Int32) M N _ _ _ hZ hS hl hw
      · have hw := hw.2 hc
        refine lv_iconst (pc := 22) (v := 0) hx hb d_Mo_divide_22 (by decide) ?_
        refine lv_goto (pc := 23) (tgt := 27) hx hb d_Mo_divide_23 (by decide) ?_
        exact j27 (0 : Int32) M N _ _ _ hZ hS hl hw
theorem d_Mo_value_0 : decode prog_10_method_24_code 0 = .ok (.aload_n 0, 1) := by decide +kernel
theorem d_Mo_value_1 : decode prog_10_method_24_code 1 = .ok (.iload_n 1, 1) := by decide +kernel
theorem d_Mo_value_2 : decode prog_10_method_24_code 2 = .ok (.invokestatic 98, 3) := by decide +kernel
theorem d_Mo_value_5 : decode prog_10_method_24_code 5 = .ok (.ifCond .ne 7, 3) := by decide +kernel
theorem d_Mo_value_8 : decode prog_10_method_24_code 8 = .ok (.iconst 1, 1) := by decide +kernel
theorem d_Mo_value_9 : decode prog_10_method_24_code 9 = .ok (.goto 20, 3) := by decide +kernel
theorem d_Mo_value_12 : decode prog_10_method_24_code 12 = .ok (.iload_n 2, 1) := by decide +kernel
theorem d_Mo_value_13 : decode prog_10_method_24_code 13 = .ok (.bipush (-9), 2) := by decide +kernel
theorem d_Mo_value_15 : decode prog_10_method_24_code 15 = .ok (.if_icmp .lt 9, 3) := by decide +kernel
theorem d_Mo_value_18 : decode prog_10_method_24_code 18 = .ok (.iload_n 2, 1) := by decide +kernel
theorem d_Mo_value_19 : decode prog_10_method_24_code 19 = .ok (.bipush 9, 2) := by decide +kernel
theorem d_Mo_value_21 : decode prog_10_method_24_code 21 = .ok (.if_icmp .le 7, 3) := by decide +kernel
theorem d_Mo_value_24 : decode prog_10_method_24_code 24 = .ok (.iconst 2, 1) := by decide +kernel
theorem d_Mo_value_25 : decode prog_10_method_24_code 25 = .ok (.goto 4, 3) := by decide +kernel
theorem d_Mo_value_28 : decode prog_10_method_24_code 28 = .ok (.iconst 0, 1) := by decide +kernel
theorem d_Mo_value_29 : decode prog_10_method_24_code 29 = .ok (.putfield 78, 3) := by decide +kernel
theorem d_Mo_value_32 : decode prog_10_method_24_code 32 = .ok (.lconst 0, 1) := by decide +kernel
theorem d_Mo_value_33 : decode prog_10_method_24_code 33 = .ok (.lstore_n 3, 1) := by decide +kernel
theorem d_Mo_value_34 : decode prog_10_method_24_code 34 = .ok (.bipush 7, 2) := by decide +kernel
theorem d_Mo_value_36 : decode prog_10_method_24_code 36 = .ok (.istore 5, 2) := by decide +kernel
theorem d_Mo_value_38 : decode prog_10_method_24_code 38 = .ok (.iload 5, 2) := by decide +kernel
theorem d_Mo_value_40 : decode prog_10_method_24_code 40 = .ok (.ifCond .lt 35, 3) := by decide +kernel
theorem d_Mo_value_43 : decode prog_10_method_24_code 43 = .ok (.aload_n 0, 1) := by decide +kernel
theorem d_Mo_value_44 : decode prog_10_method_24_code 44 = .ok (.getfield 78, 3) := by decide +kernel
theorem d_Mo_value_47 : decode prog_10_method_24_code 47 = .ok (.ifCond .ne 28, 3) := by decide +kernel
theorem d_Mo_value_50 : decode prog_10_method_24_code 50 = .ok (.lload_n 3, 1) := by decide +kernel
theorem d_Mo_value_51 : decode prog_10_method_24_code 51 = .ok (.iload_n 2, 1) := by decide +kernel
theorem d_Mo_value_52 : decode prog_10_method_24_code 52 = .ok (.i2l, 1) := by decide +kernel
theorem d_Mo_value_53 : decode prog_10_method_24_code 53 = .ok (.lmul, 1) := by decide +kernel
theorem d_Mo_value_54 : decode prog_10_method_24_code 54 = .ok (.aload_n 0, 1) := by decide +kernel
theorem d_Mo_value_55 : decode prog_10_method_24_code 55 = .ok (.getfield 7, 3) := by decide +kernel
theorem d_Mo_value_58 : decode prog_10_method_24_code 58 = .ok (.bipush 8, 2) := by decide +kernel
theorem d_Mo_value_60 : decode prog_10_method_24_code 60 = .ok (.iload_n 1, 1) := by decide +kernel
theorem d_Mo_value_61 : decode prog_10_method_24_code 61 = .ok (.imul, 1) := by decide +kernel
theorem d_Mo_value_62 : decode prog_10_method_24_code 62 = .ok (.iload 5, 2) := by decide +kernel
theorem d_Mo_value_64 : decode prog_10_method_24_code 64 = .ok (.iadd, 1) := by decide +kernel
theorem d_Mo_value_65 : decode prog_10_method_24_code 65 = .ok (.iaload, 1) := by decide +kernel
theorem d_Mo_value_66 : decode prog_10_method_24_code 66 = .ok (.i2l, 1) := by decide +kernel
theorem d_Mo_value_67 : decode prog_10_method_24_code 67 = .ok (.ladd, 1) := by decide +kernel
theorem d_Mo_value_68 : decode prog_10_method_24_code 68 = .ok (.lstore_n 3, 1) := by decide +kernel
theorem d_Mo_value_69 : decode prog_10_method_24_code 69 = .ok (.iinc 5 (-1), 3) := by decide +kernel
theorem d_Mo_value_72 : decode prog_10_method_24_code 72 = .ok (.goto (-34), 3) := by decide +kernel
theorem d_Mo_value_75 : decode prog_10_method_24_code 75 = .ok (.lload_n 3, 1) := by decide +kernel
theorem d_Mo_value_76 : decode prog_10_method_24_code 76 = .ok (.lreturn, 1) := by decide +kernel
def B_Mo_value_38 (P : Int64 → zN → Prop) (a1 : Int32) (a2 : Int32) (N : zN) (k38 : Int64 → Int32 → Prop) (v3 : Int64) (v5 : Int32) : Prop := (v5 < 0 → P v3 N) ∧ (¬ v5 < 0 → (¬ (N 99 0) = 0 → P v3 N) ∧ ((N 99 0) = 0 → vp_in (((8 : Int32) * a1) + v5) (zint 100) ∧ ∀ x8 : Int64, x8 = (v3 * a2.toInt64) + ((N 100 (((8 : Int32) * a1) + v5).toNatClampNeg).toInt64) → k38 x8 (v5 + (-1 : Int32))))
def L_Mo_value_38 (P : Int64 → zN → Prop) (a1 : Int32) (a2 : Int32) (N : zN) (n : Nat) : Int64 → Int32 → Prop := Nat.rec (fun _ _ => False) (fun _ k => B_Mo_value_38 P a1 a2 N k) n
def w_Mo_value (a1 : Int32) (a2 : Int32) (N : zN) (P : Int64 → zN → Prop) : Prop := w_Mo_isRegister a1  (fun r1 => (¬ r1 = 0 → (a2 < (-9 : Int32) → ∀ N4 : zN, N4 = zpui N 99 0 (2 : Int32) → ∃ n, L_Mo_value_38 P a1 a2 N4 n (0 : Int64) (7 : Int32)) ∧ (¬ a2 < (-9 : Int32) → (a2 ≤ (9 : Int32) → ∀ N5 : zN, N5 = zpui N 99 0 (0 : Int32) → ∃ n, L_Mo_value_38 P a1 a2 N5 n (0 : Int64) (7 : Int32)) ∧ (¬ a2 ≤ (9 : Int32) → ∀ N6 : zN, N6 = zpui N 99 0 (2 : Int32) → ∃ n, L_Mo_value_38 P a1 a2 N6 n (0 : Int64) (7 : Int32)))) ∧ (r1 = 0 → ∀ N7 : zN, N7 = zpui N 99 0 (1 : Int32) → ∃ n, L_Mo_value_38 P a1 a2 N7 n (0 : Int64) (7 : Int32)))
def ws_Mo_value : List Cond := .code y_Mo_value prog_10_method_24_code 6 (Option.some Jvm.ClassFile.FieldType.long) :: zall
def rm_Mo_value : Room := { frames := 1, cells := 0, slots := 0, locals := 20 }
theorem hd_Mo_value : y_Mo_value.cls ≠ "java/lang/invoke/MethodHandle" ∧ y_Mo_value.cls ≠ "java/lang/invoke/VarHandle" ∧ (parseMethodDescriptor y_Mo_value.desc).map (fun d => d.parameters.length) = some 2 := by decide +kernel
set_option maxHeartbeats 4000000 in
set_option maxRecDepth 100000 in
theorem c_Mo_value (l : Launch) (G : zG) (b : Nat) (a1 : Int32) (a2 : Int32) (M : zM) (N : zN) {P : Int64 → zN → Prop} (hw : w_Mo_value a1 a2 N P) : Met l y_Mo_value ws_Mo_value rm_Mo_value (zPc G b M N [.ref (b + 99), .int a1, .int a2]) (zQl G b (fun r M' N' => P r N' ∧ M' = M)) 0 0 (zA b) := by
  refine Met.ofW (cc := prog_10_method_24_code) (maxL := 6) (ret := (Option.some Jvm.ClassFile.FieldType.long)) (by decide) rfl ?_
  intro p e s m args below meth c s₁ B hml hv
  obtain ⟨rfl, hZ, hK, hT⟩ := hv
  have hx := B.exec
  have hb := B.bytes
  have hr := B.returns
  have hts := atoms_spec (ws := ws_Mo_value) B.pre
  have hta : ∀ w ∈ zall, w.before ([.ref (b + 99), .int a1, .int a2] : List Value).toArray s = true := fun w h => hts w (List.mem_cons_of_mem _ h)
  have hown : s.vm.findClass R_Mo = some m.cls := findClass_of_methodNamed B.named
  have hlocks := B.notSynchronized
  have hS : va_S (zA b) s.heap s.heap [] := va_S.rf
  have hl := lv_entry ([.ref (b + 99), .int a1, .int a2]) (n := 6) (Nat.le_of_ble_eq_true rfl)
  rw [lg_entry_eq]
  generalize (lg_sl ([.ref (b + 99), .int a1, .int a2]) ++ List.replicate (6 - (lg_sl ([.ref (b + 99), .int a1, .int a2])).length) Slot.unset).toArray = ls at hl ⊢
  have hl : lv_has ls 6 [(0, .ref (b + 99)), (1, .int a1), (2, .int a2)] := hl
  have lp38 : ∀ (N : zN) (n : Nat) (v3 : Int64) (v5 : Int32) (H : Heap) (ls : Array Slot) (locs : List Loc), va_P G.1 zCl (zws G b M N) H → va_S (zA b) s.heap H locs → lv_has ls 6 [(0, .ref (b + 99)), (1, .int a1), (2, .int a2), (3, .long v3), (5, .int v5)] → L_Mo_value_38 P a1 a2 N n v3 v5 → W p l e (headSpec ws_Mo_value rm_Mo_value).room s m ([.ref (b + 99), .int a1, .int a2] : List Value).toArray below meth c H locs 0 0 (MQ below (zQl G b (fun r M' N' => P r N' ∧ M' = M)) ([.ref (b + 99), .int a1, .int a2] : List Value).toArray s 0 0 (zA b)) (F0 m 38 ls []) := by
    intro N n
    induction n with
    | zero => intro v3 v5 H ls locs hZ hS hl hw; exact False.elim hw
    | succ n38 ih38 =>
      intro v3 v5 H ls locs hZ hS hl hw
      have hw : B_Mo_value_38 P a1 a2 N (L_Mo_value_38 P a1 a2 N n38) v3 v5 := hw
      unfold B_Mo_value_38 at hw
      refine lv_iload (pc := 38) hx hb d_Mo_value_38 (lv_at hl 4 rfl) ?_
      refine lv_if_lt (pc := 40) (tgt := 75) hx hb d_Mo_value_40 (by decide) (fun hc => ?_) (fun hc => ?_)
      · have hw := hw.1 hc
        refine lv_lload_n (pc := 75) hx hb d_Mo_value_75 rfl (lv_at hl 3 rfl) ?_
        exact z_lret hx hb hr hlocks hK hT hZ hS ⟨hw, rfl⟩ d_Mo_value_76
      · have hw := hw.2 hc
        refine lv_aload_n (pc := 43) hx hb d_Mo_value_43 rfl (lv_at hl 0 rfl) ?_
        refine zg_Mo_78 (pc := 44) hx hb hta hown hK hZ d_Mo_value_44 ?_
        refine lv_if_ne (pc := 47) (tgt := 75) hx hb d_Mo_value_47 (by decide) (fun hc => ?_) (fun hc => ?_)
        · have hw := hw.1 hc
          refine lv_lload_n (pc := 75) hx hb d_Mo_value_75 rfl (lv_at hl 3 rfl) ?_
          exact z_lret hx hb hr hlocks hK hT hZ hS ⟨hw, rfl⟩ d_Mo_value_76
        · have hw := hw.2 hc
          refine lv_lload_n (pc := 50) hx hb d_Mo_value_50 rfl (lv_at hl 3 rfl) ?_
          refine lv_iload_n (pc := 51) hx hb d_Mo_value_51 rfl (lv_at hl 2 rfl) ?_
          refine lv_i2l (pc := 52) (v := a2.toInt64) hx hb d_Mo_value_52 rfl ?_
          refine lv_lmul (pc := 53) hx hb d_Mo_value_53 ?_
          refine lv_aload_n (pc := 54) hx hb d_Mo_value_54 rfl (lv_at hl 0 rfl) ?_
          refine zg_Mo_7 (pc := 55) hx hb hta hown hK hZ d_Mo_value_55 ?_
          refine lv_bipush (pc := 58) (v := 8) hx hb d_Mo_value_58 (by decide) ?_
          refine lv_iload_n (pc := 60) hx hb d_Mo_value_60 rfl (lv_at hl 1 rfl) ?_
          refine lv_imul (pc := 61) hx hb d_Mo_value_61 ?_
          refine lv_iload (pc := 62) hx hb d_Mo_value_62 (lv_at hl 4 rfl) ?_
          refine lv_iadd (pc := 64) hx hb d_Mo_value_64 ?_
          obtain ⟨hc, hw⟩ := hw
          refine z_iald (pc := 65) hx hb hK hZ hc d_Mo_value_65 ?_
          refine lv_i2l (pc := 66) (v := (N 100 (((8 : Int32) * a1) + v5).toNatClampNeg).toInt64) hx hb d_Mo_value_66 rfl ?_
          refine lv_ladd (pc := 67) hx hb d_Mo_value_67 ?_
          refine lv_topl (fun x8 hx8 => ?_)
          have hw := hw x8 hx8
          refine lv_lstore_n (pc := 68) (lv' := [(3, .long x8), (0, .ref (b + 99)), (1, .int a1), (2, .int a2), (5, .int v5)]) hx hb d_Mo_value_68 rfl hl (by decide) rfl (fun ls hl => ?_)
          refine lv_iinc (pc := 69) (k := 4) (v := v5 + (-1 : Int32)) (lv' := [(5, .int (v5 + (-1 : Int32))), (3, .long x8), (0, .ref (b + 99)), (1, .int a1), (2, .int a2)]) hx hb d_Mo_value_69 hl rfl (by rfl) (by decide) rfl (fun ls hl => ?_)
          refine lv_goto (pc := 72) (tgt := 38) hx hb d_Mo_value_72 (by decide) ?_
          exact ih38 x8 (v5 + (-1 : Int32)) _ _ _ hZ hS (lv_sub hl [2, 3, 4, 1, 0] rfl) hw
  unfold w_Mo_value at hw
  refine lv_aload_n (pc := 0) hx hb d_Mo_value_0 rfl (lv_at hl 0 rfl) ?_
  refine lv_iload_n (pc := 1) hx hb d_Mo_value_1 rfl (lv_at hl 1 rfl) ?_
  refine z_calli (pc := 2) (va_runS (As := [.int a1]) (rest := [.ref (b + 99)]) ⟨hx, hb, hml, hown, hts⟩ (c_Mo_isRegister l G b a1 M N hw) (va_cwS 1 hts (z_good (zgS wd805 wd806 wd7 wd807)) rfl rfl rfl hd_Mo_isRegister ⟨Nat.le_of_ble_eq_true rfl, Nat.le_of_ble_eq_true rfl⟩) (z_preS hZ hK hT hS) rfl rfl hl.1 rfl (lv_room (Nat.le_of_ble_eq_true rfl)) d_Mo_value_2 ⟨Nat.le_of_ble_eq_true rfl, Nat.le_of_ble_eq_true rfl⟩) hS (fun r1 M2 N3 H locs hw hZ hS => ?_)
  obtain ⟨hw, eM2, eN3⟩ := hw
  rw [eM2, eN3] at hZ
  refine lv_if_ne (pc := 5) (tgt := 12) hx hb d_Mo_value_5 (by decide) (fun hc => ?_) (fun hc => ?_)
  · have hw := hw.1 hc
    refine lv_iload_n (pc := 12) hx hb d_Mo_value_12 rfl (lv_at hl 2 rfl) ?_
    refine lv_bipush (pc := 13) (v := -9) hx hb d_Mo_value_13 (by decide) ?_
    refine lv_icmp_lt (pc := 15) (tgt := 24) hx hb d_Mo_value_15 (by decide) (fun hc => ?_) (fun hc => ?_)
    · have hw := hw.1 hc
      refine lv_iconst (pc := 24) (v := 2) hx hb d_Mo_value_24 (by decide) ?_
      refine lv_goto (pc := 25) (tgt := 29) hx hb d_Mo_value_25 (by decide) ?_
      refine zp_Mo_78 (pc := 29) hx hb hta hown hK hZ hS d_Mo_value_29 (fun N4 H locs hN4 hZ hS => ?_)
      have hw := hw N4 hN4
      refine lv_lconst (pc := 32) (v := 0) hx hb d_Mo_value_32 (by decide) ?_
      refine lv_lstore_n (pc := 33) (lv' := [(3, .long (0 : Int64)), (0, .ref (b + 99)), (1, .int a1), (2, .int a2)]) hx hb d_Mo_value_33 rfl hl (by decide) rfl (fun ls hl => ?_)
      refine lv_bipush (pc := 34) (v := 7) hx hb d_Mo_value_34 (by decide) ?_
      refine lv_istore (pc := 36) (lv' := [(5, .int (7 : Int32)), (3, .long (0 : Int64)), (0, .ref (b + 99)), (1, .int a1), (2, .int a2)]) hx hb d_Mo_value_36 hl (by decide) rfl (fun ls hl => ?_)
      obtain ⟨n, hw⟩ := hw
      exact lp38 N4 n (0 : Int64) (7 : Int32) _ _ _ hZ hS (lv_sub hl [2, 3, 4, 1, 0] rfl) hw
    · have hw := hw.2 hc
      refine lv_iload_n (pc := 18) hx hb d_Mo_value_18 rfl (lv_at hl 2 rfl) ?_
      refine lv_bipush (pc := 19) (v := 9) hx hb d_Mo_value_19 (by decide) ?_
      refine lv_icmp_le (pc := 21) (tgt := 28) hx hb d_Mo_value_21 (by decide) (fun hc => ?_) (fun hc => ?_)
      · have hw := hw.1 hc
        refine lv_iconst (pc := 28) (v := 0) hx hb d_Mo_value_28 (by decide) ?_
        refine zp_Mo_78 (pc := 29) hx hb hta hown hK hZ hS d_Mo_value_29 (fun N5 H locs hN5 hZ hS => ?_)
        have hw := hw N5 hN5
        refine lv_lconst (pc := 32) (v := 0) hx hb d_Mo_value_32 (by decide) ?_
        refine lv_lstore_n (pc := 33) (lv' := [(3, .long (0 : Int64)), (0, .ref (b + 99)), (1, .int a1), (2, .int a2)]) hx hb d_Mo_value_33 rfl hl (by decide) rfl (fun ls hl => ?_)
        refine lv_bipush (pc := 34) (v := 7) hx hb d_Mo_value_34 (by decide) ?_
        refine lv_istore (pc := 36) (lv' := [(5, .int (7 : Int32)), (3, .long (0 : Int64)), (0, .ref (b + 99)), (1, .int a1), (2, .int a2)]) hx hb d_Mo_value_36 hl (by decide) rfl (fun ls hl => ?_)
        obtain ⟨n, hw⟩ := hw
        exact lp38 N5 n (0 : Int64) (7 : Int32) _ _ _ hZ hS (lv_sub hl [2, 3, 4, 1, 0] rfl) hw
      · have hw := hw.2 hc
        refine lv_iconst (pc := 24) (v := 2) hx hb d_Mo_value_24 (by decide) ?_
        refine lv_goto (pc := 25) (tgt := 29) hx hb d_Mo_value_25 (by decide) ?_
        refine zp_Mo_78 (pc := 29) hx hb hta hown hK hZ hS d_Mo_value_29 (fun N6 H locs hN6 hZ hS => ?_)
        have hw := hw N6 hN6
        refine lv_lconst (pc := 32) (v := 0) hx hb d_Mo_value_32 (by decide) ?_
        refine lv_lstore_n (pc := 33) (lv' := [(3, .long (0 : Int64)), (0, .ref (b + 99)), (1, .int a1), (2, .int a2)]) hx hb d_Mo_value_33 rfl hl (by decide) rfl (fun ls hl => ?_)
        refine lv_bipush (pc := 34) (v := 7) hx hb d_Mo_value_34 (by decide) ?_
        refine lv_istore (pc := 36) (lv' := [(5, .int (7 : Int32)), (3, .long (0 : Int64)), (0, .ref (b + 99)), (1, .int a1), (2, .int a2)]) hx hb d_Mo_value_36 hl (by decide) rfl (fun ls hl => ?_)
        obtain ⟨n, hw⟩ := hw
        exact lp38 N6 n (0 : Int64) (7 : Int32) _ _ _ hZ hS (lv_sub hl [2, 3, 4, 1, 0] rfl) hw
  · have hw := hw.2 hc
    refine lv_iconst (pc := 8) (v := 1) hx hb d_Mo_value_8 (by decide) ?_
    refine lv_goto (pc := 9) (tgt := 29) hx hb d_Mo_value_9 (by decide) ?_
    refine zp_Mo_78 (pc := 29) hx hb hta hown hK hZ hS d_Mo_value_29 (fun N7 H locs hN7 hZ hS => ?_)
    have hw := hw N7 hN7
    refine lv_lconst (pc := 32) (v := 0) hx hb d_Mo_value_32 (by decide) ?_
    refine lv_lstore_n (pc := 33) (lv' := [(3, .long (0 : Int64)), (0, .ref (b + 99)), (1, .int a1), (2, .int a2)]) hx hb d_Mo_value_33 rfl hl (by decide) rfl (fun ls hl => ?_)
    refine lv_bipush (pc := 34) (v := 7) hx hb d_Mo_value_34 (by decide) ?_
    refine lv_istore (pc := 36) (lv' := [(5, .int (7 : Int32)), (3, .long (0 : Int64)), (0, .ref (b + 99)), (1, .int a1), (2, .int a2)]) hx hb d_Mo_value_36 hl (by decide) rfl (fun ls hl => ?_)
    obtain ⟨n, hw⟩ := hw
    exact lp38 N7 n (0 : Int64) (7 : Int32) _ _ _ hZ hS (lv_sub hl [2, 3, 4, 1, 0] rfl) hw
theorem d_Mo_content_0 : decode prog_10_method_25_code 0 = .ok (.aload_n 0, 1) := by decide +kernel
theorem d_Mo_content_1 : decode prog_10_method_25_code 1 = .ok (.iload_n 1, 1) := by decide +kernel
theorem d_Mo_content_2 : decode prog_10_method_25_code 2 = .ok (.invokestatic 98, 3) := by decide +kernel
theorem d_Mo_content_5 : decode prog_10_method_25_code 5 = .ok (.ifCond .eq 7, 3) := by decide +kernel
theorem d_Mo_content_8 : decode prog_10_method_25_code 8 = .ok (.iconst 0, 1) := by decide +kernel
theorem d_Mo_content_9 : decode prog_10_method_25_code 9 = .ok (.goto 4, 3) := by decide +kernel
theorem d_Mo_content_12 : decode prog_10_method_25_code 12 = .ok (.iconst 1, 1) := by decide +kernel
theorem d_Mo_content_13 : decode prog_10_method_25_code 13 = .ok (.putfield 78, 3) := by decide +kernel
theorem d_Mo_content_16 : decode prog_10_method_25_code 16 = .ok (.aload_n 0, 1) := by decide +kernel
theorem d_Mo_content_17 : decode prog_10_method_25_code 17 = .ok (.getfield 78, 3) := by decide +kernel
theorem d_Mo_content_20 : decode prog_10_method_25_code 20 = .ok (.ifCond .le 5, 3) := by decide +kernel
theorem d_Mo_content_23 : decode prog_10_method_25_code 23 = .ok (.iconst 0, 1) := by decide +kernel
theorem d_Mo_content_24 : decode prog_10_method_25_code 24 = .ok (.ireturn, 1) := by decide +kernel
theorem d_Mo_content_25 : decode prog_10_method_25_code 25 = .ok (.aload_n 0, 1) := by decide +kernel
theorem d_Mo_content_26 : decode prog_10_method_25_code 26 = .ok (.iload_n 1, 1) := by decide +kernel
theorem d_Mo_content_27 : decode prog_10_method_25_code 27 = .ok (.aload_n 0, 1) := by decide +kernel
theorem d_Mo_content_28 : decode prog_10_method_25_code 28 = .ok (.getfield 29, 3) := by decide +kernel
theorem d_Mo_content_31 : decode prog_10_method_25_code 31 = .ok (.invokevirtual 104, 3) := by decide +kernel
theorem d_Mo_content_34 : decode prog_10_method_25_code 34 = .ok (.aload_n 0, 1) := by decide +kernel
theorem d_Mo_content_35 : decode prog_10_method_25_code 35 = .ok (.getfield 29, 3) := by decide +kernel
theorem d_Mo_content_38 : decode prog_10_method_25_code 38 = .ok (.invokestatic 133, 3) := by decide +kernel
theorem d_Mo_content_41 : decode prog_10_method_25_code 41 = .ok (.l2i, 1) := by decide +kernel
theorem d_Mo_content_42 : decode prog_10_method_25_code 42 = .ok (.ireturn, 1) := by decide +kernel
def J_Mo_content_13 (P : Int32 → zM → zN → Prop) (a1 : Int32) (t0 : Int32) (M : zM) (N : zN) : Prop := ∀ N4 : zN, N4 = zpui N 99 0 t0 → ((N4 99 0) ≤ 0 → w_Mo_load a1 106 M N4 (fun M6 => w_Mo_contentOf 106 M6 (fun r8 => P r8.toInt32 M6 N4))) ∧ (¬ (N4 99 0) ≤ 0 → P (0 : Int32) M N4)
def w_Mo_content (a1 : Int32) (M : zM) (N : zN) (P : Int32 → zM → zN → Prop) : Prop := w_Mo_isRegister a1  (fun r1 => (r1 = 0 → J_Mo_content_13 P a1 (1 : Int32) M N) ∧ (¬ r1 = 0 → J_Mo_content_13 P a1 (0 : Int32) M N))
def ws_Mo_content : List Cond := .code y_Mo_content prog_10_method_25_code 2 (Option.some Jvm.ClassFile.FieldType.int) :: zall
def rm_Mo_content : Room := { frames := 3, cells := 0, slots := 0, locals := 73 }
theorem hd_Mo_content : y_Mo_content.cls ≠ "java/lang/invoke/MethodHandle" ∧ y_Mo_content.cls ≠ "java/lang/invoke/VarHandle" ∧ (parseMethodDescriptor y_Mo_content.desc).map (fun d => d.parameters.length) = some 1 := by decide +kernel
set_option maxHeartbeats 4000000 in
set_option maxRecDepth 100000 in
theorem c_Mo_content (l : Launch) (G : zG) (b : Nat) (a1 : Int32) (M : zM) (N : zN) {P : Int32 → zM → zN → Prop} (hw : w_Mo_content a1 M N P) : Met l y_Mo_content ws_Mo_content rm_Mo_content (zPc G b M N [.ref (b + 99), .int a1]) (zQi G b (fun r M' N' => P r M' N')) 0 0 (zA b) := by
  refine Met.ofW (cc := prog_10_method_25_code) (maxL := 2) (ret := (Option.some Jvm.ClassFile.FieldType.int)) (by decide) rfl ?_
  intro p e s m args below meth c s₁ B hml hv
  obtain ⟨rfl, hZ, hK, hT⟩ := hv
  have hx := B.exec
  have hb := B.bytes
  have hr := B.returns
  have hts := atoms_spec (ws := ws_Mo_content) B.pre
  have hta : ∀ w ∈ zall, w.before ([.ref (b + 99), .int a1] : List Value).toArray s = true := fun w h => hts w (List.mem_cons_of_mem _ h)
  have hown : s.vm.findClass R_Mo = some m.cls := findClass_of_methodNamed B.named
  have hlocks := B.notSynchronized
  have hS : va_S (zA b) s.heap s.heap [] := va_S.rf
  have hl := lv_entry ([.ref (b + 99), .int a1]) (n := 2) (Nat.le_of_ble_eq_true rfl)
  rw [lg_entry_eq]
  generalize (lg_sl ([.ref (b + 99), .int a1]) ++ List.replicate (2 - (lg_sl ([.ref (b + 99), .int a1])).length) Slot.unset).toArray = ls at hl ⊢
  have hl : lv_has ls 2 [(0, .ref (b + 99)), (1, .int a1)] := hl
  have j13 : ∀ (t0 : Int32) (M : zM) (N : zN) (H : Heap) (ls : Array Slot) (locs : List Loc), va_P G.1 zCl (zws G b M N) H → va_S (zA b) s.heap H locs → lv_has ls 2 [(0, .ref (b + 99)), (1, .int a1)] → J_Mo_content_13 P a1 t0 M N → W p l e (headSpec ws_Mo_content rm_Mo_content).room s m ([.ref (b + 99), .int a1] : List Value).toArray below meth c H locs 0 0 (MQ below (zQi G b (fun r M' N' => P r M' N')) ([.ref (b + 99), .int a1] : List Value).toArray s 0 0 (zA b)) (F0 m 13 ls [.int t0, .ref (b + 99)]) := by
    intro t0 M N H ls locs hZ hS hl hw
    unfold J_Mo_content_13 at hw
    refine zp_Mo_78 (pc := 13) hx hb hta hown hK hZ hS d_Mo_content_13 (fun N4 H locs hN4 hZ hS => ?_)
    have hw := hw N4 hN4
    refine lv_aload_n (pc := 16) hx hb d_Mo_content_16 rfl (lv_at hl 0 rfl) ?_
    refine zg_Mo_78 (pc := 17) hx hb hta hown hK hZ d_Mo_content_17 ?_
    refine lv_if_le (pc := 20) (tgt := 25) hx hb d_Mo_content_20 (by decide) (fun hc => ?_) (fun hc => ?_)
    · have hw := hw.1 hc
      refine lv_aload_n (pc := 25) hx hb d_Mo_content_25 rfl (lv_at hl 0 rfl) ?_
      refine lv_iload_n (pc := 26) hx hb d_Mo_content_26 rfl (lv_at hl 1 rfl) ?_
      refine lv_aload_n (pc := 27) hx hb d_Mo_content_27 rfl (lv_at hl 0 rfl) ?_
      refine zg_Mo_29 (pc := 28) hx hb hta hown hK hZ d_Mo_content_28 ?_
      refine z_callv (pc := 31) (va_runV (C := R_Mo) (b := b + 99) (As := [.int a1, .ref (b + 106)]) (rest := []) ⟨hx, hb, hml, hown, hts⟩ (c_Mo_load l G b a1 106 M N4 hw) (cwV 2 hts (z_good (zgV wd810 wd812 wsel18 wd7 wd813)) rfl rfl rfl ⟨rfl, hd_Mo_load⟩ ⟨Nat.le_of_ble_eq_true rfl, Nat.le_of_ble_eq_true rfl⟩) (z_preV zo_Mo rfl rfl hZ hK hT hS) rfl rfl hl.1 rfl (lv_room (Nat.le_of_ble_eq_true rfl)) d_Mo_content_31 ⟨Nat.le_of_ble_eq_true rfl, Nat.le_of_ble_eq_true rfl⟩) hS (fun M6 N7 H locs hw hZ hS => ?_)
      obtain ⟨hw, eN7⟩ := hw
      rw [eN7] at hZ
      refine lv_aload_n (pc := 34) hx hb d_Mo_content_34 rfl (lv_at hl 0 rfl) ?_
      refine zg_Mo_29 (pc := 35) hx hb hta hown hK hZ d_Mo_content_35 ?_
      refine z_calll (pc := 38) (va_runS (As := [.ref (b + 106)]) (rest := []) ⟨hx, hb, hml, hown, hts⟩ (c_Mo_contentOf l G b 106 M6 N4 hw) (va_cwS 1 hts (z_good (zgS wd880 wd881 wd7 wd882)) rfl rfl rfl hd_Mo_contentOf ⟨Nat.le_of_ble_eq_true rfl, Nat.le_of_ble_eq_true rfl⟩) (z_preS hZ hK hT hS) rfl rfl hl.1 rfl (lv_room (Nat.le_of_ble_eq_true rfl)) d_Mo_content_38 ⟨Nat.le_of_ble_eq_true rfl, Nat.le_of_ble_eq_true rfl⟩) hS (fun r8 M9 N10 H locs hw hZ hS => ?_)
      obtain ⟨hw, eM9, eN10⟩ := hw
      rw [eM9, eN10] at hZ
      refine lv_l2i (pc := 41) (v := r8.toInt32) hx hb d_Mo_content_41 rfl ?_
      exact z_iret hx hb hr hlocks hK hT hZ hS hw d_Mo_content_42
    · have hw := hw.2 hc
      refine lv_iconst (pc := 23) (v := 0) hx hb d_Mo_content_23 (by decide) ?_
      exact z_iret hx hb hr hlocks hK hT hZ hS hw d_Mo_content_24
  unfold w_Mo_content at hw
  refine lv_aload_n (pc := 0) hx hb d_Mo_content_0 rfl (lv_at hl 0 rfl) ?_
  refine lv_iload_n (pc := 1) hx hb d_Mo_content_1 rfl (lv_at hl 1 rfl) ?_
  refine z_calli (pc := 2) (va_runS (As := [.int a1]) (rest := [.ref (b + 99)]) ⟨hx, hb, hml, hown, hts⟩ (c_Mo_isRegister l G b a1 M N hw) (va_cwS 1 hts (z_good (zgS wd805 wd806 wd7 wd807)) rfl rfl rfl hd_Mo_isRegister ⟨Nat.le_of_ble_eq_true rfl, Nat.le_of_ble_eq_true rfl⟩) (z_preS hZ hK hT hS) rfl rfl hl.1 rfl (lv_room (Nat.le_of_ble_eq_true rfl)) d_Mo_content_2 ⟨Nat.le_of_ble_eq_true rfl, Nat.le_of_ble_eq_true rfl⟩) hS (fun r1 M2 N3 H locs hw hZ hS => ?_)
  obtain ⟨hw, eM2, eN3⟩ := hw
  rw [eM2, eN3] at hZ
  refine lv_if_eq (pc := 5) (tgt := 12) hx hb d_Mo_content_5 (by decide) (fun hc => ?_) (fun hc => ?_)
  · have hw := hw.1 hc
    refine lv_iconst (pc := 12) (v := 1) hx hb d_Mo_content_12 (by decide) ?_
    exact j13 (1 : Int32) M N _ _ _ hZ hS hl hw
  · have hw := hw.2 hc
    refine lv_iconst (pc := 8) (v := 0) hx hb d_Mo_content_8 (by decide) ?_
    refine lv_goto (pc := 9) (tgt := 13) hx hb d_Mo_content_9 (by decide) ?_
    exact j13 (0 : Int32) M N _ _ _ hZ hS hl hw
