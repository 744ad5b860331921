theorem zg_Mo_23 {p : Program} {l : Launch} {e : Env} {R : Room} {s : State} {m : MethodId} {args : Array Value} {below : List Frame} {meth : Method} {c : Code} {H : Heap} {locs : List Loc} {cells slots : Nat} {Q : State → Prop} {cc : ByteArray} {pc : Nat} {ls : Array Slot} {rest : List Value} {G : zG} {b : Nat} {M : zM} {N : zN} (hx : p.tables.exec = Jvm.exec) (hb : c.code = cc) (hta : ∀ w ∈ zall, w.before args s = true) (hown : s.vm.findClass R_Mo = some m.cls) (hK : va_K G.1 zCl (zty G) s) (hZ : va_P G.1 zCl (zws G b M N) H) (hdg : decode cc pc = .ok (.getfield 23, 3)) (kk : W p l e R s m args below meth c H locs cells slots Q (F0 m (pc + 3) ls (.ref (b + 104) :: rest))) : W p l e R s m args below meth c H locs cells slots Q (F0 m pc ls (.ref (b + 99) :: rest)) :=
  va_get (D := G.1) (ci := 6) (v := .ref (b + 104)) (C := R_Mo) (T := T_Mo) (N := 23) hx hb hta hin_Mo hown hK hZ 99 zo_Mo rfl 8 (by decide) (hta _ wd735) (fun _ h9 => h9) rfl hdg kk
theorem wsel28 : Cond.selects R_Mo y_Mo_split y_Mo_split ∈ zall := List.mem_filter.mpr ⟨List.mem_append_left _ (List.mem_of_getElem? (i := 28) rfl), by decide +kernel⟩
theorem wsel36 : Cond.selects R_Mo y_Mo_sort y_Mo_sort ∈ zall := List.mem_filter.mpr ⟨List.mem_append_left _ (List.mem_of_getElem? (i := 36) rfl), by decide +kernel⟩
theorem d_Mo_takeApart_0 : decode prog_10_method_46_code 0 = .ok (.aload_n 0, 1) := by decide +kernel
theorem d_Mo_takeApart_1 : decode prog_10_method_46_code 1 = .ok (.iconst 0, 1) := by decide +kernel
theorem d_Mo_takeApart_2 : decode prog_10_method_46_code 2 = .ok (.putfield 186, 3) := by decide +kernel
theorem d_Mo_takeApart_5 : decode prog_10_method_46_code 5 = .ok (.aload_n 0, 1) := by decide +kernel
theorem d_Mo_takeApart_6 : decode prog_10_method_46_code 6 = .ok (.getfield 23, 3) := by decide +kernel
theorem d_Mo_takeApart_9 : decode prog_10_method_46_code 9 = .ok (.invokestatic 82, 3) := by decide +kernel
theorem d_Mo_takeApart_12 : decode prog_10_method_46_code 12 = .ok (.iconst 1, 1) := by decide +kernel
theorem d_Mo_takeApart_13 : decode prog_10_method_46_code 13 = .ok (.if_icmp .ge 4, 3) := by decide +kernel
theorem d_Mo_takeApart_16 : decode prog_10_method_46_code 16 = .ok (.return_, 1) := by decide +kernel
theorem d_Mo_takeApart_17 : decode prog_10_method_46_code 17 = .ok (.aload_n 0, 1) := by decide +kernel
theorem d_Mo_takeApart_18 : decode prog_10_method_46_code 18 = .ok (.getfield 23, 3) := by decide +kernel
theorem d_Mo_takeApart_21 : decode prog_10_method_46_code 21 = .ok (.aload_n 0, 1) := by decide +kernel
theorem d_Mo_takeApart_22 : decode prog_10_method_46_code 22 = .ok (.getfield 32, 3) := by decide +kernel
theorem d_Mo_takeApart_25 : decode prog_10_method_46_code 25 = .ok (.invokestatic 120, 3) := by decide +kernel
theorem d_Mo_takeApart_28 : decode prog_10_method_46_code 28 = .ok (.aload_n 0, 1) := by decide +kernel
theorem d_Mo_takeApart_29 : decode prog_10_method_46_code 29 = .ok (.getfield 32, 3) := by decide +kernel
theorem d_Mo_takeApart_32 : decode prog_10_method_46_code 32 = .ok (.aload_n 0, 1) := by decide +kernel
theorem d_Mo_takeApart_33 : decode prog_10_method_46_code 33 = .ok (.getfield 32, 3) := by decide +kernel
theorem d_Mo_takeApart_36 : decode prog_10_method_46_code 36 = .ok (.invokestatic 133, 3) := by decide +kernel
theorem d_Mo_takeApart_39 : decode prog_10_method_46_code 39 = .ok (.invokestatic 163, 3) := by decide +kernel
theorem d_Mo_takeApart_42 : decode prog_10_method_46_code 42 = .ok (.aload_n 0, 1) := by decide +kernel
theorem d_Mo_takeApart_43 : decode prog_10_method_46_code 43 = .ok (.aload_n 0, 1) := by decide +kernel
theorem d_Mo_takeApart_44 : decode prog_10_method_46_code 44 = .ok (.getfield 23, 3) := by decide +kernel
theorem d_Mo_takeApart_47 : decode prog_10_method_46_code 47 = .ok (.aload_n 0, 1) := by decide +kernel
theorem d_Mo_takeApart_48 : decode prog_10_method_46_code 48 = .ok (.getfield 32, 3) := by decide +kernel
theorem d_Mo_takeApart_51 : decode prog_10_method_46_code 51 = .ok (.invokevirtual 167, 3) := by decide +kernel
theorem d_Mo_takeApart_54 : decode prog_10_method_46_code 54 = .ok (.aload_n 0, 1) := by decide +kernel
theorem d_Mo_takeApart_55 : decode prog_10_method_46_code 55 = .ok (.aload_n 0, 1) := by decide +kernel
theorem d_Mo_takeApart_56 : decode prog_10_method_46_code 56 = .ok (.getfield 50, 3) := by decide +kernel
theorem d_Mo_takeApart_59 : decode prog_10_method_46_code 59 = .ok (.aload_n 0, 1) := by decide +kernel
theorem d_Mo_takeApart_60 : decode prog_10_method_46_code 60 = .ok (.getfield 23, 3) := by decide +kernel
theorem d_Mo_takeApart_63 : decode prog_10_method_46_code 63 = .ok (.invokevirtual 129, 3) := by decide +kernel
theorem d_Mo_takeApart_66 : decode prog_10_method_46_code 66 = .ok (.istore_n 1, 1) := by decide +kernel
theorem d_Mo_takeApart_67 : decode prog_10_method_46_code 67 = .ok (.iload_n 1, 1) := by decide +kernel
theorem d_Mo_takeApart_68 : decode prog_10_method_46_code 68 = .ok (.ifCond .eq 10, 3) := by decide +kernel
theorem d_Mo_takeApart_71 : decode prog_10_method_46_code 71 = .ok (.aload_n 0, 1) := by decide +kernel
theorem d_Mo_takeApart_72 : decode prog_10_method_46_code 72 = .ok (.getfield 41, 3) := by decide +kernel
theorem d_Mo_takeApart_75 : decode prog_10_method_46_code 75 = .ok (.goto 7, 3) := by decide +kernel
theorem d_Mo_takeApart_78 : decode prog_10_method_46_code 78 = .ok (.aload_n 0, 1) := by decide +kernel
theorem d_Mo_takeApart_79 : decode prog_10_method_46_code 79 = .ok (.getfield 23, 3) := by decide +kernel
theorem d_Mo_takeApart_82 : decode prog_10_method_46_code 82 = .ok (.aload_n 0, 1) := by decide +kernel
theorem d_Mo_takeApart_83 : decode prog_10_method_46_code 83 = .ok (.getfield 26, 3) := by decide +kernel
theorem d_Mo_takeApart_86 : decode prog_10_method_46_code 86 = .ok (.invokestatic 124, 3) := by decide +kernel
theorem d_Mo_takeApart_89 : decode prog_10_method_46_code 89 = .ok (.aload_n 0, 1) := by decide +kernel
theorem d_Mo_takeApart_90 : decode prog_10_method_46_code 90 = .ok (.invokevirtual 215, 3) := by decide +kernel
theorem d_Mo_takeApart_93 : decode prog_10_method_46_code 93 = .ok (.aload_n 0, 1) := by decide +kernel
theorem d_Mo_takeApart_94 : decode prog_10_method_46_code 94 = .ok (.invokevirtual 218, 3) := by decide +kernel
theorem d_Mo_takeApart_97 : decode prog_10_method_46_code 97 = .ok (.return_, 1) := by decide +kernel
def J_Mo_takeApart_82 (P : zM → zN → Prop) (t0 : Nat) (M : zM) (N : zN) : Prop := w_Mo_copy t0 105 M (fun M21 => w_Mo_split  M21 N (fun M24 N25 => w_Mo_sort  M24 N25 (fun M27 => P M27 N25)))
def w_Mo_takeApart  (M : zM) (N : zN) (P : zM → zN → Prop) : Prop := ∀ N1 : zN, N1 = zpui N 99 6 (0 : Int32) → w_Mo_degreeOf 104 M (fun r2 => ((1 : Int32) ≤ r2 → w_Mo_derivative 104 107 M (fun M6 => w_Mo_contentOf 107 M6 (fun r8 => w_Mo_scale 107 r8 M6 (fun M12 => w_Mo_share 104 107 M12 N1 (fun M15 => w_Mo_divides 113 104 M15 (fun r17 M18 => (r17 = 0 → J_Mo_takeApart_82 P 104 M18 N1) ∧ (¬ r17 = 0 → J_Mo_takeApart_82 P 110 M18 N1))))))) ∧ (¬ (1 : Int32) ≤ r2 → P M N1))
def ws_Mo_takeApart : List Cond := .code y_Mo_takeApart prog_10_method_46_code 2 (Option.none : Option Jvm.ClassFile.FieldType) :: zall
def rm_Mo_takeApart : Room := { frames := 6, cells := 0, slots := 0, locals := 157 }
theorem hd_Mo_takeApart : y_Mo_takeApart.cls ≠ "java/lang/invoke/MethodHandle" ∧ y_Mo_takeApart.cls ≠ "java/lang/invoke/VarHandle" ∧ (parseMethodDescriptor y_Mo_takeApart.desc).map (fun d => d.parameters.length) = some 0 := by decide +kernel
set_option maxHeartbeats 4000000 in
set_option maxRecDepth 100000 in
theorem c_Mo_takeApart (l : Launch) (G : zG) (b : Nat)  (M : zM) (N : zN) {P : zM → zN → Prop} (hw : w_Mo_takeApart  M N P) : Met l y_Mo_takeApart ws_Mo_takeApart rm_Mo_takeApart (zPc G b M N [.ref (b + 99)]) (zQv G b (fun M' N' => P M' N')) 0 0 (zA b) := by
  refine Met.ofW (cc := prog_10_method_46_code) (maxL := 2) (ret := (Option.none : Option Jvm.ClassFile.FieldType)) (by decide) rfl ?_
  intro p e s m args below meth c s₁ B hml hv
  obtain ⟨rfl, hZ, hK, hT⟩ := hv
  have hx := B.exec
  have hb := B.bytes
  have hr := B.returns
  have hts := atoms_spec (ws := ws_Mo_takeApart) B.pre
  have hta : ∀ w ∈ zall, w.before ([.ref (b + 99)] : List Value).toArray s = true := fun w h => hts w (List.mem_cons_of_mem _ h)
  have hown : s.vm.findClass R_Mo = some m.cls := findClass_of_methodNamed B.named
  have hlocks := B.notSynchronized
  have hS : va_S (zA b) s.heap s.heap [] := va_S.rf
  have hl := lv_entry ([.ref (b + 99)]) (n := 2) (Nat.le_of_ble_eq_true rfl)
  rw [lg_entry_eq]
  generalize (lg_sl ([.ref (b + 99)]) ++ List.replicate (2 - (lg_sl ([.ref (b + 99)])).length) Slot.unset).toArray = ls at hl ⊢
  have hl : lv_has ls 2 [(0, .ref (b + 99))] := hl
  have j82 : ∀ (t0 : Nat) (M : zM) (N : zN) (H : Heap) (ls : Array Slot) (locs : List Loc), va_P G.1 zCl (zws G b M N) H → va_S (zA b) s.heap H locs → lv_has ls 2 [(0, .ref (b + 99))] → J_Mo_takeApart_82 P t0 M N → W p l e (headSpec ws_Mo_takeApart rm_Mo_takeApart).room s m ([.ref (b + 99)] : List Value).toArray below meth c H locs 0 0 (MQ below (zQv G b (fun M' N' => P M' N')) ([.ref (b + 99)] : List Value).toArray s 0 0 (zA b)) (F0 m 82 ls [.ref (b + t0)]) := by
    intro t0 M N H ls locs hZ hS hl hw
    unfold J_Mo_takeApart_82 at hw
    refine lv_aload_n (pc := 82) hx hb d_Mo_takeApart_82 rfl (lv_at hl 0 rfl) ?_
    refine zg_Mo_26 (pc := 83) hx hb hta hown hK hZ d_Mo_takeApart_83 ?_
    refine z_callv (pc := 86) (va_runS (As := [.ref (b + t0), .ref (b + 105)]) (rest := []) ⟨hx, hb, hml, hown, hts⟩ (c_Mo_copy l G b t0 105 M N hw) (va_cwS 2 hts (z_good (zgS wd865 wd866 wd7 wd867)) rfl rfl rfl hd_Mo_copy ⟨Nat.le_of_ble_eq_true rfl, Nat.le_of_ble_eq_true rfl⟩) (z_preS hZ hK hT hS) rfl rfl hl.1 rfl (lv_room (Nat.le_of_ble_eq_true rfl)) d_Mo_takeApart_86 ⟨Nat.le_of_ble_eq_true rfl, Nat.le_of_ble_eq_true rfl⟩) hS (fun M21 N22 H locs hw hZ hS => ?_)
    obtain ⟨hw, eN22⟩ := hw
    rw [eN22] at hZ
    refine lv_aload_n (pc := 89) hx hb d_Mo_takeApart_89 rfl (lv_at hl 0 rfl) ?_
    refine z_callv (pc := 90) (va_runV (C := R_Mo) (b := b + 99) (As := []) (rest := []) ⟨hx, hb, hml, hown, hts⟩ (c_Mo_split l G b  M21 N hw) (cwV 0 hts (z_good (zgV wd932 wd934 wsel28 wd7 wd935)) rfl rfl rfl ⟨rfl, hd_Mo_split⟩ ⟨Nat.le_of_ble_eq_true rfl, Nat.le_of_ble_eq_true rfl⟩) (z_preV zo_Mo rfl rfl hZ hK hT hS) rfl rfl hl.1 rfl (lv_room (Nat.le_of_ble_eq_true rfl)) d_Mo_takeApart_90 ⟨Nat.le_of_ble_eq_true rfl, Nat.le_of_ble_eq_true rfl⟩) hS (fun M24 N25 H locs hw hZ hS => ?_)
    refine lv_aload_n (pc := 93) hx hb d_Mo_takeApart_93 rfl (lv_at hl 0 rfl) ?_
    refine z_callv (pc := 94) (va_runV (C := R_Mo) (b := b + 99) (As := []) (rest := []) ⟨hx, hb, hml, hown, hts⟩ (c_Mo_sort l G b  M24 N25 hw) (cwV 0 hts (z_good (zgV wd971 wd973 wsel36 wd7 wd974)) rfl rfl rfl ⟨rfl, hd_Mo_sort⟩ ⟨Nat.le_of_ble_eq_true rfl, Nat.le_of_ble_eq_true rfl⟩) (z_preV zo_Mo rfl rfl hZ hK hT hS) rfl rfl hl.1 rfl (lv_room (Nat.le_of_ble_eq_true rfl)) d_Mo_takeApart_94 ⟨Nat.le_of_ble_eq_true rfl, Nat.le_of_ble_eq_true rfl⟩) hS (fun M27 N28 H locs hw hZ hS => ?_)
    obtain ⟨hw, eN28⟩ := hw
    rw [eN28] at hZ
    exact z_vret hx hb hr hlocks hK hT hZ hS hw d_Mo_takeApart_97
  unfold w_Mo_takeApart at hw
  refine lv_aload_n (pc := 0) hx hb d_Mo_takeApart_0 rfl (lv_at hl 0 rfl) ?_
  refine lv_iconst (pc := 1) (v := 0) hx hb d_Mo_takeApart_1 (by decide) ?_
  refine zp_Mo_186 (pc := 2) hx hb hta hown hK hZ hS d_Mo_takeApart_2 (fun N1 H locs hN1 hZ hS => ?_)
  have hw := hw N1 hN1
  refine lv_aload_n (pc := 5) hx hb d_Mo_takeApart_5 rfl (lv_at hl 0 rfl) ?_
  refine zg_Mo_23 (pc := 6) hx hb hta hown hK hZ d_Mo_takeApart_6 ?_
  refine z_calli (pc := 9) (va_runS (As := [.ref (b + 104)]) (rest := []) ⟨hx, hb, hml, hown, hts⟩ (c_Mo_degreeOf l G b 104 M N1 hw) (va_cwS 1 hts (z_good (zgS wd814 wd815 wd7 wd816)) rfl rfl rfl hd_Mo_degreeOf ⟨Nat.le_of_ble_eq_true rfl, Nat.le_of_ble_eq_true rfl⟩) (z_preS hZ hK hT hS) rfl rfl hl.1 rfl (lv_room (Nat.le_of_ble_eq_true rfl)) d_Mo_takeApart_9 ⟨Nat.le_of_ble_eq_true rfl, Nat.le_of_ble_eq_true rfl⟩) hS (fun r2 M3 N4 H locs hw hZ hS => ?_)
  obtain ⟨hw, eM3, eN4⟩ := hw
  rw [eM3, eN4] at hZ
  refine lv_iconst (pc := 12) (v := 1) hx hb d_Mo_takeApart_12 (by decide) ?_
  refine lv_icmp_ge (pc := 13) (tgt := 17) hx hb d_Mo_takeApart_13 (by decide) (fun hc => ?_) (fun hc => ?_)
  · have hw := hw.1 hc
    refine lv_aload_n (pc := 17) hx hb d_Mo_takeApart_17 rfl (lv_at hl 0 rfl) ?_
    refine zg_Mo_23 (pc := 18) hx hb hta hown hK hZ d_Mo_takeApart_18 ?_
    refine lv_aload_n (pc := 21) hx hb d_Mo_takeApart_21 rfl (lv_at hl 0 rfl) ?_
    refine zg_Mo_32 (pc := 22) hx hb hta hown hK hZ d_Mo_takeApart_22 ?_
    refine z_callv (pc := 25) (va_runS (As := [.ref (b + 104), .ref (b + 107)]) (rest := []) ⟨hx, hb, hml, hown, hts⟩ (c_Mo_derivative l G b 104 107 M N1 hw) (va_cwS 2 hts (z_good (zgS wd850 wd851 wd7 wd852)) rfl rfl rfl hd_Mo_derivative ⟨Nat.le_of_ble_eq_true rfl, Nat.le_of_ble_eq_true rfl⟩) (z_preS hZ hK hT hS) rfl rfl hl.1 rfl (lv_room (Nat.le_of_ble_eq_true rfl)) d_Mo_takeApart_25 ⟨Nat.le_of_ble_eq_true rfl, Nat.le_of_ble_eq_true rfl⟩) hS (fun M6 N7 H locs hw hZ hS => ?_)
    obtain ⟨hw, eN7⟩ := hw
    rw [eN7] at hZ
    refine lv_aload_n (pc := 28) hx hb d_Mo_takeApart_28 rfl (lv_at hl 0 rfl) ?_
    refine zg_Mo_32 (pc := 29) hx hb hta hown hK hZ d_Mo_takeApart_29 ?_
    refine lv_aload_n (pc := 32) hx hb d_Mo_takeApart_32 rfl (lv_at hl 0 rfl) ?_
    refine zg_Mo_32 (pc := 33) hx hb hta hown hK hZ d_Mo_takeApart_33 ?_
    refine z_calll (pc := 36) (va_runS (As := [.ref (b + 107)]) (rest := [.ref (b + 107)]) ⟨hx, hb, hml, hown, hts⟩ (c_Mo_contentOf l G b 107 M6 N1 hw) (va_cwS 1 hts (z_good (zgS wd880 wd881 wd7 wd882)) rfl rfl rfl hd_Mo_contentOf ⟨Nat.le_of_ble_eq_true rfl, Nat.le_of_ble_eq_true rfl⟩) (z_preS hZ hK hT hS) rfl rfl hl.1 rfl (lv_room (Nat.le_of_ble_eq_true rfl)) d_Mo_takeApart_36 ⟨Nat.le_of_ble_eq_true rfl, Nat.le_of_ble_eq_true rfl⟩) hS (fun r8 M9 N10 H locs hw hZ hS => ?_)
    obtain ⟨hw, eM9, eN10⟩ := hw
    rw [eM9, eN10] at hZ
    refine z_callv (pc := 39) (va_runS (As := [.ref (b + 107), .long r8]) (rest := []) ⟨hx, hb, hml, hown, hts⟩ (c_Mo_scale l G b 107 r8 M6 N1 hw) (va_cwS 2 hts (z_good (zgS wd891 wd892 wd7 wd893)) rfl rfl rfl hd_Mo_scale ⟨Nat.le_of_ble_eq_true rfl, Nat.le_of_ble_eq_true rfl⟩) (z_preS hZ hK hT hS) rfl rfl hl.1 rfl (lv_room (Nat.le_of_ble_eq_true rfl)) d_Mo_takeApart_39 ⟨Nat.le_of_ble_eq_true rfl, Nat.le_of_ble_eq_true rfl⟩) hS (fun M12 N13 H locs hw hZ hS => ?_)
    obtain ⟨hw, eN13⟩ := hw
    rw [eN13] at hZ
    refine lv_aload_n (pc := 42) hx hb d_Mo_takeApart_42 rfl (lv_at hl 0 rfl) ?_
    refine lv_aload_n (pc := 43) hx hb d_Mo_takeApart_43 rfl (lv_at hl 0 rfl) ?_
    refine zg_Mo_23 (pc := 44) hx hb hta hown hK hZ d_Mo_takeApart_44 ?_
    refine lv_aload_n (pc := 47) hx hb d_Mo_takeApart_47 rfl (lv_at hl 0 rfl) ?_
    refine zg_Mo_32 (pc := 48) hx hb hta hown hK hZ d_Mo_takeApart_48 ?_
    refine z_callv (pc := 51) (va_runV (C := R_Mo) (b := b + 99) (As := [.ref (b + 104), .ref (b + 107)]) (rest := []) ⟨hx, hb, hml, hown, hts⟩ (c_Mo_share l G b 104 107 M12 N1 hw) (cwV 2 hts (z_good (zgV wd894 wd896 wsel22 wd7 wd897)) rfl rfl rfl ⟨rfl, hd_Mo_share⟩ ⟨Nat.le_of_ble_eq_true rfl, Nat.le_of_ble_eq_true rfl⟩) (z_preV zo_Mo rfl rfl hZ hK hT hS) rfl rfl hl.1 rfl (lv_room (Nat.le_of_ble_eq_true rfl)) d_Mo_takeApart_51 ⟨Nat.le_of_ble_eq_true rfl, Nat.le_of_ble_eq_true rfl⟩) hS (fun M15 N16 H locs hw hZ hS => ?_)
    obtain ⟨hw, eN16⟩ := hw
    rw [eN16] at hZ
    refine lv_aload_n (pc := 54) hx hb d_Mo_takeApart_54 rfl (lv_at hl 0 rfl) ?_
    refine lv_aload_n (pc := 55) hx hb d_Mo_takeApart_55 rfl (lv_at hl 0 rfl) ?_
    refine zg_Mo_50 (pc := 56) hx hb hta hown hK hZ d_Mo_takeApart_56 ?_
    refine lv_aload_n (pc := 59) hx hb d_Mo_takeApart_59 rfl (lv_at hl 0 rfl) ?_
    refine zg_Mo_23 (pc := 60) hx hb hta hown hK hZ d_Mo_takeApart_60 ?_
    refine z_calli (pc := 63) (va_runV (C := R_Mo) (b := b + 99) (As := [.ref (b + 113), .ref (b + 104)]) (rest := []) ⟨hx, hb, hml, hown, hts⟩ (c_Mo_divides l G b 113 104 M15 N1 hw) (cwV 2 hts (z_good (zgV wd861 wd863 wsel21 wd7 wd864)) rfl rfl rfl ⟨rfl, hd_Mo_divides⟩ ⟨Nat.le_of_ble_eq_true rfl, Nat.le_of_ble_eq_true rfl⟩) (z_preV zo_Mo rfl rfl hZ hK hT hS) rfl rfl hl.1 rfl (lv_room (Nat.le_of_ble_eq_true rfl)) d_Mo_takeApart_63 ⟨Nat.le_of_ble_eq_true rfl, Nat.le_of_ble_eq_true rfl⟩) hS (fun r17 M18 N19 H locs hw hZ hS => ?_)
    obtain ⟨hw, eN19⟩ := hw
    rw [eN19] at hZ
    refine lv_istore_n (pc := 66) (lv' := [(1, .int r17), (0, .ref (b + 99))]) hx hb d_Mo_takeApart_66 rfl hl (by decide) rfl (fun ls hl => ?_)
    refine lv_iload_n (pc := 67) hx hb d_Mo_takeApart_67 rfl (lv_at hl 0 rfl) ?_
    refine lv_if_eq (pc := 68) (tgt := 78) hx hb d_Mo_takeApart_68 (by decide) (fun hc => ?_) (fun hc => ?_)
    · have hw := hw.1 hc
      refine lv_aload_n (pc := 78) hx hb d_Mo_takeApart_78 rfl (lv_at hl 1 rfl) ?_
      refine zg_Mo_23 (pc := 79) hx hb hta hown hK hZ d_Mo_takeApart_79 ?_
      exact j82 104 M18 N1 _ _ _ hZ hS (lv_sub hl [1] rfl) hw
    · have hw := hw.2 hc
      refine lv_aload_n (pc := 71) hx hb d_Mo_takeApart_71 rfl (lv_at hl 1 rfl) ?_
      refine zg_Mo_41 (pc := 72) hx hb hta hown hK hZ d_Mo_takeApart_72 ?_
      refine lv_goto (pc := 75) (tgt := 82) hx hb d_Mo_takeApart_75 (by decide) ?_
      exact j82 110 M18 N1 _ _ _ hZ hS (lv_sub hl [1] rfl) hw
  · have hw := hw.2 hc
    exact z_vret hx hb hr hlocks hK hT hZ hS hw d_Mo_takeApart_16
theorem d_Mo_often_0 : decode prog_10_method_47_code 0 = .ok (.iconst 0, 1) := by decide +kernel
theorem d_Mo_often_1 : decode prog_10_method_47_code 1 = .ok (.istore_n 2, 1) := by decide +kernel
theorem d_Mo_often_2 : decode prog_10_method_47_code 2 = .ok (.iload_n 2, 1) := by decide +kernel
theorem d_Mo_often_3 : decode prog_10_method_47_code 3 = .ok (.bipush 16, 2) := by decide +kernel
theorem d_Mo_often_5 : decode prog_10_method_47_code 5 = .ok (.if_icmp .ge 36, 3) := by decide +kernel
theorem d_Mo_often_8 : decode prog_10_method_47_code 8 = .ok (.aload_n 0, 1) := by decide +kernel
theorem d_Mo_often_9 : decode prog_10_method_47_code 9 = .ok (.getfield 29, 3) := by decide +kernel
theorem d_Mo_often_12 : decode prog_10_method_47_code 12 = .ok (.iload_n 2, 1) := by decide +kernel
theorem d_Mo_often_13 : decode prog_10_method_47_code 13 = .ok (.iload_n 2, 1) := by decide +kernel
theorem d_Mo_often_14 : decode prog_10_method_47_code 14 = .ok (.bipush 8, 2) := by decide +kernel
theorem d_Mo_often_16 : decode prog_10_method_47_code 16 = .ok (.if_icmp .ge 17, 3) := by decide +kernel
theorem d_Mo_often_19 : decode prog_10_method_47_code 19 = .ok (.aload_n 0, 1) := by decide +kernel
theorem d_Mo_often_20 : decode prog_10_method_47_code 20 = .ok (.getfield 20, 3) := by decide +kernel
theorem d_Mo_often_23 : decode prog_10_method_47_code 23 = .ok (.bipush 8, 2) := by decide +kernel
theorem d_Mo_often_25 : decode prog_10_method_47_code 25 = .ok (.iload_n 1, 1) := by decide +kernel
theorem d_Mo_often_26 : decode prog_10_method_47_code 26 = .ok (.imul, 1) := by decide +kernel
theorem d_Mo_often_27 : decode prog_10_method_47_code 27 = .ok (.iload_n 2, 1) := by decide +kernel
theorem d_Mo_often_28 : decode prog_10_method_47_code 28 = .ok (.iadd, 1) := by decide +kernel
theorem d_Mo_often_29 : decode prog_10_method_47_code 29 = .ok (.laload, 1) := by decide +kernel
theorem d_Mo_often_30 : decode prog_10_method_47_code 30 = .ok (.goto 4, 3) := by decide +kernel
theorem d_Mo_often_33 : decode prog_10_method_47_code 33 = .ok (.lconst 0, 1) := by decide +kernel
theorem d_Mo_often_34 : decode prog_10_method_47_code 34 = .ok (.lastore, 1) := by decide +kernel
theorem d_Mo_often_35 : decode prog_10_method_47_code 35 = .ok (.iinc 2 1, 3) := by decide +kernel
theorem d_Mo_often_38 : decode prog_10_method_47_code 38 = .ok (.goto (-36), 3) := by decide +kernel
theorem d_Mo_often_41 : decode prog_10_method_47_code 41 = .ok (.iconst 0, 1) := by decide +kernel
theorem d_Mo_often_42 : decode prog_10_method_47_code 42 = .ok (.istore_n 2, 1) := by decide +kernel
theorem d_Mo_often_43 : decode prog_10_method_47_code 43 = .ok (.aload_n 0, 1) := by decide +kernel
theorem d_Mo_often_44 : decode prog_10_method_47_code 44 = .ok (.aload_n 0, 1) := by decide +kernel
theorem d_Mo_often_45 : decode prog_10_method_47_code 45 = .ok (.getfield 29, 3) := by decide +kernel
theorem d_Mo_often_48 : decode prog_10_method_47_code 48 = .ok (.aload_n 0, 1) := by decide +kernel
theorem d_Mo_often_49 : decode prog_10_method_47_code 49 = .ok (.getfield 23, 3) := by decide +kernel
theorem d_Mo_often_52 : decode prog_10_method_47_code 52 = .ok (.invokevirtual 129, 3) := by decide +kernel
theorem d_Mo_often_55 : decode prog_10_method_47_code 55 = .ok (.ifCond .eq 20, 3) := by decide +kernel
theorem d_Mo_often_58 : decode prog_10_method_47_code 58 = .ok (.aload_n 0, 1) := by decide +kernel
theorem d_Mo_often_59 : decode prog_10_method_47_code 59 = .ok (.getfield 41, 3) := by decide +kernel
theorem d_Mo_often_62 : decode prog_10_method_47_code 62 = .ok (.aload_n 0, 1) := by decide +kernel
theorem d_Mo_often_63 : decode prog_10_method_47_code 63 = .ok (.getfield 23, 3) := by decide +kernel
theorem d_Mo_often_66 : decode prog_10_method_47_code 66 = .ok (.invokestatic 124, 3) := by decide +kernel
theorem d_Mo_often_69 : decode prog_10_method_47_code 69 = .ok (.iinc 2 1, 3) := by decide +kernel
theorem d_Mo_often_72 : decode prog_10_method_47_code 72 = .ok (.goto (-29), 3) := by decide +kernel
theorem d_Mo_often_75 : decode prog_10_method_47_code 75 = .ok (.iload_n 2, 1) := by decide +kernel
theorem d_Mo_often_76 : decode prog_10_method_47_code 76 = .ok (.ireturn, 1) := by decide +kernel
def B_Mo_often_43 (P : Int32 → zM → Prop) (k43 : Int32 → zM → Prop) (v2 : Int32) (M : zM) : Prop := w_Mo_divides 106 104 M (fun r3 M4 => (r3 = 0 → P v2 M4) ∧ (¬ r3 = 0 → w_Mo_copy 110 104 M4 (fun M7 => k43 (v2 + (1 : Int32)) M7)))
def L_Mo_often_43 (P : Int32 → zM → Prop) (n : Nat) : Int32 → zM → Prop := Nat.rec (fun _ _ => False) (fun _ k => B_Mo_often_43 P k) n
def B_Mo_often_2 (P : Int32 → zM → Prop) (a1 : Int32) (k2 : Int32 → zM → Prop) (v2 : Int32) (M : zM) : Prop := ((16 : Int32) ≤ v2 → ∃ n, L_Mo_often_43 P n (0 : Int32) M) ∧ (¬ (16 : Int32) ≤ v2 → ((8 : Int32) ≤ v2 → vp_in v2 (zlong 106) ∧ ∀ M1 : zM, M1 = zput M 106 v2.toNatClampNeg (0 : Int64) → k2 (v2 + (1 : Int32)) M1) ∧ (¬ (8 : Int32) ≤ v2 → vp_in (((8 : Int32) * a1) + v2) (zlong 103) ∧ vp_in v2 (zlong 106) ∧ ∀ M2 : zM, M2 = zput M 106 v2.toNatClampNeg (M 103 (((8 : Int32) * a1) + v2).toNatClampNeg) → k2 (v2 + (1 : Int32)) M2))
def L_Mo_often_2 (P : Int32 → zM → Prop) (a1 : Int32) (n : Nat) : Int32 → zM → Prop := Nat.rec (fun _ _ => False) (fun _ k => B_Mo_often_2 P a1 k) n
def w_Mo_often (a1 : Int32) (M : zM) (P : Int32 → zM → Prop) : Prop := ∃ n, L_Mo_often_2 P a1 n (0 : Int32) M
def ws_Mo_often : List Cond := .code y_Mo_often prog_10_method_47_code 3 (Option.some Jvm.ClassFile.FieldType.int) :: zall
def rm_Mo_often : Room := { frames := 2, cells := 0, slots := 0, locals := 50 }
theorem hd_Mo_often : y_Mo_often.cls ≠ "java/lang/invoke/MethodHandle" ∧ y_Mo_often.cls ≠ "java/lang/invoke/VarHandle" ∧ (parseMethodDescriptor y_Mo_often.desc).map (fun d => d.parameters.length) = some 1 := by decide +kernel
set_option maxHeartbeats 4000000 in
set_option maxRecDepth 100000 in
theorem c_Mo_often (l : Launch) (G : zG) (b : Nat) (a1 : Int32) (M : zM) (N : zN) {P : Int32 → zM → Prop} (hw : w_Mo_often a1 M P) : Met l y_Mo_often ws_Mo_often rm_Mo_often (zPc G b M N [.ref (b + 99), .int a1]) (zQi G b (fun r M' N' => P r M' ∧ N' = N)) 0 0 (zA b) := by
  refine Met.ofW (cc := prog_10_method_47_code) (maxL := 3) (ret := (Option.some Jvm.ClassFile.FieldType.int)) (by decide) rfl ?_
  intro p e s m args below meth c s₁ B hml hv
  obtain ⟨rfl, hZ, hK, hT⟩ := hv
  have hx := B.exec
  have hb := B.bytes
  have hr := B.returns
  have hts := atoms_spec (ws := ws_Mo_often) B.pre
  have hta : ∀ w ∈ zall, w.before ([.ref (b + 99), .int a1] : List Value).toArray s = true := fun w h => hts w (List.mem_cons_of_mem _ h)
  have hown : s.vm.findClass R_Mo = some m.cls := findClass_of_methodNamed B.named
  have hlocks := B.notSynchronized
  have hS : va_S (zA b) s.heap s.heap [] := va_S.rf
  have hl := lv_entry ([.ref (b + 99), .int a1]) (n := 3) (Nat.le_of_ble_eq_true rfl)
  rw [lg_entry_eq]
  generalize (lg_sl ([.ref (b + 99), .int a1]) ++ List.replicate (3 - (lg_sl ([.ref (b + 99), .int a1])).length) Slot.unset).toArray = ls at hl ⊢
  have hl : lv_has ls 3 [(0, .ref (b + 99)), (1, .int a1)] := hl
  have lp43 : ∀ (n : Nat) (v2 : Int32) (M : zM) (H : Heap) (ls : Array Slot) (locs : List Loc), va_P G.1 zCl (zws G b M N) H → va_S (zA b) s.heap H locs → lv_has ls 3 [(0, .ref (b + 99)), (2, .int v2)] → L_Mo_often_43 P n v2 M → W p l e (headSpec ws_Mo_often rm_Mo_often).room s m ([.ref (b + 99), .int a1] : List Value).toArray below meth c H locs 0 0 (MQ below (zQi G b (fun r M' N' => P r M' ∧ N' = N)) ([.ref (b + 99), .int a1] : List Value).toArray s 0 0 (zA b)) (F0 m 43 ls []) := by
    intro  n
    induction n with
    | zero => intro v2 M H ls locs hZ hS hl hw; exact False.elim hw
    | succ n43 ih43 =>
      intro v2 M H ls locs hZ hS hl hw
      have hw : B_Mo_often_43 P (L_Mo_often_43 P n43) v2 M := hw
      unfold B_Mo_often_43 at hw
      refine lv_aload_n (pc := 43) hx hb d_Mo_often_43 rfl (lv_at hl 0 rfl) ?_
      refine lv_aload_n (pc := 44) hx hb d_Mo_often_44 rfl (lv_at hl 0 rfl) ?_
      refine zg_Mo_29 (pc := 45) hx hb hta hown hK hZ d_Mo_often_45 ?_
      refine lv_aload_n (pc := 48) hx hb d_Mo_often_48 rfl (lv_at hl 0 rfl) ?_
      refine zg_Mo_23 (pc := 49) hx hb hta hown hK hZ d_Mo_often_49 ?_
      refine z_calli (pc := 52) (va_runV (C := R_Mo) (b := b + 99) (As := [.ref (b + 106), .ref (b + 104)]) (rest := []) ⟨hx, hb, hml, hown, hts⟩ (c_Mo_divides l G b 106 104 M N hw) (cwV 2 hts (z_good (zgV wd861 wd863 wsel21 wd7 wd864)) rfl rfl rfl ⟨rfl, hd_Mo_divides⟩ ⟨Nat.le_of_ble_eq_true rfl, Nat.le_of_ble_eq_true rfl⟩) (z_preV zo_Mo rfl rfl hZ hK hT hS) rfl rfl hl.1 rfl (lv_room (Nat.le_of_ble_eq_true rfl)) d_Mo_often_52 ⟨Nat.le_of_ble_eq_true rfl, Nat.le_of_ble_eq_true rfl⟩) hS (fun r3 M4 N5 H locs hw hZ hS => ?_)
      obtain ⟨hw, eN5⟩ := hw
      rw [eN5] at hZ
      refine lv_if_eq (pc := 55) (tgt := 75) hx hb d_Mo_often_55 (by decide) (fun hc => ?_) (fun hc => ?_)
      · have hw := hw.1 hc
        refine lv_iload_n (pc := 75) hx hb d_Mo_often_75 rfl (lv_at hl 1 rfl) ?_
        exact z_iret hx hb hr hlocks hK hT hZ hS ⟨hw, rfl⟩ d_Mo_often_76
      · have hw := hw.2 hc
        refine lv_aload_n (pc := 58) hx hb d_Mo_often_58 rfl (lv_at hl 0 rfl) ?_
        refine zg_Mo_41 (pc := 59) hx hb hta hown hK hZ d_Mo_often_59 ?_
        refine lv_aload_n (pc := 62) hx hb d_Mo_often_62 rfl (lv_at hl 0 rfl) ?_
        refine zg_Mo_23 (pc := 63) hx hb hta hown hK hZ d_Mo_often_63 ?_
        refine z_callv (pc := 66) (va_runS (As := [.ref (b + 110), .ref (b + 104)]) (rest := []) ⟨hx, hb, hml, hown, hts⟩ (c_Mo_copy l G b 110 104 M4 N hw) (va_cwS 2 hts (z_good (zgS wd865 wd866 wd7 wd867)) rfl rfl rfl hd_Mo_copy ⟨Nat.le_of_ble_eq_true rfl, Nat.le_of_ble_eq_true rfl⟩) (z_preS hZ hK hT hS) rfl rfl hl.1 rfl (lv_room (Nat.le_of_ble_eq_true rfl)) d_Mo_often_66 ⟨Nat.le_of_ble_eq_true rfl, Nat.le_of_ble_eq_true rfl⟩) hS (fun M7 N8 H locs hw hZ hS => ?_)
        obtain ⟨hw, eN8⟩ := hw
        rw [eN8] at hZ
        refine lv_iinc (pc := 69) (k := 1) (v := v2 + (1 : Int32)) (lv' := [(2, .int (v2 + (1 : Int32))), (0, .ref (b + 99))]) hx hb d_Mo_often_69 hl rfl (by rfl) (by decide) rfl (fun ls hl => ?_)
        refine lv_goto (pc := 72) (tgt := 43) hx hb d_Mo_often_72 (by decide) ?_
        exact ih43 (v2 + (1 : Int32)) M7 _ _ _ hZ hS (lv_sub hl [1, 0] rfl) hw
  have lp2 : ∀ (n : Nat) (v2 : Int32) (M : zM) (H : Heap) (ls : Array Slot) (locs : List Loc), va_P G.1 zCl (zws G b M N) H → va_S (zA b) s.heap H locs → lv_has ls 3 [(0, .ref (b + 99)), (1, .int a1), (2, .int v2)] → L_Mo_often_2 P a1 n v2 M → W p l e (headSpec ws_Mo_often rm_Mo_often).room s m ([.ref (b + 99), .int a1] : List Value).toArray below meth c H locs 0 0 (MQ below (zQi G b (fun r M' N' => P r M' ∧ N' = N)) ([.ref (b + 99), .int a1] : List Value).toArray s 0 0 (zA b)) (F0 m 2 ls []) := by
    intro  n
    induction n with
    | zero => intro v2 M H ls locs hZ hS hl hw; exact False.elim hw
    | succ n2 ih2 =>
      intro v2 M H ls locs hZ hS hl hw
      have hw : B_Mo_often_2 P a1 (L_Mo_often_2 P a1 n2) v2 M := hw
      unfold B_Mo_often_2 at hw
      refine lv_iload_n (pc := 2) hx hb d_Mo_often_2 rfl (lv_at hl 2 rfl) ?_
      refine lv_bipush (pc := 3) (v := 16) hx hb d_Mo_often_3 (by decide) ?_
      refine lv_icmp_ge (pc := 5) (tgt := 41) hx hb d_Mo_often_5 (by decide) (fun hc => ?_) (fun hc => ?_)
      · have hw := hw.1 hc
        refine lv_iconst (pc := 41) (v := 0) hx hb d_Mo_often_41 (by decide) ?_
        refine lv_istore_n (pc := 42) (lv' := [(2, .int (0 : Int32)), (0, .ref (b + 99)), (1, .int a1)]) hx hb d_Mo_often_42 rfl hl (by decide) rfl (fun ls hl => ?_)
        obtain ⟨n, hw⟩ := hw
        exact lp43  n (0 : Int32) M _ _ _ hZ hS (lv_sub hl [1, 0] rfl) hw
      · have hw := hw.2 hc
        refine lv_aload_n (pc := 8) hx hb d_Mo_often_8 rfl (lv_at hl 0 rfl) ?_
        refine zg_Mo_29 (pc := 9) hx hb hta hown hK hZ d_Mo_often_9 ?_
        refine lv_iload_n (pc := 12) hx hb d_Mo_often_12 rfl (lv_at hl 2 rfl) ?_
        refine lv_iload_n (pc := 13) hx hb d_Mo_often_13 rfl (lv_at hl 2 rfl) ?_
        refine lv_bipush (pc := 14) (v := 8) hx hb d_Mo_often_14 (by decide) ?_
        refine lv_icmp_ge (pc := 16) (tgt := 33) hx hb d_Mo_often_16 (by decide) (fun hc => ?_) (fun hc => ?_)
        · have hw := hw.1 hc
          refine lv_lconst (pc := 33) (v := 0) hx hb d_Mo_often_33 (by decide) ?_
          obtain ⟨hc, hw⟩ := hw
          refine z_last (pc := 34) hx hb hK hZ hS hc d_Mo_often_34 (fun M1 H locs hM1 hZ hS => ?_)
          have hw := hw M1 hM1
          refine lv_iinc (pc := 35) (k := 2) (v := v2 + (1 : Int32)) (lv' := [(2, .int (v2 + (1 : Int32))), (0, .ref (b + 99)), (1, .int a1)]) hx hb d_Mo_often_35 hl rfl (by rfl) (by decide) rfl (fun ls hl => ?_)
          refine lv_goto (pc := 38) (tgt := 2) hx hb d_Mo_often_38 (by decide) ?_
          exact ih2 (v2 + (1 : Int32)) M1 _ _ _ hZ hS (lv_sub hl [1, 2, 0] rfl) hw
        · have hw := hw.2 hc
          refine lv_aload_n (pc := 19) hx hb d_Mo_often_19 rfl (lv_at hl 0 rfl) ?_
          refine zg_Mo_20 (pc := 20) hx hb hta hown hK hZ d_Mo_often_20 ?_
          refine lv_bipush (pc := 23) (v := 8) hx hb d_Mo_often_23 (by decide) ?_
          refine lv_iload_n (pc := 25) hx hb d_Mo_often_25 rfl (lv_at hl 1 rfl) ?_
          refine lv_imul (pc := 26) hx hb d_Mo_often_26 ?_
          refine lv_iload_n (pc := 27) hx hb d_Mo_often_27 rfl (lv_at hl 2 rfl) ?_
          refine lv_iadd (pc := 28) hx hb d_Mo_often_28 ?_
          obtain ⟨hc, hw⟩ := hw
          refine z_lald (pc := 29) hx hb hK hZ hc d_Mo_often_29 ?_
          refine lv_goto (pc := 30) (tgt := 34) hx hb d_Mo_often_30 (by decide) ?_
          obtain ⟨hc, hw⟩ := hw
          refine z_last (pc := 34) hx hb hK hZ hS hc d_Mo_often_34 (fun M2 H locs hM2 hZ hS => ?_)
          have hw := hw M2 hM2
          refine lv_iinc (pc := 35) (k := 2) (v := v2 + (1 : Int32)) (lv' := [(2, .int (v2 + (1 : Int32))), (0, .ref (b + 99)), (1, .int a1)]) hx hb d_Mo_often_35 hl rfl (by rfl) (by decide) rfl (fun ls hl => ?_)
          refine lv_goto (pc := 38) (tgt := 2) hx hb d_Mo_often_38 (by decide) ?_
          exact ih2 (v2 + (1 : Int32)) M2 _ _ _ hZ hS (lv_sub hl [1, 2, 0] rfl) hw
  unfold w_Mo_often at hw
  refine lv_iconst (pc := 0) (v := 0) hx hb d_Mo_often_0 (by decide) ?_
  refine lv_istore_n (pc := 1) (lv' := [(2, .int (0 : Int32)), (0, .ref (b + 99)), (1, .int a1)]) hx hb d_Mo_often_1 rfl hl (by decide) rfl (fun ls hl => ?_)
  obtain ⟨n, hw⟩ := hw
  exact lp2  n (0 : Int32) M _ _ _ hZ hS (lv_sub hl [1, 2, 0] rfl) hw
theorem d_Mo_prepare_0 : decode prog_10_method_48_code 0 = .ok (.aload_n 0, 1) := by decide +kernel
theorem d_Mo_prepare_1 : decode prog_10_method_48_code 1 = .ok (.iload_n 1, 1) := by decide +kernel
theorem d_Mo_prepare_2 : decode prog_10_method_48_code 2 = .ok (.aload_n 0, 1) := by decide +kernel
theorem d_Mo_prepare_3 : decode prog_10_method_48_code 3 = .ok (.getfield 23, 3) := by decide +kernel
theorem d_Mo_prepare_6 : decode prog_10_method_48_code 6 = .ok (.invokevirtual 104, 3) := by decide +kernel
theorem d_Mo_prepare_9 : decode prog_10_method_48_code 9 = .ok (.aload_n 0, 1) := by decide +kernel
theorem d_Mo_prepare_10 : decode prog_10_method_48_code 10 = .ok (.getfield 23, 3) := by decide +kernel
theorem d_Mo_prepare_13 : decode prog_10_method_48_code 13 = .ok (.invokestatic 133, 3) := by decide +kernel
theorem d_Mo_prepare_16 : decode prog_10_method_48_code 16 = .ok (.lstore_n 2, 1) := by decide +kernel
theorem d_Mo_prepare_17 : decode prog_10_method_48_code 17 = .ok (.aload_n 0, 1) := by decide +kernel
theorem d_Mo_prepare_18 : decode prog_10_method_48_code 18 = .ok (.getfield 23, 3) := by decide +kernel
theorem d_Mo_prepare_21 : decode prog_10_method_48_code 21 = .ok (.aload_n 0, 1) := by decide +kernel
theorem d_Mo_prepare_22 : decode prog_10_method_48_code 22 = .ok (.getfield 23, 3) := by decide +kernel
theorem d_Mo_prepare_25 : decode prog_10_method_48_code 25 = .ok (.invokestatic 82, 3) := by decide +kernel
theorem d_Mo_prepare_28 : decode prog_10_method_48_code 28 = .ok (.laload, 1) := by decide +kernel
theorem d_Mo_prepare_29 : decode prog_10_method_48_code 29 = .ok (.lconst 0, 1) := by decide +kernel
theorem d_Mo_prepare_30 : decode prog_10_method_48_code 30 = .ok (.lcmp, 1) := by decide +kernel
theorem d_Mo_prepare_31 : decode prog_10_method_48_code 31 = .ok (.ifCond .ge 8, 3) := by decide +kernel
theorem d_Mo_prepare_34 : decode prog_10_method_48_code 34 = .ok (.lload_n 2, 1) := by decide +kernel
theorem d_Mo_prepare_35 : decode prog_10_method_48_code 35 = .ok (.lneg, 1) := by decide +kernel
theorem d_Mo_prepare_36 : decode prog_10_method_48_code 36 = .ok (.goto 4, 3) := by decide +kernel
theorem d_Mo_prepare_39 : decode prog_10_method_48_code 39 = .ok (.lload_n 2, 1) := by decide +kernel
theorem d_Mo_prepare_40 : decode prog_10_method_48_code 40 = .ok (.lstore_n 2, 1) := by decide +kernel
theorem d_Mo_prepare_41 : decode prog_10_method_48_code 41 = .ok (.aload_n 0, 1) := by decide +kernel
theorem d_Mo_prepare_42 : decode prog_10_method_48_code 42 = .ok (.getfield 23, 3) := by decide +kernel
theorem d_Mo_prepare_45 : decode prog_10_method_48_code 45 = .ok (.lload_n 2, 1) := by decide +kernel
theorem d_Mo_prepare_46 : decode prog_10_method_48_code 46 = .ok (.invokestatic 163, 3) := by decide +kernel
theorem d_Mo_prepare_49 : decode prog_10_method_48_code 49 = .ok (.lload_n 2, 1) := by decide +kernel
theorem d_Mo_prepare_50 : decode prog_10_method_48_code 50 = .ok (.l2i, 1) := by decide +kernel
theorem d_Mo_prepare_51 : decode prog_10_method_48_code 51 = .ok (.ireturn, 1) := by decide +kernel
def J_Mo_prepare_40 (P : Int32 → zM → Prop) (t0 : Int64) (M : zM) (N : zN) : Prop := w_Mo_scale 104 t0 M (fun M11 => P t0.toInt32 M11)
def w_Mo_prepare (a1 : Int32) (M : zM) (N : zN) (P : Int32 → zM → Prop) : Prop := w_Mo_load a1 104 M N (fun M2 => w_Mo_contentOf 104 M2 (fun r4 => w_Mo_degreeOf 104 M2 (fun r7 => vp_in r7 (zlong 104) ∧ ((0 : Int64) ≤ (M2 104 r7.toNatClampNeg) → J_Mo_prepare_40 P r4 M2 N) ∧ (¬ (0 : Int64) ≤ (M2 104 r7.toNatClampNeg) → J_Mo_prepare_40 P (-r4) M2 N))))
def ws_Mo_prepare : List Cond := .code y_Mo_prepare prog_10_method_48_code 4 (Option.some Jvm.ClassFile.FieldType.int) :: zall
def rm_Mo_prepare : Room := { frames := 3, cells := 0, slots := 0, locals := 73 }
theorem hd_Mo_prepare : y_Mo_prepare.cls ≠ "java/lang/invoke/MethodHandle" ∧ y_Mo_prepare.cls ≠ "java/lang/invoke/VarHandle" ∧ (parseMethodDescriptor y_Mo_prepare.desc).map (fun d => d.parameters.length) = some 1 := by decide +kernel
set_option maxHeartbeats 4000000 in
set_option maxRecDepth 100000 in
theorem c_Mo_prepare (l : Launch) (G : zG) (b : Nat) (a1 : Int32) (M : zM) (N : zN) {P : Int32 → zM → Prop} (hw : w_Mo_prepare a1 M N P) : Met l y_Mo_prepare ws_Mo_prepare rm_Mo_prepare (zPc G b M N [.ref (b + 99), .int a1]) (zQi G b (fun r M' N' => P r M' ∧ N' = N)) 0 0 (zA b) := by
  refine Met.ofW (cc := prog_10_method_48_code) (maxL := 4) (ret := (Option.some Jvm.ClassFile.FieldType.int)) (by decide) rfl ?_
  intro p e s m args below meth c s₁ B hml hv
  obtain ⟨rfl, hZ, hK, hT⟩ := hv
  have hx := B.exec
  have hb := B.bytes
  have hr := B.returns
  have hts := atoms_spec (ws := ws_Mo_prepare) B.pre
  have hta : ∀ w ∈ zall, w.before ([.ref (b + 99), .int a1] : List Value).toArray s = true := fun w h => hts w (List.mem_cons_of_mem _ h)
  have hown : s.vm.findClass R_Mo = some m.cls := findClass_of_methodNamed B.named
  have hlocks := B.notSynchronized
  have hS : va_S (zA b) s.heap s.heap [] := va_S.rf
  have hl := lv_entry ([.ref (b + 99), .int a1]) (n := 4) (Nat.le_of_ble_eq_true rfl)
  rw [lg_entry_eq]
  generalize (lg_sl ([.ref (b + 99), .int a1]) ++ List.replicate (4 - (lg_sl ([.ref (b + 99), .int a1])).length) Slot.unset).toArray = ls at hl ⊢
  have hl : lv_has ls 4 [(0, .ref (b + 99)), (1, .int a1)] := hl
  have j40 : ∀ (t0 : Int64) (M : zM) (H : Heap) (ls : Array Slot) (locs : List Loc), va_P G.1 zCl (zws G b M N) H → va_S (zA b) s.heap H locs → lv_has ls 4 [(0, .ref (b + 99))] → J_Mo_prepare_40 P t0 M N → W p l e (headSpec ws_Mo_prepare rm_Mo_prepare).room s m ([.ref (b + 99), .int a1] : List Value).toArray below meth c H locs 0 0 (MQ below (zQi G b (fun r M' N' => P r M' ∧ N' = N)) ([.ref (b + 99), .int a1] : List Value).toArray s 0 0 (zA b)) (F0 m 40 ls [.long t0]) := by
    intro t0 M H ls locs hZ hS hl hw
    unfold J_Mo_prepare_40 at hw
    refine lv_lstore_n (pc := 40) (lv' := [(2, .long t0), (0, .ref (b + 99))]) hx hb d_Mo_prepare_40 rfl hl (by decide) rfl (fun ls hl => ?_)
    refine lv_aload_n (pc := 41) hx hb d_Mo_prepare_41 rfl (lv_at hl 1 rfl) ?_
    refine zg_Mo_23 (pc := 42) hx hb hta hown hK hZ d_Mo_prepare_42 ?_
    refine lv_lload_n (pc := 45) hx hb d_Mo_prepare_45 rfl (lv_at hl 0 rfl) ?_
    refine z_callv (pc := 46) (va_runS (As := [.ref (b + 104), .long t0]) (rest := []) ⟨hx, hb, hml, hown, hts⟩ (c_Mo_scale l G b 104 t0 M N hw) (va_cwS 2 hts (z_good (zgS wd891 wd892 wd7 wd893)) rfl rfl rfl hd_Mo_scale ⟨Nat.le_of_ble_eq_true rfl, Nat.le_of_ble_eq_true rfl⟩) (z_preS hZ hK hT hS) rfl rfl hl.1 rfl (lv_room (Nat.le_of_ble_eq_true rfl)) d_Mo_prepare_46 ⟨Nat.le_of_ble_eq_true rfl, Nat.le_of_ble_eq_true rfl⟩) hS (fun M11 N12 H locs hw hZ hS => ?_)
    obtain ⟨hw, eN12⟩ := hw
    rw [eN12] at hZ
    refine lv_lload_n (pc := 49) hx hb d_Mo_prepare_49 rfl (lv_at hl 0 rfl) ?_
    refine lv_l2i (pc := 50) (v := t0.toInt32) hx hb d_Mo_prepare_50 rfl ?_
    exact z_iret hx hb hr hlocks hK hT hZ hS ⟨hw, rfl⟩ d_Mo_prepare_51
  unfold w_Mo_prepare at hw
  refine lv_aload_n (pc := 0) hx hb d_Mo_prepare_0 rfl (lv_at hl 0 rfl) ?_
  refine lv_iload_n (pc := 1) hx hb d_Mo_prepare_1 rfl (lv_at hl 1 rfl) ?_
  refine lv_aload_n (pc := 2) hx hb d_Mo_prepare_2 rfl (lv_at hl 0 rfl) ?_
  refine zg_Mo_23 (pc := 3) hx hb hta hown hK hZ d_Mo_prepare_3 ?_
  refine z_callv (pc := 6) (va_runV (C := R_Mo) (b := b + 99) (As := [.int a1, .ref (b + 104)]) (rest := []) ⟨hx, hb, hml, hown, hts⟩ (c_Mo_load l G b a1 104 M N hw) (cwV 2 hts (z_good (zgV wd810 wd812 wsel18 wd7 wd813)) rfl rfl rfl ⟨rfl, hd_Mo_load⟩ ⟨Nat.le_of_ble_eq_true rfl, Nat.le_of_ble_eq_true rfl⟩) (z_preV zo_Mo rfl rfl hZ hK hT hS) rfl rfl hl.1 rfl (lv_room (Nat.le_of_ble_eq_true rfl)) d_Mo_prepare_6 ⟨Nat.le_of_ble_eq_true rfl, Nat.le_of_ble_eq_true rfl⟩) hS (fun M2 N3 H locs hw hZ hS => ?_)
  obtain ⟨hw, eN3⟩ := hw
  rw [eN3] at hZ
  refine lv_aload_n (pc := 9) hx hb d_Mo_prepare_9 rfl (lv_at hl 0 rfl) ?_
  refine zg_Mo_23 (pc := 10) hx hb hta hown hK hZ d_Mo_prepare_10 ?_
  refine z_calll (pc := 13) (va_runS (As := [.ref (b + 104)]) (rest := []) ⟨hx, hb, hml, hown, hts⟩ (c_Mo_contentOf l G b 104 M2 N hw) (va_cwS 1 hts (z_good (zgS wd880 wd881 wd7 wd882)) rfl rfl rfl hd_Mo_contentOf ⟨Nat.le_of_ble_eq_true rfl, Nat.le_of_ble_eq_true rfl⟩) (z_preS hZ hK hT hS) rfl rfl hl.1 rfl (lv_room (Nat.le_of_ble_eq_true rfl)) d_Mo_prepare_13 ⟨Nat.le_of_ble_eq_true rfl, Nat.le_of_ble_eq_true rfl⟩) hS (fun r4 M5 N6 H locs hw hZ hS => ?_)
  obtain ⟨hw, eM5, eN6⟩ := hw
  rw [eM5, eN6] at hZ
  refine lv_lstore_n (pc := 16) (lv' := [(2, .long r4), (0, .ref (b + 99)), (1, .int a1)]) hx hb d_Mo_prepare_16 rfl hl (by decide) rfl (fun ls hl => ?_)
  refine lv_aload_n (pc := 17) hx hb d_Mo_prepare_17 rfl (lv_at hl 1 rfl) ?_
  refine zg_Mo_23 (pc := 18) hx hb hta hown hK hZ d_Mo_prepare_18 ?_
  refine lv_aload_n (pc := 21) hx hb d_Mo_prepare_21 rfl (lv_at hl 1 rfl) ?_
  refine zg_Mo_23 (pc := 22) hx hb hta hown hK hZ d_Mo_prepare_22 ?_
  refine z_calli (pc := 25) (va_runS (As := [.ref (b + 104)]) (rest := [.ref (b + 104)]) ⟨hx, hb, hml, hown, hts⟩ (c_Mo_degreeOf l G b 104 M2 N hw) (va_cwS 1 hts (z_good (zgS wd814 wd815 wd7 wd816)) rfl rfl rfl hd_Mo_degreeOf ⟨Nat.le_of_ble_eq_true rfl, Nat.le_of_ble_eq_true rfl⟩) (z_preS hZ hK hT hS) rfl rfl hl.1 rfl (lv_room (Nat.le_of_ble_eq_true rfl)) d_Mo_prepare_25 ⟨Nat.le_of_ble_eq_true rfl, Nat.le_of_ble_eq_true rfl⟩) hS (fun r7 M8 N9 H locs hw hZ hS => ?_)
  obtain ⟨hw, eM8, eN9⟩ := hw
  rw [eM8, eN9] at hZ
  obtain ⟨hc, hw⟩ := hw
  refine z_lald (pc := 28) hx hb hK hZ hc d_Mo_prepare_28 ?_
  refine lv_lconst (pc := 29) (v := 0) hx hb d_Mo_prepare_29 (by decide) ?_
  refine z_lc_ge (pc := 30) (tgt := 39) hx hb d_Mo_prepare_30 d_Mo_prepare_31 (by decide) (fun hc => ?_) (fun hc => ?_)
  · have hw := hw.1 hc
    refine lv_lload_n (pc := 39) hx hb d_Mo_prepare_39 rfl (lv_at hl 0 rfl) ?_
    exact j40 r4 M2 _ _ _ hZ hS (lv_sub hl [1] rfl) hw
  · have hw := hw.2 hc
    refine lv_lload_n (pc := 34) hx hb d_Mo_prepare_34 rfl (lv_at hl 0 rfl) ?_
    refine lv_lneg (pc := 35) hx hb d_Mo_prepare_35 ?_
    refine lv_goto (pc := 36) (tgt := 40) hx hb d_Mo_prepare_36 (by decide) ?_
    exact j40 (-r4) M2 _ _ _ hZ hS (lv_sub hl [1] rfl) hw
theorem wsel26 : Cond.selects R_Mo y_Mo_prepare y_Mo_prepare ∈ zall := List.mem_filter.mpr ⟨List.mem_append_left _ (List.mem_of_getElem? (i := 26) rfl), by decide +kernel⟩
theorem zp_Mo_225 {p : Program} {l : Launch} {e : Env} {R : Room} {s : State} {m : MethodId} {args : Array Value} {below : List Frame} {meth : Method} {c : Code} {H : Heap} {locs : List Loc} {cells slots : Nat} {Q : State → Prop} {cc : ByteArray} {pc : Nat} {ls : Array Slot} {rest : List Value} {G : zG} {b : Nat} {M : zM} {N : zN} {H0 : Heap} {x : Int32} (hx : p.tables.exec = Jvm.exec) (hb : c.code = cc) (hta : ∀ w ∈ zall, w.before args s = true) (hown : s.vm.findClass R_Mo = some m.cls) (hK : va_K G.1 zCl (zty G) s) (hZ : va_P G.1 zCl (zws G b M N) H) (hS : va_S (zA b) H0 H locs) (hdg : decode cc pc = .ok (.putfield 225, 3)) (kk : ∀ (N1 : zN) (H1 : Heap) (locs1 : List Loc), N1 = zpui N 99 2 x → va_P G.1 zCl (zws G b M N1) H1 → va_S (zA b) H0 H1 locs1 → W p l e R s m args below meth c H1 locs1 cells slots Q (F0 m (pc + 3) ls rest)) : W p l e R s m args below meth c H locs cells slots Q (F0 m pc ls (.int x :: .ref (b + 99) :: rest)) := by
  refine va_put (D := G.1) (ci := 6) (v := .int x) (ty := .int) (C := R_Mo) (T := T_Mo) (N := 23) hx hb hta hin_Mo ty_Mo tyok_Mo nm_Mo hown hK hZ z_D hS 99 zo_Mo rfl 2 (by decide) (hta _ wd729) (fun _ h9 => h9) rfl (by decide +kernel) rfl rfl (Nat.le_of_ble_eq_true rfl) hdg (fun H1 locs1 h1 _ h3 => ?_)
  have h2 : va_P G.1 zCl ((zws G b M N).set 99 (b + 99, zcell G b (M 99) ((zpui N 99 2 x) 99) 99)) H1 := h1
  rw [z_set (M' := M) (N' := (zpui N 99 2 x)) (k := 99) (by decide) rfl (fun j _ => rfl) (fun j hj => zpui_ne hj)] at h2
  exact kk _ H1 locs1 rfl h2 h3
theorem wsel27 : Cond.selects R_Mo y_Mo_takeApart y_Mo_takeApart ∈ zall := List.mem_filter.mpr ⟨List.mem_append_left _ (List.mem_of_getElem? (i := 27) rfl), by decide +kernel⟩
theorem zp_Mo_231 {p : Program} {l : Launch} {e : Env} {R : Room} {s : State} {m : MethodId} {args : Array Value} {below : List Frame} {meth : Method} {c : Code} {H : Heap} {locs : List Loc} {cells slots : Nat} {Q : State → Prop} {cc : ByteArray} {pc : Nat} {ls : Array Slot} {rest : List Value} {G : zG} {b : Nat} {M : zM} {N : zN} {H0 : Heap} {x : Int32} (hx : p.tables.exec = Jvm.exec) (hb : c.code = cc) (hta : ∀ w ∈ zall, w.before args s = true) (hown : s.vm.findClass R_Mo = some m.cls) (hK : va_K G.1 zCl (zty G) s) (hZ : va_P G.1 zCl (zws G b M N) H) (hS : va_S (zA b) H0 H locs) (hdg : decode cc pc = .ok (.putfield 231, 3)) (kk : ∀ (N1 : zN) (H1 : Heap) (locs1 : List Loc), N1 = zpui N 99 3 x → va_P G.1 zCl (zws G b M N1) H1 → va_S (zA b) H0 H1 locs1 → W p l e R s m args below meth c H1 locs1 cells slots Q (F0 m (pc + 3) ls rest)) : W p l e R s m args below meth c H locs cells slots Q (F0 m pc ls (.int x :: .ref (b + 99) :: rest)) := by
  refine va_put (D := G.1) (ci := 6) (v := .int x) (ty := .int) (C := R_Mo) (T := T_Mo) (N := 23) hx hb hta hin_Mo ty_Mo tyok_Mo nm_Mo hown hK hZ z_D hS 99 zo_Mo rfl 3 (by decide) (hta _ wd730) (fun _ h9 => h9) rfl (by decide +kernel) rfl rfl (Nat.le_of_ble_eq_true rfl) hdg (fun H1 locs1 h1 _ h3 => ?_)
  have h2 : va_P G.1 zCl ((zws G b M N).set 99 (b + 99, zcell G b (M 99) ((zpui N 99 3 x) 99) 99)) H1 := h1
  rw [z_set (M' := M) (N' := (zpui N 99 3 x)) (k := 99) (by decide) rfl (fun j _ => rfl) (fun j hj => zpui_ne hj)] at h2
  exact kk _ H1 locs1 rfl h2 h3
theorem zg_Mo_231 {p : Program} {l : Launch} {e : Env} {R : Room} {s : State} {m : MethodId} {args : Array Value} {below : List Frame} {meth : Method} {c : Code} {H : Heap} {locs : List Loc} {cells slots : Nat} {Q : State → Prop} {cc : ByteArray} {pc : Nat} {ls : Array Slot} {rest : List Value} {G : zG} {b : Nat} {M : zM} {N : zN} (hx : p.tables.exec = Jvm.exec) (hb : c.code = cc) (hta : ∀ w ∈ zall, w.before args s = true) (hown : s.vm.findClass R_Mo = some m.cls) (hK : va_K G.1 zCl (zty G) s) (hZ : va_P G.1 zCl (zws G b M N) H) (hdg : decode cc pc = .ok (.getfield 231, 3)) (kk : W p l e R s m args below meth c H locs cells slots Q (F0 m (pc + 3) ls (.int (N 99 3) :: rest))) : W p l e R s m args below meth c H locs cells slots Q (F0 m pc ls (.ref (b + 99) :: rest)) :=
  va_get (D := G.1) (ci := 6) (v := .int (N 99 3)) (C := R_Mo) (T := T_Mo) (N := 23) hx hb hta hin_Mo hown hK hZ 99 zo_Mo rfl 3 (by decide) (hta _ wd730) (fun _ h9 => h9) rfl hdg kk
theorem zg_Mo_13 {p : Program} {l : Launch} {e : Env} {R : Room} {s : State} {m : MethodId} {args : Array Value} {below : List Frame} {meth : Method} {c : Code} {H : Heap} {locs : List Loc} {cells slots : Nat} {Q : State → Prop} {cc : ByteArray} {pc : Nat} {ls : Array Slot} {rest : List Value} {G : zG} {b : Nat} {M : zM} {N : zN} (hx : p.tables.exec = Jvm.exec) (hb : c.code = cc) (hta : ∀ w ∈ zall, w.before args s = true) (hown : s.vm.findClass R_Mo = some m.cls) (hK : va_K G.1 zCl (zty G) s) (hZ : va_P G.1 zCl (zws G b M N) H) (hdg : decode cc pc = .ok (.getfield 13, 3)) (kk : W p l e R s m args below meth c H locs cells slots Q (F0 m (pc + 3) ls (.ref (b + 101) :: rest))) : W p l e R s m args below meth c H locs cells slots Q (F0 m pc ls (.ref (b + 99) :: rest)) :=
  va_get (D := G.1) (ci := 6) (v := .ref (b + 101)) (C := R_Mo) (T := T_Mo) (N := 23) hx hb hta hin_Mo hown hK hZ 99 zo_Mo rfl 4 (by decide) (hta _ wd731) (fun _ h9 => h9) rfl hdg kk
theorem wsel38 : Cond.selects R_Mo y_Mo_often y_Mo_often ∈ zall := List.mem_filter.mpr ⟨List.mem_append_left _ (List.mem_of_getElem? (i := 38) rfl), by decide +kernel⟩
theorem zg_Mo_16 {p : Program} {l : Launch} {e : Env} {R : Room} {s : State} {m : MethodId} {args : Array Value} {below : List Frame} {meth : Method} {c : Code} {H : Heap} {locs : List Loc} {cells slots : Nat} {Q : State → Prop} {cc : ByteArray} {pc : Nat} {ls : Array Slot} {rest : List Value} {G : zG} {b : Nat} {M : zM} {N : zN} (hx : p.tables.exec = Jvm.exec) (hb : c.code = cc) (hta : ∀ w ∈ zall, w.before args s = true) (hown : s.vm.findClass R_Mo = some m.cls) (hK : va_K G.1 zCl (zty G) s) (hZ : va_P G.1 zCl (zws G b M N) H) (hdg : decode cc pc = .ok (.getfield 16, 3)) (kk : W p l e R s m args below meth c H locs cells slots Q (F0 m (pc + 3) ls (.ref (b + 102) :: rest))) : W p l e R s m args below meth c H locs cells slots Q (F0 m pc ls (.ref (b + 99) :: rest)) :=
  va_get (D := G.1) (ci := 6) (v := .ref (b + 102)) (C := R_Mo) (T := T_Mo) (N := 23) hx hb hta hin_Mo hown hK hZ 99 zo_Mo rfl 5 (by decide) (hta _ wd732) (fun _ h9 => h9) rfl hdg kk
theorem d_Mo_factor_0 : decode prog_10_method_49_code 0 = .ok (.aload_n 0, 1) := by decide +kernel
theorem d_Mo_factor_1 : decode prog_10_method_49_code 1 = .ok (.iload_n 1, 1) := by decide +kernel
theorem d_Mo_factor_2 : decode prog_10_method_49_code 2 = .ok (.invokestatic 98, 3) := by decide +kernel
theorem d_Mo_factor_5 : decode prog_10_method_49_code 5 = .ok (.ifCond .eq 7, 3) := by decide +kernel
theorem d_Mo_factor_8 : decode prog_10_method_49_code 8 = .ok (.iconst 0, 1) := by decide +kernel
theorem d_Mo_factor_9 : decode prog_10_method_49_code 9 = .ok (.goto 4, 3) := by decide +kernel
theorem d_Mo_factor_12 : decode prog_10_method_49_code 12 = .ok (.iconst 1, 1) := by decide +kernel
theorem d_Mo_factor_13 : decode prog_10_method_49_code 13 = .ok (.putfield 78, 3) := by decide +kernel
theorem d_Mo_factor_16 : decode prog_10_method_49_code 16 = .ok (.aload_n 0, 1) := by decide +kernel
theorem d_Mo_factor_17 : decode prog_10_method_49_code 17 = .ok (.getfield 78, 3) := by decide +kernel
theorem d_Mo_factor_20 : decode prog_10_method_49_code 20 = .ok (.ifCond .le 5, 3) := by decide +kernel
theorem d_Mo_factor_23 : decode prog_10_method_49_code 23 = .ok (.iconst 0, 1) := by decide +kernel
theorem d_Mo_factor_24 : decode prog_10_method_49_code 24 = .ok (.ireturn, 1) := by decide +kernel
theorem d_Mo_factor_25 : decode prog_10_method_49_code 25 = .ok (.aload_n 0, 1) := by decide +kernel
theorem d_Mo_factor_26 : decode prog_10_method_49_code 26 = .ok (.iload_n 1, 1) := by decide +kernel
theorem d_Mo_factor_27 : decode prog_10_method_49_code 27 = .ok (.aload_n 0, 1) := by decide +kernel
theorem d_Mo_factor_28 : decode prog_10_method_49_code 28 = .ok (.getfield 29, 3) := by decide +kernel
theorem d_Mo_factor_31 : decode prog_10_method_49_code 31 = .ok (.invokevirtual 104, 3) := by decide +kernel
theorem d_Mo_factor_34 : decode prog_10_method_49_code 34 = .ok (.aload_n 0, 1) := by decide +kernel
theorem d_Mo_factor_35 : decode prog_10_method_49_code 35 = .ok (.aload_n 0, 1) := by decide +kernel
theorem d_Mo_factor_36 : decode prog_10_method_49_code 36 = .ok (.getfield 29, 3) := by decide +kernel
theorem d_Mo_factor_39 : decode prog_10_method_49_code 39 = .ok (.invokestatic 82, 3) := by decide +kernel
theorem d_Mo_factor_42 : decode prog_10_method_49_code 42 = .ok (.ifCond .ge 7, 3) := by decide +kernel
theorem d_Mo_factor_45 : decode prog_10_method_49_code 45 = .ok (.iconst 2, 1) := by decide +kernel
theorem d_Mo_factor_46 : decode prog_10_method_49_code 46 = .ok (.goto 4, 3) := by decide +kernel
theorem d_Mo_factor_49 : decode prog_10_method_49_code 49 = .ok (.iconst 0, 1) := by decide +kernel
theorem d_Mo_factor_50 : decode prog_10_method_49_code 50 = .ok (.putfield 78, 3) := by decide +kernel
theorem d_Mo_factor_53 : decode prog_10_method_49_code 53 = .ok (.aload_n 0, 1) := by decide +kernel
theorem d_Mo_factor_54 : decode prog_10_method_49_code 54 = .ok (.getfield 78, 3) := by decide +kernel
theorem d_Mo_factor_57 : decode prog_10_method_49_code 57 = .ok (.ifCond .le 5, 3) := by decide +kernel
theorem d_Mo_factor_60 : decode prog_10_method_49_code 60 = .ok (.iconst 0, 1) := by decide +kernel
theorem d_Mo_factor_61 : decode prog_10_method_49_code 61 = .ok (.ireturn, 1) := by decide +kernel
theorem d_Mo_factor_62 : decode prog_10_method_49_code 62 = .ok (.aload_n 0, 1) := by decide +kernel
theorem d_Mo_factor_63 : decode prog_10_method_49_code 63 = .ok (.aload_n 0, 1) := by decide +kernel
theorem d_Mo_factor_64 : decode prog_10_method_49_code 64 = .ok (.iload_n 1, 1) := by decide +kernel
theorem d_Mo_factor_65 : decode prog_10_method_49_code 65 = .ok (.invokevirtual 221, 3) := by decide +kernel
theorem d_Mo_factor_68 : decode prog_10_method_49_code 68 = .ok (.putfield 225, 3) := by decide +kernel
theorem d_Mo_factor_71 : decode prog_10_method_49_code 71 = .ok (.aload_n 0, 1) := by decide +kernel
theorem d_Mo_factor_72 : decode prog_10_method_49_code 72 = .ok (.invokevirtual 228, 3) := by decide +kernel
theorem d_Mo_factor_75 : decode prog_10_method_49_code 75 = .ok (.aload_n 0, 1) := by decide +kernel
theorem d_Mo_factor_76 : decode prog_10_method_49_code 76 = .ok (.aload_n 0, 1) := by decide +kernel
theorem d_Mo_factor_77 : decode prog_10_method_49_code 77 = .ok (.getfield 186, 3) := by decide +kernel
theorem d_Mo_factor_80 : decode prog_10_method_49_code 80 = .ok (.putfield 231, 3) := by decide +kernel
theorem d_Mo_factor_83 : decode prog_10_method_49_code 83 = .ok (.iconst 0, 1) := by decide +kernel
theorem d_Mo_factor_84 : decode prog_10_method_49_code 84 = .ok (.istore_n 2, 1) := by decide +kernel
theorem d_Mo_factor_85 : decode prog_10_method_49_code 85 = .ok (.iload_n 2, 1) := by decide +kernel
theorem d_Mo_factor_86 : decode prog_10_method_49_code 86 = .ok (.aload_n 0, 1) := by decide +kernel
theorem d_Mo_factor_87 : decode prog_10_method_49_code 87 = .ok (.getfield 231, 3) := by decide +kernel
theorem d_Mo_factor_90 : decode prog_10_method_49_code 90 = .ok (.if_icmp .ge 20, 3) := by decide +kernel
theorem d_Mo_factor_93 : decode prog_10_method_49_code 93 = .ok (.aload_n 0, 1) := by decide +kernel
theorem d_Mo_factor_94 : decode prog_10_method_49_code 94 = .ok (.getfield 13, 3) := by decide +kernel
theorem d_Mo_factor_97 : decode prog_10_method_49_code 97 = .ok (.iload_n 2, 1) := by decide +kernel
theorem d_Mo_factor_98 : decode prog_10_method_49_code 98 = .ok (.aload_n 0, 1) := by decide +kernel
theorem d_Mo_factor_99 : decode prog_10_method_49_code 99 = .ok (.iload_n 2, 1) := by decide +kernel
theorem d_Mo_factor_100 : decode prog_10_method_49_code 100 = .ok (.invokevirtual 234, 3) := by decide +kernel
theorem d_Mo_factor_103 : decode prog_10_method_49_code 103 = .ok (.iastore, 1) := by decide +kernel
theorem d_Mo_factor_104 : decode prog_10_method_49_code 104 = .ok (.iinc 2 1, 3) := by decide +kernel
theorem d_Mo_factor_107 : decode prog_10_method_49_code 107 = .ok (.goto (-22), 3) := by decide +kernel
theorem d_Mo_factor_110 : decode prog_10_method_49_code 110 = .ok (.iconst 0, 1) := by decide +kernel
theorem d_Mo_factor_111 : decode prog_10_method_49_code 111 = .ok (.istore_n 2, 1) := by decide +kernel
theorem d_Mo_factor_112 : decode prog_10_method_49_code 112 = .ok (.iload_n 2, 1) := by decide +kernel
theorem d_Mo_factor_113 : decode prog_10_method_49_code 113 = .ok (.bipush 56, 2) := by decide +kernel
theorem d_Mo_factor_115 : decode prog_10_method_49_code 115 = .ok (.if_icmp .ge 21, 3) := by decide +kernel
theorem d_Mo_factor_118 : decode prog_10_method_49_code 118 = .ok (.aload_n 0, 1) := by decide +kernel
theorem d_Mo_factor_119 : decode prog_10_method_49_code 119 = .ok (.getfield 16, 3) := by decide +kernel
theorem d_Mo_factor_122 : decode prog_10_method_49_code 122 = .ok (.iload_n 2, 1) := by decide +kernel
theorem d_Mo_factor_123 : decode prog_10_method_49_code 123 = .ok (.aload_n 0, 1) := by decide +kernel
theorem d_Mo_factor_124 : decode prog_10_method_49_code 124 = .ok (.getfield 20, 3) := by decide +kernel
theorem d_Mo_factor_127 : decode prog_10_method_49_code 127 = .ok (.iload_n 2, 1) := by decide +kernel
theorem d_Mo_factor_128 : decode prog_10_method_49_code 128 = .ok (.laload, 1) := by decide +kernel
theorem d_Mo_factor_129 : decode prog_10_method_49_code 129 = .ok (.lastore, 1) := by decide +kernel
theorem d_Mo_factor_130 : decode prog_10_method_49_code 130 = .ok (.iinc 2 1, 3) := by decide +kernel
theorem d_Mo_factor_133 : decode prog_10_method_49_code 133 = .ok (.goto (-21), 3) := by decide +kernel
theorem d_Mo_factor_136 : decode prog_10_method_49_code 136 = .ok (.aload_n 0, 1) := by decide +kernel
theorem d_Mo_factor_137 : decode prog_10_method_49_code 137 = .ok (.getfield 231, 3) := by decide +kernel
theorem d_Mo_factor_140 : decode prog_10_method_49_code 140 = .ok (.ireturn, 1) := by decide +kernel
def B_Mo_factor_112 (P : Int32 → zM → zN → Prop) (N : zN) (k112 : Int32 → zM → Prop) (v2 : Int32) (M : zM) : Prop := ((56 : Int32) ≤ v2 → P (N 99 3) M N) ∧ (¬ (56 : Int32) ≤ v2 → vp_in v2 (zlong 103) ∧ vp_in v2 (zlong 102) ∧ ∀ M24 : zM, M24 = zput M 102 v2.toNatClampNeg (M 103 v2.toNatClampNeg) → k112 (v2 + (1 : Int32)) M24)
def L_Mo_factor_112 (P : Int32 → zM → zN → Prop) (N : zN) (n : Nat) : Int32 → zM → Prop := Nat.rec (fun _ _ => False) (fun _ k => B_Mo_factor_112 P N k) n
def B_Mo_factor_85 (P : Int32 → zM → zN → Prop) (k85 : Int32 → zM → zN → Prop) (v2 : Int32) (M : zM) (N : zN) : Prop := ((N 99 3) ≤ v2 → ∃ n, L_Mo_factor_112 P N n (0 : Int32) M) ∧ (¬ (N 99 3) ≤ v2 → w_Mo_often v2 M (fun r20 M21 => vp_in v2 (zint 101) ∧ ∀ N23 : zN, N23 = zpui N 101 v2.toNatClampNeg r20 → k85 (v2 + (1 : Int32)) M21 N23))
def L_Mo_factor_85 (P : Int32 → zM → zN → Prop) (n : Nat) : Int32 → zM → zN → Prop := Nat.rec (fun _ _ _ => False) (fun _ k => B_Mo_factor_85 P k) n
def J_Mo_factor_50 (P : Int32 → zM → zN → Prop) (a1 : Int32) (t0 : Int32) (M : zM) (N : zN) : Prop := ∀ N11 : zN, N11 = zpui N 99 0 t0 → ((N11 99 0) ≤ 0 → w_Mo_prepare a1 M N11 (fun r12 M13 => ∀ N15 : zN, N15 = zpui N11 99 2 r12 → w_Mo_takeApart  M13 N15 (fun M17 N18 => ∀ N19 : zN, N19 = zpui N18 99 3 (N18 99 6) → ∃ n, L_Mo_factor_85 P n (0 : Int32) M17 N19))) ∧ (¬ (N11 99 0) ≤ 0 → P (0 : Int32) M N11)
def J_Mo_factor_13 (P : Int32 → zM → zN → Prop) (a1 : Int32) (t0 : Int32) (M : zM) (N : zN) : Prop := ∀ N4 : zN, N4 = zpui N 99 0 t0 → ((N4 99 0) ≤ 0 → w_Mo_load a1 106 M N4 (fun M6 => w_Mo_degreeOf 106 M6 (fun r8 => (0 ≤ r8 → J_Mo_factor_50 P a1 (0 : Int32) M6 N4) ∧ (¬ 0 ≤ r8 → J_Mo_factor_50 P a1 (2 : Int32) M6 N4)))) ∧ (¬ (N4 99 0) ≤ 0 → P (0 : Int32) M N4)
def w_Mo_factor (a1 : Int32) (M : zM) (N : zN) (P : Int32 → zM → zN → Prop) : Prop := w_Mo_isRegister a1  (fun r1 => (r1 = 0 → J_Mo_factor_13 P a1 (1 : Int32) M N) ∧ (¬ r1 = 0 → J_Mo_factor_13 P a1 (0 : Int32) M N))
def ws_Mo_factor : List Cond := .code y_Mo_factor prog_10_method_49_code 3 (Option.some Jvm.ClassFile.FieldType.int) :: zall
def rm_Mo_factor : Room := { frames := 7, cells := 0, slots := 0, locals := 178 }
theorem hd_Mo_factor : y_Mo_factor.cls ≠ "java/lang/invoke/MethodHandle" ∧ y_Mo_factor.cls ≠ "java/lang/invoke/VarHandle" ∧ (parseMethodDescriptor y_Mo_factor.desc).map (fun d => d.parameters.length) = some 1 := by decide +kernel
set_option maxHeartbeats 4000000 in
set_option maxRecDepth 100000 in
theorem c_Mo_factor (l : Launch) (G : zG) (b : Nat) (a1 : Int32) (M : zM) (N : zN) {P : Int32 → zM → zN → Prop} (hw : w_Mo_factor a1 M N P) : Met l y_Mo_factor ws_Mo_factor rm_Mo_factor (zPc G b M N [.ref (b + 99), .int a1]) (zQi G b (fun r M' N' => P r M' N')) 0 0 (zA b) := by
  refine Met.ofW (cc := prog_10_method_49_code) (maxL := 3) (ret := (Option.some Jvm.ClassFile.FieldType.int)) (by decide) rfl ?_
  intro p e s m args below meth c s₁ B hml hv
  obtain ⟨rfl, hZ, hK, hT⟩ := hv
  have hx := B.exec
  have hb := B.bytes
  have hr := B.returns
  have hts := atoms_spec (ws := ws_Mo_factor) B.pre
  have hta : ∀ w ∈ zall, w.before ([.ref (b + 99), .int a1] : List Value).toArray s = true := fun w h => hts w (List.mem_cons_of_mem _ h)
  have hown : s.vm.findClass R_Mo = some m.cls := findClass_of_methodNamed B.named
  have hlocks := B.notSynchronized
  have hS : va_S (zA b) s.heap s.heap [] := va_S.rf
  have hl := lv_entry ([.ref (b + 99), .int a1]) (n := 3) (Nat.le_of_ble_eq_true rfl)
  rw [lg_entry_eq]
  generalize (lg_sl ([.ref (b + 99), .int a1]) ++ List.replicate (3 - (lg_sl ([.ref (b + 99), .int a1])).length) Slot.unset).toArray = ls at hl ⊢
  have hl : lv_has ls 3 [(0, .ref (b + 99)), (1, .int a1)] := hl
  have lp112 : ∀ (N : zN) (n : Nat) (v2 : Int32) (M : zM) (H : Heap) (ls : Array Slot) (locs : List Loc), va_P G.1 zCl (zws G b M N) H → va_S (zA b) s.heap H locs → lv_has ls 3 [(0, .ref (b + 99)), (2, .int v2)] → L_Mo_factor_112 P N n v2 M → W p l e (headSpec ws_Mo_factor rm_Mo_factor).room s m ([.ref (b + 99), .int a1] : List Value).toArray below meth c H locs 0 0 (MQ below (zQi G b (fun r M' N' => P r M' N')) ([.ref (b + 99), .int a1] : List Value).toArray s 0 0 (zA b)) (F0 m 112 ls []) := by
    intro N n
    induction n with
    | zero => intro v2 M H ls locs hZ hS hl hw; exact False.elim hw
    | succ n112 ih112 =>
      intro v2 M H ls locs hZ hS hl hw
      have hw : B_Mo_factor_112 P N (L_Mo_factor_112 P N n112) v2 M := hw
      unfold B_Mo_factor_112 at hw
      refine lv_iload_n (pc := 112) hx hb d_Mo_factor_112 rfl (lv_at hl 1 rfl) ?_
      refine lv_bipush (pc := 113) (v := 56) hx hb d_Mo_factor_113 (by decide) ?_
      refine lv_icmp_ge (pc := 115) (tgt := 136) hx hb d_Mo_factor_115 (by decide) (fun hc => ?_) (fun hc => ?_)
      · have hw := hw.1 hc
        refine lv_aload_n (pc := 136) hx hb d_Mo_factor_136 rfl (lv_at hl 0 rfl) ?_
        refine zg_Mo_231 (pc := 137) hx hb hta hown hK hZ d_Mo_factor_137 ?_
        exact z_iret hx hb hr hlocks hK hT hZ hS hw d_Mo_factor_140
      · have hw := hw.2 hc
        refine lv_aload_n (pc := 118) hx hb d_Mo_factor_118 rfl (lv_at hl 0 rfl) ?_
        refine zg_Mo_16 (pc := 119) hx hb hta hown hK hZ d_Mo_factor_119 ?_
        refine lv_iload_n (pc := 122) hx hb d_Mo_factor_122 rfl (lv_at hl 1 rfl) ?_
        refine lv_aload_n (pc := 123) hx hb d_Mo_factor_123 rfl (lv_at hl 0 rfl) ?_
        refine zg_Mo_20 (pc := 124) hx hb hta hown hK hZ d_Mo_factor_124 ?_
        refine lv_iload_n (pc := 127) hx hb d_Mo_factor_127 rfl (lv_at hl 1 rfl) ?_
        obtain ⟨hc, hw⟩ := hw
        refine z_lald (pc := 128) hx hb hK hZ hc d_Mo_factor_128 ?_
        obtain ⟨hc, hw⟩ := hw
        refine z_last (pc := 129) hx hb hK hZ hS hc d_Mo_factor_129 (fun M24 H locs hM24 hZ hS => ?_)
        have hw := hw M24 hM24
        refine lv_iinc (pc := 130) (k := 1) (v := v2 + (1 : Int32)) (lv' := [(2, .int (v2 + (1 : Int32))), (0, .ref (b + 99))]) hx hb d_Mo_factor_130 hl rfl (by rfl) (by decide) rfl (fun ls hl => ?_)
        refine lv_goto (pc := 133) (tgt := 112) hx hb d_Mo_factor_133 (by decide) ?_
        exact ih112 (v2 + (1 : Int32)) M24 _ _ _ hZ hS (lv_sub hl [1, 0] rfl) hw
  have lp85 : ∀ (n : Nat) (v2 : Int32) (M : zM) (N : zN) (H : Heap) (ls : Array Slot) (locs : List Loc), va_P G.1 zCl (zws G b M N) H → va_S (zA b) s.heap H locs → lv_has ls 3 [(0, .ref (b + 99)), (2, .int v2)] → L_Mo_factor_85 P n v2 M N → W p l e (headSpec ws_Mo_factor rm_Mo_factor).room s m ([.ref (b + 99), .int a1] : List Value).toArray below meth c H locs 0 0 (MQ below (zQi G b (fun r M' N' => P r M' N')) ([.ref (b + 99), .int a1] : List Value).toArray s 0 0 (zA b)) (F0 m 85 ls []) := by
    intro  n
    induction n with
    | zero => intro v2 M N H ls locs hZ hS hl hw; exact False.elim hw
    | succ n85 ih85 =>
      intro v2 M N H ls locs hZ hS hl hw
      have hw : B_Mo_factor_85 P (L_Mo_factor_85 P n85) v2 M N := hw
      unfold B_Mo_factor_85 at hw
      refine lv_iload_n (pc := 85) hx hb d_Mo_factor_85 rfl (lv_at hl 1 rfl) ?_
      refine lv_aload_n (pc := 86) hx hb d_Mo_factor_86 rfl (lv_at hl 0 rfl) ?_
      refine zg_Mo_231 (pc := 87) hx hb hta hown hK hZ d_Mo_factor_87 ?_
      refine lv_icmp_ge (pc := 90) (tgt := 110) hx hb d_Mo_factor_90 (by decide) (fun hc => ?_) (fun hc => ?_)
      · have hw := hw.1 hc
        refine lv_iconst (pc := 110) (v := 0) hx hb d_Mo_factor_110 (by decide) ?_
        refine lv_istore_n (pc := 111) (lv' := [(2, .int (0 : Int32)), (0, .ref (b + 99))]) hx hb d_Mo_factor_111 rfl hl (by decide) rfl (fun ls hl => ?_)
        obtain ⟨n, hw⟩ := hw
        exact lp112 N n (0 : Int32) M _ _ _ hZ hS (lv_sub hl [1, 0] rfl) hw
      · have hw := hw.2 hc
        refine lv_aload_n (pc := 93) hx hb d_Mo_factor_93 rfl (lv_at hl 0 rfl) ?_
        refine zg_Mo_13 (pc := 94) hx hb hta hown hK hZ d_Mo_factor_94 ?_
        refine lv_iload_n (pc := 97) hx hb d_Mo_factor_97 rfl (lv_at hl 1 rfl) ?_
        refine lv_aload_n (pc := 98) hx hb d_Mo_factor_98 rfl (lv_at hl 0 rfl) ?_
        refine lv_iload_n (pc := 99) hx hb d_Mo_factor_99 rfl (lv_at hl 1 rfl) ?_
        refine z_calli (pc := 100) (va_runV (C := R_Mo) (b := b + 99) (As := [.int v2]) (rest := [.int v2, .ref (b + 101)]) ⟨hx, hb, hml, hown, hts⟩ (c_Mo_often l G b v2 M N hw) (cwV 1 hts (z_good (zgV wd979 wd981 wsel38 wd7 wd982)) rfl rfl rfl ⟨rfl, hd_Mo_often⟩ ⟨Nat.le_of_ble_eq_true rfl, Nat.le_of_ble_eq_true rfl⟩) (z_preV zo_Mo rfl rfl hZ hK hT hS) rfl rfl hl.1 rfl (lv_room (Nat.le_of_ble_eq_true rfl)) d_Mo_factor_100 ⟨Nat.le_of_ble_eq_true rfl, Nat.le_of_ble_eq_true rfl⟩) hS (fun r20 M21 N22 H locs hw hZ hS => ?_)
        obtain ⟨hw, eN22⟩ := hw
        rw [eN22] at hZ
        obtain ⟨hc, hw⟩ := hw
        refine z_iast (pc := 103) hx hb hK hZ hS hc d_Mo_factor_103 (fun N23 H locs hN23 hZ hS => ?_)
        have hw := hw N23 hN23
        refine lv_iinc (pc := 104) (k := 1) (v := v2 + (1 : Int32)) (lv' := [(2, .int (v2 + (1 : Int32))), (0, .ref (b + 99))]) hx hb d_Mo_factor_104 hl rfl (by rfl) (by decide) rfl (fun ls hl => ?_)
        refine lv_goto (pc := 107) (tgt := 85) hx hb d_Mo_factor_107 (by decide) ?_
        exact ih85 (v2 + (1 : Int32)) M21 N23 _ _ _ hZ hS (lv_sub hl [1, 0] rfl) hw
  have j50 : ∀ (t0 : Int32) (M : zM) (N : zN) (H : Heap) (ls : Array Slot) (locs : List Loc), va_P G.1 zCl (zws G b M N) H → va_S (zA b) s.heap H locs → lv_has ls 3 [(0, .ref (b + 99)), (1, .int a1)] → J_Mo_factor_50 P a1 t0 M N → W p l e (headSpec ws_Mo_factor rm_Mo_factor).room s m ([.ref (b + 99), .int a1] : List Value).toArray below meth c H locs 0 0 (MQ below (zQi G b (fun r M' N' => P r M' N')) ([.ref (b + 99), .int a1] : List Value).toArray s 0 0 (zA b)) (F0 m 50 ls [.int t0, .ref (b + 99)]) := by
    intro t0 M N H ls locs hZ hS hl hw
    unfold J_Mo_factor_50 at hw
    refine zp_Mo_78 (pc := 50) hx hb hta hown hK hZ hS d_Mo_factor_50 (fun N11 H locs hN11 hZ hS => ?_)
    have hw := hw N11 hN11
    refine lv_aload_n (pc := 53) hx hb d_Mo_factor_53 rfl (lv_at hl 0 rfl) ?_
    refine zg_Mo_78 (pc := 54) hx hb hta hown hK hZ d_Mo_factor_54 ?_
    refine lv_if_le (pc := 57) (tgt := 62) hx hb d_Mo_factor_57 (by decide) (fun hc => ?_) (fun hc => ?_)
    · have hw := hw.1 hc
      refine lv_aload_n (pc := 62) hx hb d_Mo_factor_62 rfl (lv_at hl 0 rfl) ?_
      refine lv_aload_n (pc := 63) hx hb d_Mo_factor_63 rfl (lv_at hl 0 rfl) ?_
      refine lv_iload_n (pc := 64) hx hb d_Mo_factor_64 rfl (lv_at hl 1 rfl) ?_
      refine z_calli (pc := 65) (va_runV (C := R_Mo) (b := b + 99) (As := [.int a1]) (rest := [.ref (b + 99)]) ⟨hx, hb, hml, hown, hts⟩ (c_Mo_prepare l G b a1 M N11 hw) (cwV 1 hts (z_good (zgV wd924 wd926 wsel26 wd7 wd927)) rfl rfl rfl ⟨rfl, hd_Mo_prepare⟩ ⟨Nat.le_of_ble_eq_true rfl, Nat.le_of_ble_eq_true rfl⟩) (z_preV zo_Mo rfl rfl hZ hK hT hS) rfl rfl hl.1 rfl (lv_room (Nat.le_of_ble_eq_true rfl)) d_Mo_factor_65 ⟨Nat.le_of_ble_eq_true rfl, Nat.le_of_ble_eq_true rfl⟩) hS (fun r12 M13 N14 H locs hw hZ hS => ?_)
      obtain ⟨hw, eN14⟩ := hw
      rw [eN14] at hZ
      refine zp_Mo_225 (pc := 68) hx hb hta hown hK hZ hS d_Mo_factor_68 (fun N15 H locs hN15 hZ hS => ?_)
      have hw := hw N15 hN15
      refine lv_aload_n (pc := 71) hx hb d_Mo_factor_71 rfl (lv_at hl 0 rfl) ?_
      refine z_callv (pc := 72) (va_runV (C := R_Mo) (b := b + 99) (As := []) (rest := []) ⟨hx, hb, hml, hown, hts⟩ (c_Mo_takeApart l G b  M13 N15 hw) (cwV 0 hts (z_good (zgV wd928 wd930 wsel27 wd7 wd931)) rfl rfl rfl ⟨rfl, hd_Mo_takeApart⟩ ⟨Nat.le_of_ble_eq_true rfl, Nat.le_of_ble_eq_true rfl⟩) (z_preV zo_Mo rfl rfl hZ hK hT hS) rfl rfl hl.1 rfl (lv_room (Nat.le_of_ble_eq_true rfl)) d_Mo_factor_72 ⟨Nat.le_of_ble_eq_true rfl, Nat.le_of_ble_eq_true rfl⟩) hS (fun M17 N18 H locs hw hZ hS => ?_)
      refine lv_aload_n (pc := 75) hx hb d_Mo_factor_75 rfl (lv_at hl 0 rfl) ?_
      refine lv_aload_n (pc := 76) hx hb d_Mo_factor_76 rfl (lv_at hl 0 rfl) ?_
      refine zg_Mo_186 (pc := 77) hx hb hta hown hK hZ d_Mo_factor_77 ?_
      refine zp_Mo_231 (pc := 80) hx hb hta hown hK hZ hS d_Mo_factor_80 (fun N19 H locs hN19 hZ hS => ?_)
      have hw := hw N19 hN19
      refine lv_iconst (pc := 83) (v := 0) hx hb d_Mo_factor_83 (by decide) ?_
      refine lv_istore_n (pc := 84) (lv' := [(2, .int (0 : Int32)), (0, .ref (b + 99)), (1, .int a1)]) hx hb d_Mo_factor_84 rfl hl (by decide) rfl (fun ls hl => ?_)
      obtain ⟨n, hw⟩ := hw
      exact lp85  n (0 : Int32) M17 N19 _ _ _ hZ hS (lv_sub hl [1, 0] rfl) hw
    · have hw := hw.2 hc
      refine lv_iconst (pc := 60) (v := 0) hx hb d_Mo_factor_60 (by decide) ?_
      exact z_iret hx hb hr hlocks hK hT hZ hS hw d_Mo_factor_61
  have j13 : ∀ (t0 : Int32) (M : zM) (N : zN) (H : Heap) (ls : Array Slot) (locs : List Loc), va_P G.1 zCl (zws G b M N) H → va_S (zA b) s.heap H locs → lv_has ls 3 [(0, .ref (b + 99)), (1, .int a1)] → J_Mo_factor_13 P a1 t0 M N → W p l e (headSpec ws_Mo_factor rm_Mo_factor).room s m ([.ref (b + 99), .int a1] : List Value).toArray below meth c H locs 0 0 (MQ below (zQi G b (fun r M' N' => P r M' N')) ([.ref (b + 99), .int a1] : List Value).toArray s 0 0 (zA b)) (F0 m 13 ls [.int t0, .ref (b + 99)]) := by
    intro t0 M N H ls locs hZ hS hl hw
    unfold J_Mo_factor_13 at hw
    refine zp_Mo_78 (pc := 13) hx hb hta hown hK hZ hS d_Mo_factor_13 (fun N4 H locs hN4 hZ hS => ?_)
    have hw := hw N4 hN4
    refine lv_aload_n (pc := 16) hx hb d_Mo_factor_16 rfl (lv_at hl 0 rfl) ?_
    refine zg_Mo_78 (pc := 17) hx hb hta hown hK hZ d_Mo_factor_17 ?_
    refine lv_if_le (pc := 20) (tgt := 25) hx hb d_Mo_factor_20 (by decide) (fun hc => ?_) (fun hc => ?_)
    · have hw := hw.1 hc
      refine lv_aload_n (pc := 25) hx hb d_Mo_factor_25 rfl (lv_at hl 0 rfl) ?_
      refine lv_iload_n (pc := 26) hx hb d_Mo_factor_26 rfl (lv_at hl 1 rfl) ?_
      refine lv_aload_n (pc := 27) hx hb d_Mo_factor_27 rfl (lv_at hl 0 rfl) ?_
      refine zg_Mo_29 (pc := 28) hx hb hta hown hK hZ d_Mo_factor_28 ?_
      refine z_callv (pc := 31) (va_runV (C := R_Mo) (b := b + 99) (As := [.int a1, .ref (b + 106)]) (rest := []) ⟨hx, hb, hml, hown, hts⟩ (c_Mo_load l G b a1 106 M N4 hw) (cwV 2 hts (z_good (zgV wd810 wd812 wsel18 wd7 wd813)) rfl rfl rfl ⟨rfl, hd_Mo_load⟩ ⟨Nat.le_of_ble_eq_true rfl, Nat.le_of_ble_eq_true rfl⟩) (z_preV zo_Mo rfl rfl hZ hK hT hS) rfl rfl hl.1 rfl (lv_room (Nat.le_of_ble_eq_true rfl)) d_Mo_factor_31 ⟨Nat.le_of_ble_eq_true rfl, Nat.le_of_ble_eq_true rfl⟩) hS (fun M6 N7 H locs hw hZ hS => ?_)
      obtain ⟨hw, eN7⟩ := hw
      rw [eN7] at hZ
      refine lv_aload_n (pc := 34) hx hb d_Mo_factor_34 rfl (lv_at hl 0 rfl) ?_
      refine lv_aload_n (pc := 35) hx hb d_Mo_factor_35 rfl (lv_at hl 0 rfl) ?_
      refine zg_Mo_29 (pc := 36) hx hb hta hown hK hZ d_Mo_factor_36 ?_
      refine z_calli (pc := 39) (va_runS (As := [.ref (b + 106)]) (rest := [.ref (b + 99)]) ⟨hx, hb, hml, hown, hts⟩ (c_Mo_degreeOf l G b 106 M6 N4 hw) (va_cwS 1 hts (z_good (zgS wd814 wd815 wd7 wd816)) rfl rfl rfl hd_Mo_degreeOf ⟨Nat.le_of_ble_eq_true rfl, Nat.le_of_ble_eq_true rfl⟩) (z_preS hZ hK hT hS) rfl rfl hl.1 rfl (lv_room (Nat.le_of_ble_eq_true rfl)) d_Mo_factor_39 ⟨Nat.le_of_ble_eq_true rfl, Nat.le_of_ble_eq_true rfl⟩) hS (fun r8 M9 N10 H locs hw hZ hS => ?_)
      obtain ⟨hw, eM9, eN10⟩ := hw
      rw [eM9, eN10] at hZ
      refine lv_if_ge (pc := 42) (tgt := 49) hx hb d_Mo_factor_42 (by decide) (fun hc => ?_) (fun hc => ?_)
      · have hw := hw.1 hc
        refine lv_iconst (pc := 49) (v := 0) hx hb d_Mo_factor_49 (by decide) ?_
        exact j50 (0 : Int32) M6 N4 _ _ _ hZ hS hl hw
      · have hw := hw.2 hc
        refine lv_iconst (pc := 45) (v := 2) hx hb d_Mo_factor_45 (by decide) ?_
        refine lv_goto (pc := 46) (tgt := 50) hx hb d_Mo_factor_46 (by decide) ?_
        exact j50 (2 : Int32) M6 N4 _ _ _ hZ hS hl hw
    · have hw := hw.2 hc
      refine lv_iconst (pc := 23) (v := 0) hx hb d_Mo_factor_23 (by decide) ?_
      exact z_iret hx hb hr hlocks hK hT hZ hS hw d_Mo_factor_24
  unfold w_Mo_factor at hw
  refine lv_aload_n (pc := 0) hx hb d_Mo_factor_0 rfl (lv_at hl 0 rfl) ?_
  refine lv_iload_n (pc := 1) hx hb d_Mo_factor_1 rfl (lv_at hl 1 rfl) ?_
  refine z_calli (pc := 2) (va_runS (As := [.int a1]) (rest := [.ref (b + 99)]) ⟨hx, hb, hml, hown, hts⟩ (c_Mo_isRegister l G b a1 M N hw) (va_cwS 1 hts (z_good (zgS wd805 wd806 wd7 wd807)) rfl rfl rfl hd_Mo_isRegister ⟨Nat.le_of_ble_eq_true rfl, Nat.le_of_ble_eq_true rfl⟩) (z_preS hZ hK hT hS) rfl rfl hl.1 rfl (lv_room (Nat.le_of_ble_eq_true rfl)) d_Mo_factor_2 ⟨Nat.le_of_ble_eq_true rfl, Nat.le_of_ble_eq_true rfl⟩) hS (fun r1 M2 N3 H locs hw hZ hS => ?_)
  obtain ⟨hw, eM2, eN3⟩ := hw
  rw [eM2, eN3] at hZ
  refine lv_if_eq (pc := 5) (tgt := 12) hx hb d_Mo_factor_5 (by decide) (fun hc => ?_) (fun hc => ?_)
  · have hw := hw.1 hc
    refine lv_iconst (pc := 12) (v := 1) hx hb d_Mo_factor_12 (by decide) ?_
    exact j13 (1 : Int32) M N _ _ _ hZ hS hl hw
  · have hw := hw.2 hc
    refine lv_iconst (pc := 8) (v := 0) hx hb d_Mo_factor_8 (by decide) ?_
    refine lv_goto (pc := 9) (tgt := 13) hx hb d_Mo_factor_9 (by decide) ?_
    exact j13 (0 : Int32) M N _ _ _ hZ hS hl hw
theorem zg_Mo_225 {p : Program} {l : Launch} {e : Env} {R : Room} {s : State} {m : MethodId} {args : Array Value} {below : List Frame} {meth : Method} {c : Code} {H : Heap} {locs : List Loc} {cells slots : Nat} {Q : State → Prop} {cc : ByteArray} {pc : Nat} {ls : Array Slot} {rest : List Value} {G : zG} {b : Nat} {M : zM} {N : zN} (hx : p.tables.exec = Jvm.exec) (hb : c.code = cc) (hta : ∀ w ∈ zall, w.before args s = true) (hown : s.vm.findClass R_Mo = some m.cls) (hK : va_K G.1 zCl (zty G) s) (hZ : va_P G.1 zCl (zws G b M N) H) (hdg : decode cc pc = .ok (.getfield 225, 3)) (kk : W p l e R s m args below meth c H locs cells slots Q (F0 m (pc + 3) ls (.int (N 99 2) :: rest))) : W p l e R s m args below meth c H locs cells slots Q (F0 m pc ls (.ref (b + 99) :: rest)) :=
  va_get (D := G.1) (ci := 6) (v := .int (N 99 2)) (C := R_Mo) (T := T_Mo) (N := 23) hx hb hta hin_Mo hown hK hZ 99 zo_Mo rfl 2 (by decide) (hta _ wd729) (fun _ h9 => h9) rfl hdg kk
theorem d_Mo_unit_0 : decode prog_10_method_50_code 0 = .ok (.aload_n 0, 1) := by decide +kernel
theorem d_Mo_unit_1 : decode prog_10_method_50_code 1 = .ok (.iconst 0, 1) := by decide +kernel
theorem d_Mo_unit_2 : decode prog_10_method_50_code 2 = .ok (.putfield 78, 3) := by decide +kernel
theorem d_Mo_unit_5 : decode prog_10_method_50_code 5 = .ok (.aload_n 0, 1) := by decide +kernel
theorem d_Mo_unit_6 : decode prog_10_method_50_code 6 = .ok (.getfield 225, 3) := by decide +kernel
theorem d_Mo_unit_9 : decode prog_10_method_50_code 9 = .ok (.ireturn, 1) := by decide +kernel
def w_Mo_unit  (N : zN) (P : Int32 → zN → Prop) : Prop := ∀ N1 : zN, N1 = zpui N 99 0 (0 : Int32) → P (N1 99 2) N1
def ws_Mo_unit : List Cond := .code y_Mo_unit prog_10_method_50_code 1 (Option.some Jvm.ClassFile.FieldType.int) :: zall
def rm_Mo_unit : Room := { frames := 0, cells := 0, slots := 0, locals := 0 }
theorem hd_Mo_unit : y_Mo_unit.cls ≠ "java/lang/invoke/MethodHandle" ∧ y_Mo_unit.cls ≠ "java/lang/invoke/VarHandle" ∧ (parseMethodDescriptor y_Mo_unit.desc).map (fun d => d.parameters.length) = some 0 := by decide +kernel
set_option maxHeartbeats 4000000 in
set_option maxRecDepth 100000 in
theorem c_Mo_unit (l : Launch) (G : zG) (b : Nat)  (M : zM) (N : zN) {P : Int32 → zN → Prop} (hw : w_Mo_unit  N P) : Met l y_Mo_unit ws_Mo_unit rm_Mo_unit (zPc G b M N [.ref (b + 99)]) (zQi G b (fun r M' N' => P r N' ∧ M' = M)) 0 0 (zA b) := by
  refine Met.ofW (cc := prog_10_method_50_code) (maxL := 1) (ret := (Option.some Jvm.ClassFile.FieldType.int)) (by decide) rfl ?_
  intro p e s m args below meth c s₁ B hml hv
  obtain ⟨rfl, hZ, hK, hT⟩ := hv
  have hx := B.exec
  have hb := B.bytes
  have hr := B.returns
  have hts := atoms_spec (ws := ws_Mo_unit) B.pre
  have hta : ∀ w ∈ zall, w.before ([.ref (b + 99)] : List Value).toArray s = true := fun w h => hts w (List.mem_cons_of_mem _ h)
  have hown : s.vm.findClass R_Mo = some m.cls := findClass_of_methodNamed B.named
  have hlocks := B.notSynchronized
  have hS : va_S (zA b) s.heap s.heap [] := va_S.rf
  have hl := lv_entry ([.ref (b + 99)]) (n := 1) (Nat.le_of_ble_eq_true rfl)
  rw [lg_entry_eq]
  generalize (lg_sl ([.ref (b + 99)]) ++ List.replicate (1 - (lg_sl ([.ref (b + 99)])).length) Slot.unset).toArray = ls at hl ⊢
  have hl : lv_has ls 1 [(0, .ref (b + 99))] := hl
  unfold w_Mo_unit at hw
  refine lv_aload_n (pc := 0) hx hb d_Mo_unit_0 rfl (lv_at hl 0 rfl) ?_
  refine lv_iconst (pc := 1) (v := 0) hx hb d_Mo_unit_1 (by decide) ?_
  refine zp_Mo_78 (pc := 2) hx hb hta hown hK hZ hS d_Mo_unit_2 (fun N1 H locs hN1 hZ hS => ?_)
  have hw := hw N1 hN1
  refine lv_aload_n (pc := 5) hx hb d_Mo_unit_5 rfl (lv_at hl 0 rfl) ?_
  refine zg_Mo_225 (pc := 6) hx hb hta hown hK hZ d_Mo_unit_6 ?_
  exact z_iret hx hb hr hlocks hK hT hZ hS ⟨hw, rfl⟩ d_Mo_unit_9
theorem d_Mo_noFactor_0 : decode prog_10_method_51_code 0 = .ok (.iload_n 1, 1) := by decide +kernel
theorem d_Mo_noFactor_1 : decode prog_10_method_51_code 1 = .ok (.ifCond .lt 11, 3) := by decide +kernel
theorem d_Mo_noFactor_4 : decode prog_10_method_51_code 4 = .ok (.iload_n 1, 1) := by decide +kernel
theorem d_Mo_noFactor_5 : decode prog_10_method_51_code 5 = .ok (.aload_n 0, 1) := by decide +kernel
theorem d_Mo_noFactor_6 : decode prog_10_method_51_code 6 = .ok (.getfield 231, 3) := by decide +kernel
theorem d_Mo_noFactor_9 : decode prog_10_method_51_code 9 = .ok (.if_icmp .lt 7, 3) := by decide +kernel
theorem d_Mo_noFactor_12 : decode prog_10_method_51_code 12 = .ok (.iconst 1, 1) := by decide +kernel
theorem d_Mo_noFactor_13 : decode prog_10_method_51_code 13 = .ok (.goto 4, 3) := by decide +kernel
theorem d_Mo_noFactor_16 : decode prog_10_method_51_code 16 = .ok (.iconst 0, 1) := by decide +kernel
theorem d_Mo_noFactor_17 : decode prog_10_method_51_code 17 = .ok (.ireturn, 1) := by decide +kernel
def w_Mo_noFactor (a1 : Int32) (N : zN) (P : Int32 → Prop) : Prop := (a1 < 0 → narrow .boolean (.int (1 : Int32)) = .int (1 : Int32) ∧ P (1 : Int32)) ∧ (¬ a1 < 0 → (a1 < (N 99 3) → narrow .boolean (.int (0 : Int32)) = .int (0 : Int32) ∧ P (0 : Int32)) ∧ (¬ a1 < (N 99 3) → narrow .boolean (.int (1 : Int32)) = .int (1 : Int32) ∧ P (1 : Int32)))
def ws_Mo_noFactor : List Cond := .code y_Mo_noFactor prog_10_method_51_code 2 (Option.some Jvm.ClassFile.FieldType.boolean) :: zall
def rm_Mo_noFactor : Room := { frames := 0, cells := 0, slots := 0, locals := 0 }
theorem hd_Mo_noFactor : y_Mo_noFactor.cls ≠ "java/lang/invoke/MethodHandle" ∧ y_Mo_noFactor.cls ≠ "java/lang/invoke/VarHandle" ∧ (parseMethodDescriptor y_Mo_noFactor.desc).map (fun d => d.parameters.length) = some 1 := by decide +kernel
set_option maxHeartbeats 4000000 in
set_option maxRecDepth 100000 in
theorem c_Mo_noFactor (l : Launch) (G : zG) (b : Nat) (a1 : Int32) (M : zM) (N : zN) {P : Int32 → Prop} (hw : w_Mo_noFactor a1 N P) : Met l y_Mo_noFactor ws_Mo_noFactor rm_Mo_noFactor (zPc G b M N [.ref (b + 99), .int a1]) (zQi G b (fun r M' N' => P r ∧ M' = M ∧ N' = N)) 0 0 (zA b) := by
  refine Met.ofW (cc := prog_10_method_51_code) (maxL := 2) (ret := (Option.some Jvm.ClassFile.FieldType.boolean)) (by decide) rfl ?_
  intro p e s m args below meth c s₁ B hml hv
  obtain ⟨rfl, hZ, hK, hT⟩ := hv
  have hx := B.exec
  have hb := B.bytes
  have hr := B.returns
  have hts := atoms_spec (ws := ws_Mo_noFactor) B.pre
  have hta : ∀ w ∈ zall, w.before ([.ref (b + 99), .int a1] : List Value).toArray s = true := fun w h => hts w (List.mem_cons_of_mem _ h)
  have hown : s.vm.findClass R_Mo = some m.cls := findClass_of_methodNamed B.named
  have hlocks := B.notSynchronized
  have hS : va_S (zA b) s.heap s.heap [] := va_S.rf
  have hl := lv_entry ([.ref (b + 99), .int a1]) (n := 2) (Nat.le_of_ble_eq_true rfl)
  rw [lg_entry_eq]
  generalize (lg_sl ([.ref (b + 99), .int a1]) ++ List.replicate (2 - (lg_sl ([.ref (b + 99), .int a1])).length) Slot.unset).toArray = ls at hl ⊢
  have hl : lv_has ls 2 [(0, .ref (b + 99)), (1, .int a1)] := hl
  unfold w_Mo_noFactor at hw
  refine lv_iload_n (pc := 0) hx hb d_Mo_noFactor_0 rfl (lv_at hl 1 rfl) ?_
  refine lv_if_lt (pc := 1) (tgt := 12) hx hb d_Mo_noFactor_1 (by decide) (fun hc => ?_) (fun hc => ?_)
  · have hw := hw.1 hc
    refine lv_iconst (pc := 12) (v := 1) hx hb d_Mo_noFactor_12 (by decide) ?_
    refine lv_goto (pc := 13) (tgt := 17) hx hb d_Mo_noFactor_13 (by decide) ?_
    exact z_zret hx hb hr hlocks hK hT hZ hS ⟨hw.1, ⟨hw.2, rfl, rfl⟩⟩ d_Mo_noFactor_17
  · have hw := hw.2 hc
    refine lv_iload_n (pc := 4) hx hb d_Mo_noFactor_4 rfl (lv_at hl 1 rfl) ?_
    refine lv_aload_n (pc := 5) hx hb d_Mo_noFactor_5 rfl (lv_at hl 0 rfl) ?_
    refine zg_Mo_231 (pc := 6) hx hb hta hown hK hZ d_Mo_noFactor_6 ?_
    refine lv_icmp_lt (pc := 9) (tgt := 16) hx hb d_Mo_noFactor_9 (by decide) (fun hc => ?_) (fun hc => ?_)
    · have hw := hw.1 hc
      refine lv_iconst (pc := 16) (v := 0) hx hb d_Mo_noFactor_16 (by decide) ?_
      exact z_zret hx hb hr hlocks hK hT hZ hS ⟨hw.1, ⟨hw.2, rfl, rfl⟩⟩ d_Mo_noFactor_17
    · have hw := hw.2 hc
      refine lv_iconst (pc := 12) (v := 1) hx hb d_Mo_noFactor_12 (by decide) ?_
      refine lv_goto (pc := 13) (tgt := 17) hx hb d_Mo_noFactor_13 (by decide) ?_
      exact z_zret hx hb hr hlocks hK hT hZ hS ⟨hw.1, ⟨hw.2, rfl, rfl⟩⟩ d_Mo_noFactor_17
theorem wsel39 : Cond.selects R_Mo y_Mo_noFactor y_Mo_noFactor ∈ zall := List.mem_filter.mpr ⟨List.mem_append_left _ (List.mem_of_getElem? (i := 39) rfl), by decide +kernel⟩
theorem d_Mo_multiplicity_0 : decode prog_10_method_52_code 0 = .ok (.aload_n 0, 1) := by decide +kernel
theorem d_Mo_multiplicity_1 : decode prog_10_method_52_code 1 = .ok (.aload_n 0, 1) := by decide +kernel
theorem d_Mo_multiplicity_2 : decode prog_10_method_52_code 2 = .ok (.iload_n 1, 1) := by decide +kernel
theorem d_Mo_multiplicity_3 : decode prog_10_method_52_code 3 = .ok (.invokevirtual 237, 3) := by decide +kernel
theorem d_Mo_multiplicity_6 : decode prog_10_method_52_code 6 = .ok (.ifCond .eq 7, 3) := by decide +kernel
theorem d_Mo_multiplicity_9 : decode prog_10_method_52_code 9 = .ok (.iconst 1, 1) := by decide +kernel
theorem d_Mo_multiplicity_10 : decode prog_10_method_52_code 10 = .ok (.goto 4, 3) := by decide +kernel
theorem d_Mo_multiplicity_13 : decode prog_10_method_52_code 13 = .ok (.iconst 0, 1) := by decide +kernel
theorem d_Mo_multiplicity_14 : decode prog_10_method_52_code 14 = .ok (.putfield 78, 3) := by decide +kernel
theorem d_Mo_multiplicity_17 : decode prog_10_method_52_code 17 = .ok (.aload_n 0, 1) := by decide +kernel
theorem d_Mo_multiplicity_18 : decode prog_10_method_52_code 18 = .ok (.getfield 78, 3) := by decide +kernel
theorem d_Mo_multiplicity_21 : decode prog_10_method_52_code 21 = .ok (.ifCond .le 7, 3) := by decide +kernel
theorem d_Mo_multiplicity_24 : decode prog_10_method_52_code 24 = .ok (.iconst 0, 1) := by decide +kernel
theorem d_Mo_multiplicity_25 : decode prog_10_method_52_code 25 = .ok (.goto 9, 3) := by decide +kernel
theorem d_Mo_multiplicity_28 : decode prog_10_method_52_code 28 = .ok (.aload_n 0, 1) := by decide +kernel
theorem d_Mo_multiplicity_29 : decode prog_10_method_52_code 29 = .ok (.getfield 13, 3) := by decide +kernel
theorem d_Mo_multiplicity_32 : decode prog_10_method_52_code 32 = .ok (.iload_n 1, 1) := by decide +kernel
theorem d_Mo_multiplicity_33 : decode prog_10_method_52_code 33 = .ok (.iaload, 1) := by decide +kernel
theorem d_Mo_multiplicity_34 : decode prog_10_method_52_code 34 = .ok (.ireturn, 1) := by decide +kernel
def J_Mo_multiplicity_14 (P : Int32 → zN → Prop) (a1 : Int32) (t0 : Int32) (N : zN) : Prop := ∀ N4 : zN, N4 = zpui N 99 0 t0 → ((N4 99 0) ≤ 0 → vp_in a1 (zint 101) ∧ P (N4 101 a1.toNatClampNeg) N4) ∧ (¬ (N4 99 0) ≤ 0 → P (0 : Int32) N4)
def w_Mo_multiplicity (a1 : Int32) (N : zN) (P : Int32 → zN → Prop) : Prop := w_Mo_noFactor a1 N (fun r1 => (r1 = 0 → J_Mo_multiplicity_14 P a1 (0 : Int32) N) ∧ (¬ r1 = 0 → J_Mo_multiplicity_14 P a1 (1 : Int32) N))
def ws_Mo_multiplicity : List Cond := .code y_Mo_multiplicity prog_10_method_52_code 2 (Option.some Jvm.ClassFile.FieldType.int) :: zall
def rm_Mo_multiplicity : Room := { frames := 1, cells := 0, slots := 0, locals := 21 }
theorem hd_Mo_multiplicity : y_Mo_multiplicity.cls ≠ "java/lang/invoke/MethodHandle" ∧ y_Mo_multiplicity.cls ≠ "java/lang/invoke/VarHandle" ∧ (parseMethodDescriptor y_Mo_multiplicity.desc).map (fun d => d.parameters.length) = some 1 := by decide +kernel
set_option maxHeartbeats 4000000 in
set_option maxRecDepth 100000 in
theorem c_Mo_multiplicity (l : Launch) (G : zG) (b : Nat) (a1 : Int32) (M : zM) (N : zN) {P : Int32 → zN → Prop} (hw : w_Mo_multiplicity a1 N P) : Met l y_Mo_multiplicity ws_Mo_multiplicity rm_Mo_multiplicity (zPc G b M N [.ref (b + 99), .int a1]) (zQi G b (fun r M' N' => P r N' ∧ M' = M)) 0 0 (zA b) := by
  refine Met.ofW (cc := prog_10_method_52_code) (maxL := 2) (ret := (Option.some Jvm.ClassFile.FieldType.int)) (by decide) rfl ?_
  intro p e s m args below meth c s₁ B hml hv
  obtain ⟨rfl, hZ, hK, hT⟩ := hv
  have hx := B.exec
  have hb := B.bytes
  have hr := B.returns
  have hts := atoms_spec (ws := ws_Mo_multiplicity) B.pre
  have hta : ∀ w ∈ zall, w.before ([.ref (b + 99), .int a1] : List Value).toArray s = true := fun w h => hts w (List.mem_cons_of_mem _ h)
  have hown : s.vm.findClass R_Mo = some m.cls := findClass_of_methodNamed B.named
  have hlocks := B.notSynchronized
  have hS : va_S (zA b) s.heap s.heap [] := va_S.rf
  have hl := lv_entry ([.ref (b + 99), .int a1]) (n := 2) (Nat.le_of_ble_eq_true rfl)
  rw [lg_entry_eq]
  generalize (lg_sl ([.ref (b + 99), .int a1]) ++ List.replicate (2 - (lg_sl ([.ref (b + 99), .int a1])).length) Slot.unset).toArray = ls at hl ⊢
  have hl : lv_has ls 2 [(0, .ref (b + 99)), (1, .int a1)] := hl
  have j14 : ∀ (t0 : Int32) (N : zN) (H : Heap) (ls : Array Slot) (locs : List Loc), va_P G.1 zCl (zws G b M N) H → va_S (zA b) s.heap H locs → lv_has ls 2 [(0, .ref (b + 99)), (1, .int a1)] → J_Mo_multiplicity_14 P a1 t0 N → W p l e (headSpec ws_Mo_multiplicity rm_Mo_multiplicity).room s m ([.ref (b + 99), .int a1] : List Value).toArray below meth c H locs 0 0 (MQ below (zQi G b (fun r M' N' => P r N' ∧ M' = M)) ([.ref (b + 99), .int a1] : List Value).toArray s 0 0 (zA b)) (F0 m 14 ls [.int t0, .ref (b + 99)]) := by
    intro t0 N H ls locs hZ hS hl hw
    unfold J_Mo_multiplicity_14 at hw
    refine zp_Mo_78 (pc := 14) hx hb hta hown hK hZ hS d_Mo_multiplicity_14 (fun N4 H locs hN4 hZ hS => ?_)
    have hw := hw N4 hN4
    refine lv_aload_n (pc := 17) hx hb d_Mo_multiplicity_17 rfl (lv_at hl 0 rfl) ?_
    refine zg_Mo_78 (pc := 18) hx hb hta hown hK hZ d_Mo_multiplicity_18 ?_
    refine lv_if_le (pc := 21) (tgt := 28) hx hb d_Mo_multiplicity_21 (by decide) (fun hc => ?_) (fun hc => ?_)
    · have hw := hw.1 hc
      refine lv_aload_n (pc := 28) hx hb d_Mo_multiplicity_28 rfl (lv_at hl 0 rfl) ?_
      refine zg_Mo_13 (pc := 29) hx hb hta hown hK hZ d_Mo_multiplicity_29 ?_
      refine lv_iload_n (pc := 32) hx hb d_Mo_multiplicity_32 rfl (lv_at hl 1 rfl) ?_
      obtain ⟨hc, hw⟩ := hw
      refine z_iald (pc := 33) hx hb hK hZ hc d_Mo_multiplicity_33 ?_
      exact z_iret hx hb hr hlocks hK hT hZ hS ⟨hw, rfl⟩ d_Mo_multiplicity_34
    · have hw := hw.2 hc
      refine lv_iconst (pc := 24) (v := 0) hx hb d_Mo_multiplicity_24 (by decide) ?_
      refine lv_goto (pc := 25) (tgt := 34) hx hb d_Mo_multiplicity_25 (by decide) ?_
      exact z_iret hx hb hr hlocks hK hT hZ hS ⟨hw, rfl⟩ d_Mo_multiplicity_34
  unfold w_Mo_multiplicity at hw
  refine lv_aload_n (pc := 0) hx hb d_Mo_multiplicity_0 rfl (lv_at hl 0 rfl) ?_
  refine lv_aload_n (pc := 1) hx hb d_Mo_multiplicity_1 rfl (lv_at hl 0 rfl) ?_
  refine lv_iload_n (pc := 2) hx hb d_Mo_multiplicity_2 rfl (lv_at hl 1 rfl) ?_
  refine z_calli (pc := 3) (va_runV (C := R_Mo) (b := b + 99) (As := [.int a1]) (rest := [.ref (b + 99)]) ⟨hx, hb, hml, hown, hts⟩ (c_Mo_noFactor l G b a1 M N hw) (cwV 1 hts (z_good (zgV wd991 wd993 wsel39 wd7 wd994)) rfl rfl rfl ⟨rfl, hd_Mo_noFactor⟩ ⟨Nat.le_of_ble_eq_true rfl, Nat.le_of_ble_eq_true rfl⟩) (z_preV zo_Mo rfl rfl hZ hK hT hS) rfl rfl hl.1 rfl (lv_room (Nat.le_of_ble_eq_true rfl)) d_Mo_multiplicity_3 ⟨Nat.le_of_ble_eq_true rfl, Nat.le_of_ble_eq_true rfl⟩) hS (fun r1 M2 N3 H locs hw hZ hS => ?_)
  obtain ⟨hw, eM2, eN3⟩ := hw
  rw [eM2, eN3] at hZ
  refine lv_if_eq (pc := 6) (tgt := 13) hx hb d_Mo_multiplicity_6 (by decide) (fun hc => ?_) (fun hc => ?_)
  · have hw := hw.1 hc
    refine lv_iconst (pc := 13) (v := 0) hx hb d_Mo_multiplicity_13 (by decide) ?_
    exact j14 (0 : Int32) N _ _ _ hZ hS hl hw
  · have hw := hw.2 hc
    refine lv_iconst (pc := 9) (v := 1) hx hb d_Mo_multiplicity_9 (by decide) ?_
    refine lv_goto (pc := 10) (tgt := 14) hx hb d_Mo_multiplicity_10 (by decide) ?_
    exact j14 (1 : Int32) N _ _ _ hZ hS hl hw
theorem d_Mo_factorAt_0 : decode prog_10_method_53_code 0 = .ok (.aload_n 0, 1) := by decide +kernel
theorem d_Mo_factorAt_1 : decode prog_10_method_53_code 1 = .ok (.aload_n 0, 1) := by decide +kernel
theorem d_Mo_factorAt_2 : decode prog_10_method_53_code 2 = .ok (.iload_n 1, 1) := by decide +kernel
theorem d_Mo_factorAt_3 : decode prog_10_method_53_code 3 = .ok (.invokevirtual 237, 3) := by decide +kernel
theorem d_Mo_factorAt_6 : decode prog_10_method_53_code 6 = .ok (.ifCond .eq 7, 3) := by decide +kernel
theorem d_Mo_factorAt_9 : decode prog_10_method_53_code 9 = .ok (.iconst 1, 1) := by decide +kernel
theorem d_Mo_factorAt_10 : decode prog_10_method_53_code 10 = .ok (.goto 4, 3) := by decide +kernel
theorem d_Mo_factorAt_13 : decode prog_10_method_53_code 13 = .ok (.iconst 0, 1) := by decide +kernel
theorem d_Mo_factorAt_14 : decode prog_10_method_53_code 14 = .ok (.putfield 78, 3) := by decide +kernel
theorem d_Mo_factorAt_17 : decode prog_10_method_53_code 17 = .ok (.aload_n 0, 1) := by decide +kernel
theorem d_Mo_factorAt_18 : decode prog_10_method_53_code 18 = .ok (.getfield 78, 3) := by decide +kernel
theorem d_Mo_factorAt_21 : decode prog_10_method_53_code 21 = .ok (.ifCond .gt 14, 3) := by decide +kernel
theorem d_Mo_factorAt_24 : decode prog_10_method_53_code 24 = .ok (.iload_n 2, 1) := by decide +kernel
theorem d_Mo_factorAt_25 : decode prog_10_method_53_code 25 = .ok (.iconst (-1), 1) := by decide +kernel
theorem d_Mo_factorAt_26 : decode prog_10_method_53_code 26 = .ok (.if_icmp .lt 9, 3) := by decide +kernel
theorem d_Mo_factorAt_29 : decode prog_10_method_53_code 29 = .ok (.iload_n 2, 1) := by decide +kernel
theorem d_Mo_factorAt_30 : decode prog_10_method_53_code 30 = .ok (.bipush 7, 2) := by decide +kernel
theorem d_Mo_factorAt_32 : decode prog_10_method_53_code 32 = .ok (.if_icmp .le 5, 3) := by decide +kernel
theorem d_Mo_factorAt_35 : decode prog_10_method_53_code 35 = .ok (.iconst 0, 1) := by decide +kernel
theorem d_Mo_factorAt_36 : decode prog_10_method_53_code 36 = .ok (.ireturn, 1) := by decide +kernel
theorem d_Mo_factorAt_37 : decode prog_10_method_53_code 37 = .ok (.bipush 7, 2) := by decide +kernel
theorem d_Mo_factorAt_39 : decode prog_10_method_53_code 39 = .ok (.istore_n 3, 1) := by decide +kernel
theorem d_Mo_factorAt_40 : decode prog_10_method_53_code 40 = .ok (.aload_n 0, 1) := by decide +kernel
theorem d_Mo_factorAt_41 : decode prog_10_method_53_code 41 = .ok (.getfield 16, 3) := by decide +kernel
theorem d_Mo_factorAt_44 : decode prog_10_method_53_code 44 = .ok (.bipush 8, 2) := by decide +kernel
theorem d_Mo_factorAt_46 : decode prog_10_method_53_code 46 = .ok (.iload_n 1, 1) := by decide +kernel
theorem d_Mo_factorAt_47 : decode prog_10_method_53_code 47 = .ok (.imul, 1) := by decide +kernel
theorem d_Mo_factorAt_48 : decode prog_10_method_53_code 48 = .ok (.iload_n 3, 1) := by decide +kernel
theorem d_Mo_factorAt_49 : decode prog_10_method_53_code 49 = .ok (.iadd, 1) := by decide +kernel
theorem d_Mo_factorAt_50 : decode prog_10_method_53_code 50 = .ok (.laload, 1) := by decide +kernel
theorem d_Mo_factorAt_51 : decode prog_10_method_53_code 51 = .ok (.lconst 0, 1) := by decide +kernel
theorem d_Mo_factorAt_52 : decode prog_10_method_53_code 52 = .ok (.lcmp, 1) := by decide +kernel
theorem d_Mo_factorAt_53 : decode prog_10_method_53_code 53 = .ok (.ifCond .ne 9, 3) := by decide +kernel
theorem d_Mo_factorAt_56 : decode prog_10_method_53_code 56 = .ok (.iinc 3 (-1), 3) := by decide +kernel
theorem d_Mo_factorAt_59 : decode prog_10_method_53_code 59 = .ok (.goto (-19), 3) := by decide +kernel
theorem d_Mo_factorAt_62 : decode prog_10_method_53_code 62 = .ok (.iload_n 2, 1) := by decide +kernel
theorem d_Mo_factorAt_63 : decode prog_10_method_53_code 63 = .ok (.ifCond .ge 7, 3) := by decide +kernel
theorem d_Mo_factorAt_66 : decode prog_10_method_53_code 66 = .ok (.iload_n 3, 1) := by decide +kernel
theorem d_Mo_factorAt_67 : decode prog_10_method_53_code 67 = .ok (.goto 15, 3) := by decide +kernel
theorem d_Mo_factorAt_70 : decode prog_10_method_53_code 70 = .ok (.aload_n 0, 1) := by decide +kernel
theorem d_Mo_factorAt_71 : decode prog_10_method_53_code 71 = .ok (.getfield 16, 3) := by decide +kernel
theorem d_Mo_factorAt_74 : decode prog_10_method_53_code 74 = .ok (.bipush 8, 2) := by decide +kernel
theorem d_Mo_factorAt_76 : decode prog_10_method_53_code 76 = .ok (.iload_n 1, 1) := by decide +kernel
theorem d_Mo_factorAt_77 : decode prog_10_method_53_code 77 = .ok (.imul, 1) := by decide +kernel
theorem d_Mo_factorAt_78 : decode prog_10_method_53_code 78 = .ok (.iload_n 2, 1) := by decide +kernel
theorem d_Mo_factorAt_79 : decode prog_10_method_53_code 79 = .ok (.iadd, 1) := by decide +kernel
theorem d_Mo_factorAt_80 : decode prog_10_method_53_code 80 = .ok (.laload, 1) := by decide +kernel
theorem d_Mo_factorAt_81 : decode prog_10_method_53_code 81 = .ok (.l2i, 1) := by decide +kernel
theorem d_Mo_factorAt_82 : decode prog_10_method_53_code 82 = .ok (.ireturn, 1) := by decide +kernel
def B_Mo_factorAt_40 (P : Int32 → zN → Prop) (a1 : Int32) (a2 : Int32) (M : zM) (N : zN) (k40 : Int32 → Prop) (v3 : Int32) : Prop := vp_in (((8 : Int32) * a1) + v3) (zlong 102) ∧ (¬ (M 102 (((8 : Int32) * a1) + v3).toNatClampNeg) = (0 : Int64) → (0 ≤ a2 → vp_in (((8 : Int32) * a1) + a2) (zlong 102) ∧ P ((M 102 (((8 : Int32) * a1) + a2).toNatClampNeg).toInt32) N) ∧ (¬ 0 ≤ a2 → P v3 N)) ∧ ((M 102 (((8 : Int32) * a1) + v3).toNatClampNeg) = (0 : Int64) → k40 (v3 + (-1 : Int32)))
def L_Mo_factorAt_40 (P : Int32 → zN → Prop) (a1 : Int32) (a2 : Int32) (M : zM) (N : zN) (n : Nat) : Int32 → Prop := Nat.rec (fun _ => False) (fun _ k => B_Mo_factorAt_40 P a1 a2 M N k) n
def J_Mo_factorAt_14 (P : Int32 → zN → Prop) (a1 : Int32) (a2 : Int32) (t0 : Int32) (M : zM) (N : zN) : Prop := ∀ N4 : zN, N4 = zpui N 99 0 t0 → (0 < (N4 99 0) → P (0 : Int32) N4) ∧ (¬ 0 < (N4 99 0) → (a2 < (-1 : Int32) → P (0 : Int32) N4) ∧ (¬ a2 < (-1 : Int32) → (a2 ≤ (7 : Int32) → ∃ n, L_Mo_factorAt_40 P a1 a2 M N4 n (7 : Int32)) ∧ (¬ a2 ≤ (7 : Int32) → P (0 : Int32) N4)))
def w_Mo_factorAt (a1 : Int32) (a2 : Int32) (M : zM) (N : zN) (P : Int32 → zN → Prop) : Prop := w_Mo_noFactor a1 N (fun r1 => (r1 = 0 → J_Mo_factorAt_14 P a1 a2 (0 : Int32) M N) ∧ (¬ r1 = 0 → J_Mo_factorAt_14 P a1 a2 (1 : Int32) M N))
def ws_Mo_factorAt : List Cond := .code y_Mo_factorAt prog_10_method_53_code 4 (Option.some Jvm.ClassFile.FieldType.int) :: zall
def rm_Mo_factorAt : Room := { frames := 1, cells := 0, slots := 0, locals := 21 }
theorem hd_Mo_factorAt : y_Mo_factorAt.cls ≠ "java/lang/invoke/MethodHandle" ∧ y_Mo_factorAt.cls ≠ "java/lang/invoke/VarHandle" ∧ (parseMethodDescriptor y_Mo_factorAt.desc).map (fun d => d.parameters.length) = some 2 := by decide +kernel
set_option maxHeartbeats 4000000 in
set_option maxRecDepth 100000 in
theorem c_Mo_factorAt (l : Launch) (G : zG) (b : Nat) (a1 : Int32) (a2 : Int32) (M : zM) (N : zN) {P : Int32 → zN → Prop} (hw : w_Mo_factorAt a1 a2 M N P) : Met l y_Mo_factorAt ws_Mo_factorAt rm_Mo_factorAt (zPc G b M N [.ref (b + 99), .int a1, .int a2]) (zQi G b (fun r M' N' => P r N' ∧ M' = M)) 0 0 (zA b) := by
  refine Met.ofW (cc := prog_10_method_53_code) (maxL := 4) (ret := (Option.some Jvm.ClassFile.FieldType.int)) (by decide) rfl ?_
  intro p e s m args below meth c s₁ B hml hv
  obtain ⟨rfl, hZ, hK, hT⟩ := hv
  have hx := B.exec
  have hb := B.bytes
  have hr := B.returns
  have hts := atoms_spec (ws := ws_Mo_factorAt) B.pre
  have hta : ∀ w ∈ zall, w.before ([.ref (b + 99), .int a1, .int a2] : List Value).toArray s = true := fun w h => hts w (List.mem_cons_of_mem _ h)
  have hown : s.vm.findClass R_Mo = some m.cls := findClass_of_methodNamed B.named
  have hlocks := B.notSynchronized
  have hS : va_S (zA b) s.heap s.heap [] := va_S.rf
  have hl := lv_entry ([.ref (b + 99), .int a1, .int a2]) (n := 4) (Nat.le_of_ble_eq_true rfl)
  rw [lg_entry_eq]
  generalize (lg_sl ([.ref (b + 99), .int a1, .int a2]) ++ List.replicate (4 - (lg_sl ([.ref (b + 99), .int a1, .int a2])).length) Slot.unset).toArray = ls at hl ⊢
  have hl : lv_has ls 4 [(0, .ref (b + 99)), (1, .int a1), (2, .int a2)] := hl
  have lp40 : ∀ (N : zN) (n : Nat) (v3 : Int32) (H : Heap) (ls : Array Slot) (locs : List Loc), va_P G.1 zCl (zws G b M N) H → va_S (zA b) s.heap H locs → lv_has ls 4 [(0, .ref (b + 99)), (1, .int a1), (2, .int a2), (3, .int v3)] → L_Mo_factorAt_40 P a1 a2 M N n v3 → W p l e (headSpec ws_Mo_factorAt rm_Mo_factorAt).room s m ([.ref (b + 99), .int a1, .int a2] : List Value).toArray below meth c H locs 0 0 (MQ below (zQi G b (fun r M' N' => P r N' ∧ M' = M)) ([.ref (b + 99), .int a1, .int a2] : List Value).toArray s 0 0 (zA b)) (F0 m 40 ls []) := by
    intro N n
    induction n with
    | zero => intro v3 H ls locs hZ hS hl hw; exact False.elim hw
    | succ n40 ih40 =>
      intro v3 H ls locs hZ hS hl hw
      have hw : B_Mo_factorAt_40 P a1 a2 M N (L_Mo_factorAt_40 P a1 a2 M N n40) v3 := hw
      unfold B_Mo_factorAt_40 at hw
      refine lv_aload_n (pc := 40) hx hb d_Mo_factorAt_40 rfl (lv_at hl 0 rfl) ?_
      refine zg_Mo_16 (pc := 41) hx hb hta hown hK hZ d_Mo_factorAt_41 ?_
      refine lv_bipush (pc := 44) (v := 8) hx hb d_Mo_factorAt_44 (by decide) ?_
      refine lv_iload_n (pc := 46) hx hb d_Mo_factorAt_46 rfl (lv_at hl 1 rfl) ?_
      refine lv_imul (pc := 47) hx hb d_Mo_factorAt_47 ?_
      refine lv_iload_n (pc := 48) hx hb d_Mo_factorAt_48 rfl (lv_at hl 3 rfl) ?_
      refine lv_iadd (pc := 49) hx hb d_Mo_factorAt_49 ?_
      obtain ⟨hc, hw⟩ := hw
      refine z_lald (pc := 50) hx hb hK hZ hc d_Mo_factorAt_50 ?_
      refine lv_lconst (pc := 51) (v := 0) hx hb d_Mo_factorAt_51 (by decide) ?_
      refine z_lc_ne (pc := 52) (tgt := 62) hx hb d_Mo_factorAt_52 d_Mo_factorAt_53 (by decide) (fun hc => ?_) (fun hc => ?_)
      · have hw := hw.1 hc
        refine lv_iload_n (pc := 62) hx hb d_Mo_factorAt_62 rfl (lv_at hl 2 rfl) ?_
        refine lv_if_ge (pc := 63) (tgt := 70) hx hb d_Mo_factorAt_63 (by decide) (fun hc => ?_) (fun hc => ?_)
        · have hw := hw.1 hc
          refine lv_aload_n (pc := 70) hx hb d_Mo_factorAt_70 rfl (lv_at hl 0 rfl) ?_
          refine zg_Mo_16 (pc := 71) hx hb hta hown hK hZ d_Mo_factorAt_71 ?_
          refine lv_bipush (pc := 74) (v := 8) hx hb d_Mo_factorAt_74 (by decide) ?_
          refine lv_iload_n (pc := 76) hx hb d_Mo_factorAt_76 rfl (lv_at hl 1 rfl) ?_
          refine lv_imul (pc := 77) hx hb d_Mo_factorAt_77 ?_
          refine lv_iload_n (pc := 78) hx hb d_Mo_factorAt_78 rfl (lv_at hl 2 rfl) ?_
          refine lv_iadd (pc := 79) hx hb d_Mo_factorAt_79 ?_
          obtain ⟨hc, hw⟩ := hw
          refine z_lald (pc := 80) hx hb hK hZ hc d_Mo_factorAt_80 ?_
          refine lv_l2i (pc := 81) (v := (M 102 (((8 : Int32) * a1) + a2).toNatClampNeg).toInt32) hx hb d_Mo_factorAt_81 rfl ?_
          exact z_iret hx hb hr hlocks hK hT hZ hS ⟨hw, rfl⟩ d_Mo_factorAt_82
        · have hw := hw.2 hc
          refine lv_iload_n (pc := 66) hx hb d_Mo_factorAt_66 rfl (lv_at hl 3 rfl) ?_
          refine lv_goto (pc := 67) (tgt := 82) hx hb d_Mo_factorAt_67 (by decide) ?_
          exact z_iret hx hb hr hlocks hK hT hZ hS ⟨hw, rfl⟩ d_Mo_factorAt_82
      · have hw := hw.2 hc
        refine lv_iinc (pc := 56) (k := 3) (v := v3 + (-1 : Int32)) (lv' := [(3, .int (v3 + (-1 : Int32))), (0, .ref (b + 99)), (1, .int a1), (2, .int a2)]) hx hb d_Mo_factorAt_56 hl rfl (by rfl) (by decide) rfl (fun ls hl => ?_)
        refine lv_goto (pc := 59) (tgt := 40) hx hb d_Mo_factorAt_59 (by decide) ?_
        exact ih40 (v3 + (-1 : Int32)) _ _ _ hZ hS (lv_sub hl [1, 2, 3, 0] rfl) hw
  have j14 : ∀ (t0 : Int32) (N : zN) (H : Heap) (ls : Array Slot) (locs : List Loc), va_P G.1 zCl (zws G b M N) H → va_S (zA b) s.heap H locs → lv_has ls 4 [(0, .ref (b + 99)), (1, .int a1), (2, .int a2)] → J_Mo_factorAt_14 P a1 a2 t0 M N → W p l e (headSpec ws_Mo_factorAt rm_Mo_factorAt).room s m ([.ref (b + 99), .int a1, .int a2] : List Value).toArray below meth c H locs 0 0 (MQ below (zQi G b (fun r M' N' => P r N' ∧ M' = M)) ([.ref (b + 99), .int a1, .int a2] : List Value).toArray s 0 0 (zA b)) (F0 m 14 ls [.int t0, .ref (b + 99)]) := by
    intro t0 N H ls locs hZ hS hl hw
    unfold J_Mo_factorAt_14 at hw
    refine zp_Mo_78 (pc := 14) hx hb hta hown hK hZ hS d_Mo_factorAt_14 (fun N4 H locs hN4 hZ hS => ?_)
    have hw := hw N4 hN4
    refine lv_aload_n (pc := 17) hx hb d_Mo_factorAt_17 rfl (lv_at hl 0 rfl) ?_
    refine zg_Mo_78 (pc := 18) hx hb hta hown hK hZ d_Mo_factorAt_18 ?_
    refine lv_if_gt (pc := 21) (tgt := 35) hx hb d_Mo_factorAt_21 (by decide) (fun hc => ?_) (fun hc => ?_)
    · have hw := hw.1 hc
      refine lv_iconst (pc := 35) (v := 0) hx hb d_Mo_factorAt_35 (by decide) ?_
      exact z_iret hx hb hr hlocks hK hT hZ hS ⟨hw, rfl⟩ d_Mo_factorAt_36
    · have hw := hw.2 hc
      refine lv_iload_n (pc := 24) hx hb d_Mo_factorAt_24 rfl (lv_at hl 2 rfl) ?_
      refine lv_iconst (pc := 25) (v := -1) hx hb d_Mo_factorAt_25 (by decide) ?_
      refine lv_icmp_lt (pc := 26) (tgt := 35) hx hb d_Mo_factorAt_26 (by decide) (fun hc => ?_) (fun hc => ?_)
      · have hw := hw.1 hc
        refine lv_iconst (pc := 35) (v := 0) hx hb d_Mo_factorAt_35 (by decide) ?_
        exact z_iret hx hb hr hlocks hK hT hZ hS ⟨hw, rfl⟩ d_Mo_factorAt_36
      · have hw := hw.2 hc
        refine lv_iload_n (pc := 29) hx hb d_Mo_factorAt_29 rfl (lv_at hl 2 rfl) ?_
        refine lv_bipush (pc := 30) (v := 7) hx hb d_Mo_factorAt_30 (by decide) ?_
        refine lv_icmp_le (pc := 32) (tgt := 37) hx hb d_Mo_factorAt_32 (by decide) (fun hc => ?_) (fun hc => ?_)
        · have hw := hw.1 hc
          refine lv_bipush (pc := 37) (v := 7) hx hb d_Mo_factorAt_37 (by decide) ?_
          refine lv_istore_n (pc := 39) (lv' := [(3, .int (7 : Int32)), (0, .ref (b + 99)), (1, .int a1), (2, .int a2)]) hx hb d_Mo_factorAt_39 rfl hl (by decide) rfl (fun ls hl => ?_)
          obtain ⟨n, hw⟩ := hw
          exact lp40 N4 n (7 : Int32) _ _ _ hZ hS (lv_sub hl [1, 2, 3, 0] rfl) hw
        · have hw := hw.2 hc
          refine lv_iconst (pc := 35) (v := 0) hx hb d_Mo_factorAt_35 (by decide) ?_
          exact z_iret hx hb hr hlocks hK hT hZ hS ⟨hw, rfl⟩ d_Mo_factorAt_36
  unfold w_Mo_factorAt at hw
  refine lv_aload_n (pc := 0) hx hb d_Mo_factorAt_0 rfl (lv_at hl 0 rfl) ?_
  refine lv_aload_n (pc := 1) hx hb d_Mo_factorAt_1 rfl (lv_at hl 0 rfl) ?_
  refine lv_iload_n (pc := 2) hx hb d_Mo_factorAt_2 rfl (lv_at hl 1 rfl) ?_
  refine z_calli (pc := 3) (va_runV (C := R_Mo) (b := b + 99) (As := [.int a1]) (rest := [.ref (b + 99)]) ⟨hx, hb, hml, hown, hts⟩ (c_Mo_noFactor l G b a1 M N hw) (cwV 1 hts (z_good (zgV wd991 wd993 wsel39 wd7 wd994)) rfl rfl rfl ⟨rfl, hd_Mo_noFactor⟩ ⟨Nat.le_of_ble_eq_true rfl, Nat.le_of_ble_eq_true rfl⟩) (z_preV zo_Mo rfl rfl hZ hK hT hS) rfl rfl hl.1 rfl (lv_room (Nat.le_of_ble_eq_true rfl)) d_Mo_factorAt_3 ⟨Nat.le_of_ble_eq_true rfl, Nat.le_of_ble_eq_true rfl⟩) hS (fun r1 M2 N3 H locs hw hZ hS => ?_)
  obtain ⟨hw, eM2, eN3⟩ := hw
  rw [eM2, eN3] at hZ
  refine lv_if_eq (pc := 6) (tgt := 13) hx hb d_Mo_factorAt_6 (by decide) (fun hc => ?_) (fun hc => ?_)
  · have hw := hw.1 hc
    refine lv_iconst (pc := 13) (v := 0) hx hb d_Mo_factorAt_13 (by decide) ?_
    exact j14 (0 : Int32) N _ _ _ hZ hS hl hw
  · have hw := hw.2 hc
    refine lv_iconst (pc := 9) (v := 1) hx hb d_Mo_factorAt_9 (by decide) ?_
    refine lv_goto (pc := 10) (tgt := 14) hx hb d_Mo_factorAt_10 (by decide) ?_
    exact j14 (1 : Int32) N _ _ _ hZ hS hl hw
theorem d_Mo_take_0 : decode prog_10_method_54_code 0 = .ok (.aload_n 0, 1) := by decide +kernel
theorem d_Mo_take_1 : decode prog_10_method_54_code 1 = .ok (.iload_n 1, 1) := by decide +kernel
theorem d_Mo_take_2 : decode prog_10_method_54_code 2 = .ok (.invokestatic 98, 3) := by decide +kernel
theorem d_Mo_take_5 : decode prog_10_method_54_code 5 = .ok (.ifCond .ne 7, 3) := by decide +kernel
theorem d_Mo_take_8 : decode prog_10_method_54_code 8 = .ok (.iconst 1, 1) := by decide +kernel
theorem d_Mo_take_9 : decode prog_10_method_54_code 9 = .ok (.goto 16, 3) := by decide +kernel
theorem d_Mo_take_12 : decode prog_10_method_54_code 12 = .ok (.aload_n 0, 1) := by decide +kernel
theorem d_Mo_take_13 : decode prog_10_method_54_code 13 = .ok (.iload_n 2, 1) := by decide +kernel
theorem d_Mo_take_14 : decode prog_10_method_54_code 14 = .ok (.invokevirtual 237, 3) := by decide +kernel
theorem d_Mo_take_17 : decode prog_10_method_54_code 17 = .ok (.ifCond .eq 7, 3) := by decide +kernel
theorem d_Mo_take_20 : decode prog_10_method_54_code 20 = .ok (.iconst 2, 1) := by decide +kernel
theorem d_Mo_take_21 : decode prog_10_method_54_code 21 = .ok (.goto 4, 3) := by decide +kernel
theorem d_Mo_take_24 : decode prog_10_method_54_code 24 = .ok (.iconst 0, 1) := by decide +kernel
theorem d_Mo_take_25 : decode prog_10_method_54_code 25 = .ok (.putfield 78, 3) := by decide +kernel
theorem d_Mo_take_28 : decode prog_10_method_54_code 28 = .ok (.aload_n 0, 1) := by decide +kernel
theorem d_Mo_take_29 : decode prog_10_method_54_code 29 = .ok (.getfield 78, 3) := by decide +kernel
theorem d_Mo_take_32 : decode prog_10_method_54_code 32 = .ok (.ifCond .le 5, 3) := by decide +kernel
theorem d_Mo_take_35 : decode prog_10_method_54_code 35 = .ok (.iconst 0, 1) := by decide +kernel
theorem d_Mo_take_36 : decode prog_10_method_54_code 36 = .ok (.ireturn, 1) := by decide +kernel
theorem d_Mo_take_37 : decode prog_10_method_54_code 37 = .ok (.iconst 0, 1) := by decide +kernel
theorem d_Mo_take_38 : decode prog_10_method_54_code 38 = .ok (.istore_n 3, 1) := by decide +kernel
theorem d_Mo_take_39 : decode prog_10_method_54_code 39 = .ok (.iload_n 3, 1) := by decide +kernel
theorem d_Mo_take_40 : decode prog_10_method_54_code 40 = .ok (.bipush 16, 2) := by decide +kernel
theorem d_Mo_take_42 : decode prog_10_method_54_code 42 = .ok (.if_icmp .ge 36, 3) := by decide +kernel
theorem d_Mo_take_45 : decode prog_10_method_54_code 45 = .ok (.aload_n 0, 1) := by decide +kernel
theorem d_Mo_take_46 : decode prog_10_method_54_code 46 = .ok (.getfield 35, 3) := by decide +kernel
theorem d_Mo_take_49 : decode prog_10_method_54_code 49 = .ok (.iload_n 3, 1) := by decide +kernel
theorem d_Mo_take_50 : decode prog_10_method_54_code 50 = .ok (.iload_n 3, 1) := by decide +kernel
theorem d_Mo_take_51 : decode prog_10_method_54_code 51 = .ok (.bipush 8, 2) := by decide +kernel
theorem d_Mo_take_53 : decode prog_10_method_54_code 53 = .ok (.if_icmp .ge 17, 3) := by decide +kernel
theorem d_Mo_take_56 : decode prog_10_method_54_code 56 = .ok (.aload_n 0, 1) := by decide +kernel
theorem d_Mo_take_57 : decode prog_10_method_54_code 57 = .ok (.getfield 16, 3) := by decide +kernel
theorem d_Mo_take_60 : decode prog_10_method_54_code 60 = .ok (.bipush 8, 2) := by decide +kernel
theorem d_Mo_take_62 : decode prog_10_method_54_code 62 = .ok (.iload_n 2, 1) := by decide +kernel
theorem d_Mo_take_63 : decode prog_10_method_54_code 63 = .ok (.imul, 1) := by decide +kernel
theorem d_Mo_take_64 : decode prog_10_method_54_code 64 = .ok (.iload_n 3, 1) := by decide +kernel
theorem d_Mo_take_65 : decode prog_10_method_54_code 65 = .ok (.iadd, 1) := by decide +kernel
theorem d_Mo_take_66 : decode prog_10_method_54_code 66 = .ok (.laload, 1) := by decide +kernel
theorem d_Mo_take_67 : decode prog_10_method_54_code 67 = .ok (.goto 4, 3) := by decide +kernel
theorem d_Mo_take_70 : decode prog_10_method_54_code 70 = .ok (.lconst 0, 1) := by decide +kernel
theorem d_Mo_take_71 : decode prog_10_method_54_code 71 = .ok (.lastore, 1) := by decide +kernel
theorem d_Mo_take_72 : decode prog_10_method_54_code 72 = .ok (.iinc 3 1, 3) := by decide +kernel
theorem d_Mo_take_75 : decode prog_10_method_54_code 75 = .ok (.goto (-36), 3) := by decide +kernel
theorem d_Mo_take_78 : decode prog_10_method_54_code 78 = .ok (.aload_n 0, 1) := by decide +kernel
theorem d_Mo_take_79 : decode prog_10_method_54_code 79 = .ok (.getfield 35, 3) := by decide +kernel
theorem d_Mo_take_82 : decode prog_10_method_54_code 82 = .ok (.invokestatic 108, 3) := by decide +kernel
theorem d_Mo_take_85 : decode prog_10_method_54_code 85 = .ok (.ifCond .ne 5, 3) := by decide +kernel
theorem d_Mo_take_88 : decode prog_10_method_54_code 88 = .ok (.iconst 0, 1) := by decide +kernel
theorem d_Mo_take_89 : decode prog_10_method_54_code 89 = .ok (.ireturn, 1) := by decide +kernel
theorem d_Mo_take_90 : decode prog_10_method_54_code 90 = .ok (.aload_n 0, 1) := by decide +kernel
theorem d_Mo_take_91 : decode prog_10_method_54_code 91 = .ok (.iload_n 1, 1) := by decide +kernel
theorem d_Mo_take_92 : decode prog_10_method_54_code 92 = .ok (.aload_n 0, 1) := by decide +kernel
theorem d_Mo_take_93 : decode prog_10_method_54_code 93 = .ok (.getfield 35, 3) := by decide +kernel
theorem d_Mo_take_96 : decode prog_10_method_54_code 96 = .ok (.invokevirtual 112, 3) := by decide +kernel
theorem d_Mo_take_99 : decode prog_10_method_54_code 99 = .ok (.ifCond .lt 7, 3) := by decide +kernel
theorem d_Mo_take_102 : decode prog_10_method_54_code 102 = .ok (.iconst 1, 1) := by decide +kernel
theorem d_Mo_take_103 : decode prog_10_method_54_code 103 = .ok (.goto 4, 3) := by decide +kernel
theorem d_Mo_take_106 : decode prog_10_method_54_code 106 = .ok (.iconst 0, 1) := by decide +kernel
theorem d_Mo_take_107 : decode prog_10_method_54_code 107 = .ok (.ireturn, 1) := by decide +kernel
def B_Mo_take_39 (P : Int32 → zM → zN → Prop) (a1 : Int32) (a2 : Int32) (N : zN) (k39 : Int32 → zM → Prop) (v3 : Int32) (M : zM) : Prop := ((16 : Int32) ≤ v3 → w_Mo_fits 108 M (fun r8 => (¬ r8 = 0 → w_Mo_keep a1 108 M N (fun r11 N13 => (r11 < 0 → narrow .boolean (.int (0 : Int32)) = .int (0 : Int32) ∧ P (0 : Int32) M N13) ∧ (¬ r11 < 0 → narrow .boolean (.int (1 : Int32)) = .int (1 : Int32) ∧ P (1 : Int32) M N13))) ∧ (r8 = 0 → narrow .boolean (.int (0 : Int32)) = .int (0 : Int32) ∧ P (0 : Int32) M N))) ∧ (¬ (16 : Int32) ≤ v3 → ((8 : Int32) ≤ v3 → vp_in v3 (zlong 108) ∧ ∀ M14 : zM, M14 = zput M 108 v3.toNatClampNeg (0 : Int64) → k39 (v3 + (1 : Int32)) M14) ∧ (¬ (8 : Int32) ≤ v3 → vp_in (((8 : Int32) * a2) + v3) (zlong 102) ∧ vp_in v3 (zlong 108) ∧ ∀ M15 : zM, M15 = zput M 108 v3.toNatClampNeg (M 102 (((8 : Int32) * a2) + v3).toNatClampNeg) → k39 (v3 + (1 : Int32)) M15))
def L_Mo_take_39 (P : Int32 → zM → zN → Prop) (a1 : Int32) (a2 : Int32) (N : zN) (n : Nat) : Int32 → zM → Prop := Nat.rec (fun _ _ => False) (fun _ k => B_Mo_take_39 P a1 a2 N k) n
def J_Mo_take_25 (P : Int32 → zM → zN → Prop) (a1 : Int32) (a2 : Int32) (t0 : Int32) (M : zM) (N : zN) : Prop := ∀ N7 : zN, N7 = zpui N 99 0 t0 → ((N7 99 0) ≤ 0 → ∃ n, L_Mo_take_39 P a1 a2 N7 n (0 : Int32) M) ∧ (¬ (N7 99 0) ≤ 0 → narrow .boolean (.int (0 : Int32)) = .int (0 : Int32) ∧ P (0 : Int32) M N7)
def w_Mo_take (a1 : Int32) (a2 : Int32) (M : zM) (N : zN) (P : Int32 → zM → zN → Prop) : Prop := w_Mo_isRegister a1  (fun r1 => (¬ r1 = 0 → w_Mo_noFactor a2 N (fun r4 => (r4 = 0 → J_Mo_take_25 P a1 a2 (0 : Int32) M N) ∧ (¬ r4 = 0 → J_Mo_take_25 P a1 a2 (2 : Int32) M N))) ∧ (r1 = 0 → J_Mo_take_25 P a1 a2 (1 : Int32) M N))
def ws_Mo_take : List Cond := .code y_Mo_take prog_10_method_54_code 4 (Option.some Jvm.ClassFile.FieldType.boolean) :: zall
def rm_Mo_take : Room := { frames := 2, cells := 0, slots := 0, locals := 44 }
theorem hd_Mo_take : y_Mo_take.cls ≠ "java/lang/invoke/MethodHandle" ∧ y_Mo_take.cls ≠ "java/lang/invoke/VarHandle" ∧ (parseMethodDescriptor y_Mo_take.desc).map (fun d => d.parameters.length) = some 2 := by decide +kernel
set_option maxHeartbeats 4000000 in
set_option maxRecDepth 100000 in
theorem c_Mo_take (l : Launch) (G : zG) (b : Nat) (a1 : Int32) (a2 : Int32) (M : zM) (N : zN) {P : Int32 → zM → zN → Prop} (hw : w_Mo_take a1 a2 M N P) : Met l y_Mo_take ws_Mo_take rm_Mo_take (zPc G b M N [.ref (b + 99), .int a1, .int a2]) (zQi G b (fun r M' N' => P r M' N')) 0 0 (zA b) := by
  refine Met.ofW (cc := prog_10_method_54_code) (maxL := 4) (ret := (Option.some Jvm.ClassFile.FieldType.boolean)) (by decide) rfl ?_
  intro p e s m args below meth c s₁ B hml hv
  obtain ⟨rfl, hZ, hK, hT⟩ := hv
  have hx := B.exec
  have hb := B.bytes
  have hr := B.returns
  have hts := atoms_spec (ws := ws_Mo_take) B.pre
  have hta : ∀ w ∈ zall, w.before ([.ref (b + 99), .int a1, .int a2] : List Value).toArray s = true := fun w h => hts w (List.mem_cons_of_mem _ h)
  have hown : s.vm.findClass R_Mo = some m.cls := findClass_of_methodNamed B.named
  have hlocks := B.notSynchronized
  have hS : va_S (zA b) s.heap s.heap [] := va_S.rf
  have hl := lv_entry ([.ref (b + 99), .int a1, .int a2]) (n := 4) (Nat.le_of_ble_eq_true rfl)
  rw [lg_entry_eq]
  generalize (lg_sl ([.ref (b + 99), .int a1, .int a2]) ++ List.replicate (4 - (lg_sl ([.ref (b + 99), .int a1, .int a2])).length) Slot.unset).toArray = ls at hl ⊢
  have hl : lv_has ls 4 [(0, .ref (b + 99)), (1, .int a1), (2, .int a2)] := hl
  have lp39 : ∀ (N : zN) (n : Nat) (v3 : Int32) (M : zM) (H : Heap) (ls : Array Slot) (locs : List Loc), va_P G.1 zCl (zws G b M N) H → va_S (zA b) s.heap H locs → lv_has ls 4 [(0, .ref (b + 99)), (1, .int a1), (2, .int a2), (3, .int v3)] → L_Mo_take_39 P a1 a2 N n v3 M → W p l e (headSpec ws_Mo_take rm_Mo_take).room s m ([.ref (b + 99), .int a1, .int a2] : List Value).toArray below meth c H locs 0 0 (MQ below (zQi G b (fun r M' N' => P r M' N')) ([.ref (b + 99), .int a1, .int a2] : List Value).toArray s 0 0 (zA b)) (F0 m 39 ls []) := by
    intro N n
    induction n with
    | zero => intro v3 M H ls locs hZ hS hl hw; exact False.elim hw
    | succ n39 ih39 =>
      intro v3 M H ls locs hZ hS hl hw
      have hw : B_Mo_take_39 P a1 a2 N (L_Mo_take_39 P a1 a2 N n39) v3 M := hw
      unfold B_Mo_take_39 at hw
      refine lv_iload_n (pc := 39) hx hb d_Mo_take_39 rfl (lv_at hl 3 rfl) ?_
      refine lv_bipush (pc := 40) (v := 16) hx hb d_Mo_take_40 (by decide) ?_
      refine lv_icmp_ge (pc := 42) (tgt := 78) hx hb d_Mo_take_42 (by decide) (fun hc => ?_) (fun hc => ?_)
      · have hw := hw.1 hc
        refine lv_aload_n (pc := 78) hx hb d_Mo_take_78 rfl (lv_at hl 0 rfl) ?_
        refine zg_Mo_35 (pc := 79) hx hb hta hown hK hZ d_Mo_take_79 ?_
        refine z_calli (pc := 82) (va_runS (As := [.ref (b + 108)]) (rest := []) ⟨hx, hb, hml, hown, hts⟩ (c_Mo_fits l G b 108 M N hw) (va_cwS 1 hts (z_good (zgS wd833 wd834 wd7 wd835)) rfl rfl rfl hd_Mo_fits ⟨Nat.le_of_ble_eq_true rfl, Nat.le_of_ble_eq_true rfl⟩) (z_preS hZ hK hT hS) rfl rfl hl.1 rfl (lv_room (Nat.le_of_ble_eq_true rfl)) d_Mo_take_82 ⟨Nat.le_of_ble_eq_true rfl, Nat.le_of_ble_eq_true rfl⟩) hS (fun r8 M9 N10 H locs hw hZ hS => ?_)
        obtain ⟨hw, eM9, eN10⟩ := hw
        rw [eM9, eN10] at hZ
        refine lv_if_ne (pc := 85) (tgt := 90) hx hb d_Mo_take_85 (by decide) (fun hc => ?_) (fun hc => ?_)
        · have hw := hw.1 hc
          refine lv_aload_n (pc := 90) hx hb d_Mo_take_90 rfl (lv_at hl 0 rfl) ?_
          refine lv_iload_n (pc := 91) hx hb d_Mo_take_91 rfl (lv_at hl 1 rfl) ?_
          refine lv_aload_n (pc := 92) hx hb d_Mo_take_92 rfl (lv_at hl 0 rfl) ?_
          refine zg_Mo_35 (pc := 93) hx hb hta hown hK hZ d_Mo_take_93 ?_
          refine z_calli (pc := 96) (va_runV (C := R_Mo) (b := b + 99) (As := [.int a1, .ref (b + 108)]) (rest := []) ⟨hx, hb, hml, hown, hts⟩ (c_Mo_keep l G b a1 108 M N hw) (cwV 2 hts (z_good (zgV wd838 wd840 wsel20 wd7 wd841)) rfl rfl rfl ⟨rfl, hd_Mo_keep⟩ ⟨Nat.le_of_ble_eq_true rfl, Nat.le_of_ble_eq_true rfl⟩) (z_preV zo_Mo rfl rfl hZ hK hT hS) rfl rfl hl.1 rfl (lv_room (Nat.le_of_ble_eq_true rfl)) d_Mo_take_96 ⟨Nat.le_of_ble_eq_true rfl, Nat.le_of_ble_eq_true rfl⟩) hS (fun r11 M12 N13 H locs hw hZ hS => ?_)
          obtain ⟨hw, eM12⟩ := hw
          rw [eM12] at hZ
          refine lv_if_lt (pc := 99) (tgt := 106) hx hb d_Mo_take_99 (by decide) (fun hc => ?_) (fun hc => ?_)
          · have hw := hw.1 hc
            refine lv_iconst (pc := 106) (v := 0) hx hb d_Mo_take_106 (by decide) ?_
            exact z_zret hx hb hr hlocks hK hT hZ hS hw d_Mo_take_107
          · have hw := hw.2 hc
            refine lv_iconst (pc := 102) (v := 1) hx hb d_Mo_take_102 (by decide) ?_
            refine lv_goto (pc := 103) (tgt := 107) hx hb d_Mo_take_103 (by decide) ?_
            exact z_zret hx hb hr hlocks hK hT hZ hS hw d_Mo_take_107
        · have hw := hw.2 hc
          refine lv_iconst (pc := 88) (v := 0) hx hb d_Mo_take_88 (by decide) ?_
          exact z_zret hx hb hr hlocks hK hT hZ hS hw d_Mo_take_89
      · have hw := hw.2 hc
        refine lv_aload_n (pc := 45) hx hb d_Mo_take_45 rfl (lv_at hl 0 rfl) ?_
        refine zg_Mo_35 (pc := 46) hx hb hta hown hK hZ d_Mo_take_46 ?_
        refine lv_iload_n (pc := 49) hx hb d_Mo_take_49 rfl (lv_at hl 3 rfl) ?_
        refine lv_iload_n (pc := 50) hx hb d_Mo_take_50 rfl (lv_at hl 3 rfl) ?_
        refine lv_bipush (pc := 51) (v := 8) hx hb d_Mo_take_51 (by decide) ?_
        refine lv_icmp_ge (pc := 53) (tgt := 70) hx hb d_Mo_take_53 (by decide) (fun hc => ?_) (fun hc => ?_)
        · have hw := hw.1 hc
          refine lv_lconst (pc := 70) (v := 0) hx hb d_Mo_take_70 (by decide) ?_
          obtain ⟨hc, hw⟩ := hw
          refine z_last (pc := 71) hx hb hK hZ hS hc d_Mo_take_71 (fun M14 H locs hM14 hZ hS => ?_)
          have hw := hw M14 hM14
          refine lv_iinc (pc := 72) (k := 3) (v := v3 + (1 : Int32)) (lv' := [(3, .int (v3 + (1 : Int32))), (0, .ref (b + 99)), (1, .int a1), (2, .int a2)]) hx hb d_Mo_take_72 hl rfl (by rfl) (by decide) rfl (fun ls hl => ?_)
          refine lv_goto (pc := 75) (tgt := 39) hx hb d_Mo_take_75 (by decide) ?_
          exact ih39 (v3 + (1 : Int32)) M14 _ _ _ hZ hS (lv_sub hl [1, 2, 3, 0] rfl) hw
        · have hw := hw.2 hc
          refine lv_aload_n (pc := 56) hx hb d_Mo_take_56 rfl (lv_at hl 0 rfl) ?_
          refine zg_Mo_16 (pc := 57) hx hb hta hown hK hZ d_Mo_take_57 ?_
          refine lv_bipush (pc := 60) (v := 8) hx hb d_Mo_take_60 (by decide) ?_
          refine lv_iload_n (pc := 62) hx hb d_Mo_take_62 rfl (lv_at hl 2 rfl) ?_
          refine lv_imul (pc := 63) hx hb d_Mo_take_63 ?_
          refine lv_iload_n (pc := 64) hx hb d_Mo_take_64 rfl (lv_at hl 3 rfl) ?_
          refine lv_iadd (pc := 65) hx hb d_Mo_take_65 ?_
          obtain ⟨hc, hw⟩ := hw
          refine z_lald (pc := 66) hx hb hK hZ hc d_Mo_take_66 ?_
          refine lv_goto (pc := 67) (tgt := 71) hx hb d_Mo_take_67 (by decide) ?_
          obtain ⟨hc, hw⟩ := hw
          refine z_last (pc := 71) hx hb hK hZ hS hc d_Mo_take_71 (fun M15 H locs hM15 hZ hS => ?_)
          have hw := hw M15 hM15
          refine lv_iinc (pc := 72) (k := 3) (v := v3 + (1 : Int32)) (lv' := [(3, .int (v3 + (1 : Int32))), (0, .ref (b + 99)), (1, .int a1), (2, .int a2)]) hx hb d_Mo_take_72 hl rfl (by rfl) (by decide) rfl (fun ls hl => ?_)
          refine lv_goto (pc := 75) (tgt := 39) hx hb d_Mo_take_75 (by decide) ?_
          exact ih39 (v3 + (1 : Int32)) M15 _ _ _ hZ hS (lv_sub hl [1, 2, 3, 0] rfl) hw
  have j25 : ∀ (t0 : Int32) (M : zM) (N : zN) (H : Heap) (ls : Array Slot) (locs : List Loc), va_P G.1 zCl (zws G b M N) H → va_S (zA b) s.heap H locs → lv_has ls 4 [(0, .ref (b + 99)), (1, .int a1), (2, .int a2)] → J_Mo_take_25 P a1 a2 t0 M N → W p l e (headSpec ws_Mo_take rm_Mo_take).room s m ([.ref (b + 99), .int a1, .int a2] : List Value).toArray below meth c H locs 0 0 (MQ below (zQi G b (fun r M' N' => P r M' N')) ([.ref (b + 99), .int a1, .int a2] : List Value).toArray s 0 0 (zA b)) (F0 m 25 ls [.int t0, .ref (b + 99)]) := by
    intro t0 M N H ls locs hZ hS hl hw
    unfold J_Mo_take_25 at hw
    refine zp_Mo_78 (pc := 25) hx hb hta hown hK hZ hS d_Mo_take_25 (fun N7 H locs hN7 hZ hS => ?_)
    have hw := hw N7 hN7
    refine lv_aload_n (pc := 28) hx hb d_Mo_take_28 rfl (lv_at hl 0 rfl) ?_
    refine zg_Mo_78 (pc := 29) hx hb hta hown hK hZ d_Mo_take_29 ?_
    refine lv_if_le (pc := 32) (tgt := 37) hx hb d_Mo_take_32 (by decide) (fun hc => ?_) (fun hc => ?_)
    · have hw := hw.1 hc
      refine lv_iconst (pc := 37) (v := 0) hx hb d_Mo_take_37 (by decide) ?_
      refine lv_istore_n (pc := 38) (lv' := [(3, .int (0 : Int32)), (0, .ref (b + 99)), (1, .int a1), (2, .int a2)]) hx hb d_Mo_take_38 rfl hl (by decide) rfl (fun ls hl => ?_)
      obtain ⟨n, hw⟩ := hw
      exact lp39 N7 n (0 : Int32) M _ _ _ hZ hS (lv_sub hl [1, 2, 3, 0] rfl) hw
    · have hw := hw.2 hc
      refine lv_iconst (pc := 35) (v := 0) hx hb d_Mo_take_35 (by decide) ?_
      exact z_zret hx hb hr hlocks hK hT hZ hS hw d_Mo_take_36
  unfold w_Mo_take at hw
  refine lv_aload_n (pc := 0) hx hb d_Mo_take_0 rfl (lv_at hl 0 rfl) ?_
  refine lv_iload_n (pc := 1) hx hb d_Mo_take_1 rfl (lv_at hl 1 rfl) ?_
  refine z_calli (pc := 2) (va_runS (As := [.int a1]) (rest := [.ref (b + 99)]) ⟨hx, hb, hml, hown, hts⟩ (c_Mo_isRegister l G b a1 M N hw) (va_cwS 1 hts (z_good (zgS wd805 wd806 wd7 wd807)) rfl rfl rfl hd_Mo_isRegister ⟨Nat.le_of_ble_eq_true rfl, Nat.le_of_ble_eq_true rfl⟩) (z_preS hZ hK hT hS) rfl rfl hl.1 rfl (lv_room (Nat.le_of_ble_eq_true rfl)) d_Mo_take_2 ⟨Nat.le_of_ble_eq_true rfl, Nat.le_of_ble_eq_true rfl⟩) hS (fun r1 M2 N3 H locs hw hZ hS => ?_)
  obtain ⟨hw, eM2, eN3⟩ := hw
  rw [eM2, eN3] at hZ
  refine lv_if_ne (pc := 5) (tgt := 12) hx hb d_Mo_take_5 (by decide) (fun hc => ?_) (fun hc => ?_)
  · have hw := hw.1 hc
    refine lv_aload_n (pc := 12) hx hb d_Mo_take_12 rfl (lv_at hl 0 rfl) ?_
    refine lv_iload_n (pc := 13) hx hb d_Mo_take_13 rfl (lv_at hl 2 rfl) ?_
    refine z_calli (pc := 14) (va_runV (C := R_Mo) (b := b + 99) (As := [.int a2]) (rest := [.ref (b + 99)]) ⟨hx, hb, hml, hown, hts⟩ (c_Mo_noFactor l G b a2 M N hw) (cwV 1 hts (z_good (zgV wd991 wd993 wsel39 wd7 wd994)) rfl rfl rfl ⟨rfl, hd_Mo_noFactor⟩ ⟨Nat.le_of_ble_eq_true rfl, Nat.le_of_ble_eq_true rfl⟩) (z_preV zo_Mo rfl rfl hZ hK hT hS) rfl rfl hl.1 rfl (lv_room (Nat.le_of_ble_eq_true rfl)) d_Mo_take_14 ⟨Nat.le_of_ble_eq_true rfl, Nat.le_of_ble_eq_true rfl⟩) hS (fun r4 M5 N6 H locs hw hZ hS => ?_)
    obtain ⟨hw, eM5, eN6⟩ := hw
    rw [eM5, eN6] at hZ
    refine lv_if_eq (pc := 17) (tgt := 24) hx hb d_Mo_take_17 (by decide) (fun hc => ?_) (fun hc => ?_)
    · have hw := hw.1 hc
      refine lv_iconst (pc := 24) (v := 0) hx hb d_Mo_take_24 (by decide) ?_
      exact j25 (0 : Int32) M N _ _ _ hZ hS hl hw
    · have hw := hw.2 hc
      refine lv_iconst (pc := 20) (v := 2) hx hb d_Mo_take_20 (by decide) ?_
      refine lv_goto (pc := 21) (tgt := 25) hx hb d_Mo_take_21 (by decide) ?_
      exact j25 (2 : Int32) M N _ _ _ hZ hS hl hw
  · have hw := hw.2 hc
    refine lv_iconst (pc := 8) (v := 1) hx hb d_Mo_take_8 (by decide) ?_
    refine lv_goto (pc := 9) (tgt := 25) hx hb d_Mo_take_9 (by decide) ?_
    exact j25 (1 : Int32) M N _ _ _ hZ hS hl hw
theorem d_Mo_prime_0 : decode prog_10_method_55_code 0 = .ok (.aload_n 0, 1) := by decide +kernel
theorem d_Mo_prime_1 : decode prog_10_method_55_code 1 = .ok (.iload_n 1, 1) := by decide +kernel
theorem d_Mo_prime_2 : decode prog_10_method_55_code 2 = .ok (.invokestatic 98, 3) := by decide +kernel
theorem d_Mo_prime_5 : decode prog_10_method_55_code 5 = .ok (.ifCond .eq 7, 3) := by decide +kernel
theorem d_Mo_prime_8 : decode prog_10_method_55_code 8 = .ok (.iconst 0, 1) := by decide +kernel
theorem d_Mo_prime_9 : decode prog_10_method_55_code 9 = .ok (.goto 4, 3) := by decide +kernel
theorem d_Mo_prime_12 : decode prog_10_method_55_code 12 = .ok (.iconst 1, 1) := by decide +kernel
theorem d_Mo_prime_13 : decode prog_10_method_55_code 13 = .ok (.putfield 78, 3) := by decide +kernel
theorem d_Mo_prime_16 : decode prog_10_method_55_code 16 = .ok (.aload_n 0, 1) := by decide +kernel
theorem d_Mo_prime_17 : decode prog_10_method_55_code 17 = .ok (.getfield 78, 3) := by decide +kernel
theorem d_Mo_prime_20 : decode prog_10_method_55_code 20 = .ok (.ifCond .le 5, 3) := by decide +kernel
theorem d_Mo_prime_23 : decode prog_10_method_55_code 23 = .ok (.iconst 0, 1) := by decide +kernel
theorem d_Mo_prime_24 : decode prog_10_method_55_code 24 = .ok (.ireturn, 1) := by decide +kernel
theorem d_Mo_prime_25 : decode prog_10_method_55_code 25 = .ok (.aload_n 0, 1) := by decide +kernel
theorem d_Mo_prime_26 : decode prog_10_method_55_code 26 = .ok (.iload_n 1, 1) := by decide +kernel
theorem d_Mo_prime_27 : decode prog_10_method_55_code 27 = .ok (.aload_n 0, 1) := by decide +kernel
theorem d_Mo_prime_28 : decode prog_10_method_55_code 28 = .ok (.getfield 29, 3) := by decide +kernel
theorem d_Mo_prime_31 : decode prog_10_method_55_code 31 = .ok (.invokevirtual 104, 3) := by decide +kernel
theorem d_Mo_prime_34 : decode prog_10_method_55_code 34 = .ok (.aload_n 0, 1) := by decide +kernel
theorem d_Mo_prime_35 : decode prog_10_method_55_code 35 = .ok (.getfield 29, 3) := by decide +kernel
theorem d_Mo_prime_38 : decode prog_10_method_55_code 38 = .ok (.invokestatic 82, 3) := by decide +kernel
theorem d_Mo_prime_41 : decode prog_10_method_55_code 41 = .ok (.istore_n 2, 1) := by decide +kernel
theorem d_Mo_prime_42 : decode prog_10_method_55_code 42 = .ok (.iload_n 2, 1) := by decide +kernel
theorem d_Mo_prime_43 : decode prog_10_method_55_code 43 = .ok (.iconst 1, 1) := by decide +kernel
theorem d_Mo_prime_44 : decode prog_10_method_55_code 44 = .ok (.if_icmp .ge 16, 3) := by decide +kernel
theorem d_Mo_prime_47 : decode prog_10_method_55_code 47 = .ok (.aload_n 0, 1) := by decide +kernel
theorem d_Mo_prime_48 : decode prog_10_method_55_code 48 = .ok (.getfield 29, 3) := by decide +kernel
theorem d_Mo_prime_51 : decode prog_10_method_55_code 51 = .ok (.iconst 0, 1) := by decide +kernel
theorem d_Mo_prime_52 : decode prog_10_method_55_code 52 = .ok (.laload, 1) := by decide +kernel
theorem d_Mo_prime_53 : decode prog_10_method_55_code 53 = .ok (.invokestatic 90, 3) := by decide +kernel
theorem d_Mo_prime_56 : decode prog_10_method_55_code 56 = .ok (.invokestatic 170, 3) := by decide +kernel
theorem d_Mo_prime_59 : decode prog_10_method_55_code 59 = .ok (.ireturn, 1) := by decide +kernel
theorem d_Mo_prime_60 : decode prog_10_method_55_code 60 = .ok (.aload_n 0, 1) := by decide +kernel
theorem d_Mo_prime_61 : decode prog_10_method_55_code 61 = .ok (.iload_n 1, 1) := by decide +kernel
theorem d_Mo_prime_62 : decode prog_10_method_55_code 62 = .ok (.invokevirtual 221, 3) := by decide +kernel
theorem d_Mo_prime_65 : decode prog_10_method_55_code 65 = .ok (.istore_n 3, 1) := by decide +kernel
theorem d_Mo_prime_66 : decode prog_10_method_55_code 66 = .ok (.iload_n 3, 1) := by decide +kernel
theorem d_Mo_prime_67 : decode prog_10_method_55_code 67 = .ok (.iconst 1, 1) := by decide +kernel
theorem d_Mo_prime_68 : decode prog_10_method_55_code 68 = .ok (.if_icmp .eq 10, 3) := by decide +kernel
theorem d_Mo_prime_71 : decode prog_10_method_55_code 71 = .ok (.iload_n 3, 1) := by decide +kernel
theorem d_Mo_prime_72 : decode prog_10_method_55_code 72 = .ok (.iconst (-1), 1) := by decide +kernel
theorem d_Mo_prime_73 : decode prog_10_method_55_code 73 = .ok (.if_icmp .eq 5, 3) := by decide +kernel
theorem d_Mo_prime_76 : decode prog_10_method_55_code 76 = .ok (.iconst 0, 1) := by decide +kernel
theorem d_Mo_prime_77 : decode prog_10_method_55_code 77 = .ok (.ireturn, 1) := by decide +kernel
theorem d_Mo_prime_78 : decode prog_10_method_55_code 78 = .ok (.aload_n 0, 1) := by decide +kernel
theorem d_Mo_prime_79 : decode prog_10_method_55_code 79 = .ok (.invokevirtual 228, 3) := by decide +kernel
theorem d_Mo_prime_82 : decode prog_10_method_55_code 82 = .ok (.aload_n 0, 1) := by decide +kernel
theorem d_Mo_prime_83 : decode prog_10_method_55_code 83 = .ok (.getfield 186, 3) := by decide +kernel
theorem d_Mo_prime_86 : decode prog_10_method_55_code 86 = .ok (.iconst 1, 1) := by decide +kernel
theorem d_Mo_prime_87 : decode prog_10_method_55_code 87 = .ok (.if_icmp .ne 16, 3) := by decide +kernel
theorem d_Mo_prime_90 : decode prog_10_method_55_code 90 = .ok (.aload_n 0, 1) := by decide +kernel
theorem d_Mo_prime_91 : decode prog_10_method_55_code 91 = .ok (.iconst 0, 1) := by decide +kernel
theorem d_Mo_prime_92 : decode prog_10_method_55_code 92 = .ok (.invokevirtual 234, 3) := by decide +kernel
theorem d_Mo_prime_95 : decode prog_10_method_55_code 95 = .ok (.iconst 1, 1) := by decide +kernel
theorem d_Mo_prime_96 : decode prog_10_method_55_code 96 = .ok (.if_icmp .ne 7, 3) := by decide +kernel
theorem d_Mo_prime_99 : decode prog_10_method_55_code 99 = .ok (.iconst 1, 1) := by decide +kernel
theorem d_Mo_prime_100 : decode prog_10_method_55_code 100 = .ok (.goto 4, 3) := by decide +kernel
theorem d_Mo_prime_103 : decode prog_10_method_55_code 103 = .ok (.iconst 0, 1) := by decide +kernel
theorem d_Mo_prime_104 : decode prog_10_method_55_code 104 = .ok (.ireturn, 1) := by decide +kernel
def J_Mo_prime_78 (P : Int32 → zM → zN → Prop) (M : zM) (N : zN) : Prop := w_Mo_takeApart  M N (fun M21 N22 => (¬ (N22 99 6) = (1 : Int32) → narrow .boolean (.int (0 : Int32)) = .int (0 : Int32) ∧ P (0 : Int32) M21 N22) ∧ ((N22 99 6) = (1 : Int32) → w_Mo_often (0 : Int32) M21 (fun r23 M24 => (¬ r23 = (1 : Int32) → narrow .boolean (.int (0 : Int32)) = .int (0 : Int32) ∧ P (0 : Int32) M24 N22) ∧ (r23 = (1 : Int32) → narrow .boolean (.int (1 : Int32)) = .int (1 : Int32) ∧ P (1 : Int32) M24 N22))))
def J_Mo_prime_13 (P : Int32 → zM → zN → Prop) (a1 : Int32) (t0 : Int32) (M : zM) (N : zN) : Prop := ∀ N4 : zN, N4 = zpui N 99 0 t0 → ((N4 99 0) ≤ 0 → w_Mo_load a1 106 M N4 (fun M6 => w_Mo_degreeOf 106 M6 (fun r8 => ((1 : Int32) ≤ r8 → w_Mo_prepare a1 M6 N4 (fun r11 M12 => (r11 = (1 : Int32) → J_Mo_prime_78 P M12 N4) ∧ (¬ r11 = (1 : Int32) → (r11 = (-1 : Int32) → J_Mo_prime_78 P M12 N4) ∧ (¬ r11 = (-1 : Int32) → narrow .boolean (.int (0 : Int32)) = .int (0 : Int32) ∧ P (0 : Int32) M12 N4)))) ∧ (¬ (1 : Int32) ≤ r8 → vp_in (0 : Int32) (zlong 106) ∧ w_Mo_amount (M6 106 (0 : Int32).toNatClampNeg)  (fun r14 => w_Mo_isPrimeNumber r14  (fun r17 => narrow .boolean (.int r17) = .int r17 ∧ P r17 M6 N4)))))) ∧ (¬ (N4 99 0) ≤ 0 → narrow .boolean (.int (0 : Int32)) = .int (0 : Int32) ∧ P (0 : Int32) M N4)
def w_Mo_prime (a1 : Int32) (M : zM) (N : zN) (P : Int32 → zM → zN → Prop) : Prop := w_Mo_isRegister a1  (fun r1 => (r1 = 0 → J_Mo_prime_13 P a1 (1 : Int32) M N) ∧ (¬ r1 = 0 → J_Mo_prime_13 P a1 (0 : Int32) M N))
def ws_Mo_prime : List Cond := .code y_Mo_prime prog_10_method_55_code 4 (Option.some Jvm.ClassFile.FieldType.boolean) :: zall
def rm_Mo_prime : Room := { frames := 7, cells := 0, slots := 0, locals := 178 }
theorem hd_Mo_prime : y_Mo_prime.cls ≠ "java/lang/invoke/MethodHandle" ∧ y_Mo_prime.cls ≠ "java/lang/invoke/VarHandle" ∧ (parseMethodDescriptor y_Mo_prime.desc).map (fun d => d.parameters.length) = some 1 := by decide +kernel
set_option maxHeartbeats 4000000 in
set_option maxRecDepth 100000 in
theorem c_Mo_prime (l : Launch) (G : zG) (b : Nat) (a1 : Int32) (M : zM) (N : zN) {P : Int32 → zM → zN → Prop} (hw : w_Mo_prime a1 M N P) : Met l y_Mo_prime ws_Mo_prime rm_Mo_prime (zPc G b M N [.ref (b + 99), .int a1]) (zQi G b (fun r M' N' => P r M' N')) 0 0 (zA b) := by
  refine Met.ofW (cc := prog_10_method_55_code) (maxL := 4) (ret := (Option.some Jvm.ClassFile.FieldType.boolean)) (by decide) rfl ?_
  intro p e s m args below meth c s₁ B hml hv
  obtain ⟨rfl, hZ, hK, hT⟩ := hv
  have hx := B.exec
  have hb := B.bytes
  have hr := B.returns
  have hts := atoms_spec (ws := ws_Mo_prime) B.pre
  have hta : ∀ w ∈ zall, w.before ([.ref (b + 99), .int a1] : List Value).toArray s = true := fun w h => hts w (List.mem_cons_of_mem _ h)
  have hown : s.vm.findClass R_Mo = some m.cls := findClass_of_methodNamed B.named
  have hlocks := B.notSynchronized
  have hS : va_S (zA b) s.heap s.heap [] := va_S.rf
  have hl := lv_entry ([.ref (b + 99), .int a1]) (n := 4) (Nat.le_of_ble_eq_true rfl)
  rw [lg_entry_eq]
  generalize (lg_sl ([.ref (b + 99), .int a1]) ++ List.replicate (4 - (lg_sl ([.ref (b + 99), .int a1])).length) Slot.unset).toArray = ls at hl ⊢
  have hl : lv_has ls 4 [(0, .ref (b + 99)), (1, .int a1)] := hl
  have j78 : ∀ (M : zM) (N : zN) (H : Heap) (ls : Array Slot) (locs : List Loc), va_P G.1 zCl (zws G b M N) H → va_S (zA b) s.heap H locs → lv_has ls 4 [(0, .ref (b + 99))] → J_Mo_prime_78 P M N → W p l e (headSpec ws_Mo_prime rm_Mo_prime).room s m ([.ref (b + 99), .int a1] : List Value).toArray below meth c H locs 0 0 (MQ below (zQi G b (fun r M' N' => P r M' N')) ([.ref (b + 99), .int a1] : List Value).toArray s 0 0 (zA b)) (F0 m 78 ls []) := by
    intro M N H ls locs hZ hS hl hw
    unfold J_Mo_prime_78 at hw
    refine lv_aload_n (pc := 78) hx hb d_Mo_prime_78 rfl (lv_at hl 0 rfl) ?_
    refine z_callv (pc := 79) (va_runV (C := R_Mo) (b := b + 99) (As := []) (rest := []) ⟨hx, hb, hml, hown, hts⟩ (c_Mo_takeApart l G b  M N hw) (cwV 0 hts (z_good (zgV wd928 wd930 wsel27 wd7 wd931)) rfl rfl rfl ⟨rfl, hd_Mo_takeApart⟩ ⟨Nat.le_of_ble_eq_true rfl, Nat.le_of_ble_eq_true rfl⟩) (z_preV zo_Mo rfl rfl hZ hK hT hS) rfl rfl hl.1 rfl (lv_room (Nat.le_of_ble_eq_true rfl)) d_Mo_prime_79 ⟨Nat.le_of_ble_eq_true rfl, Nat.le_of_ble_eq_true rfl⟩) hS (fun M21 N22 H locs hw hZ hS => ?_)
    refine lv_aload_n (pc := 82) hx hb d_Mo_prime_82 rfl (lv_at hl 0 rfl) ?_
    refine zg_Mo_186 (pc := 83) hx hb hta hown hK hZ d_Mo_prime_83 ?_
    refine lv_iconst (pc := 86) (v := 1) hx hb d_Mo_prime_86 (by decide) ?_
    refine lv_icmp_ne (pc := 87) (tgt := 103) hx hb d_Mo_prime_87 (by decide) (fun hc => ?_) (fun hc => ?_)
    · have hw := hw.1 hc
      refine lv_iconst (pc := 103) (v := 0) hx hb d_Mo_prime_103 (by decide) ?_
      exact z_zret hx hb hr hlocks hK hT hZ hS hw d_Mo_prime_104
    · have hw := hw.2 hc
      refine lv_aload_n (pc := 90) hx hb d_Mo_prime_90 rfl (lv_at hl 0 rfl) ?_
      refine lv_iconst (pc := 91) (v := 0) hx hb d_Mo_prime_91 (by decide) ?_
      refine z_calli (pc := 92) (va_runV (C := R_Mo) (b := b + 99) (As := [.int (0 : Int32)]) (rest := []) ⟨hx, hb, hml, hown, hts⟩ (c_Mo_often l G b (0 : Int32) M21 N22 hw) (cwV 1 hts (z_good (zgV wd979 wd981 wsel38 wd7 wd982)) rfl rfl rfl ⟨rfl, hd_Mo_often⟩ ⟨Nat.le_of_ble_eq_true rfl, Nat.le_of_ble_eq_true rfl⟩) (z_preV zo_Mo rfl rfl hZ hK hT hS) rfl rfl hl.1 rfl (lv_room (Nat.le_of_ble_eq_true rfl)) d_Mo_prime_92 ⟨Nat.le_of_ble_eq_true rfl, Nat.le_of_ble_eq_true rfl⟩) hS (fun r23 M24 N25 H locs hw hZ hS => ?_)
      obtain ⟨hw, eN25⟩ := hw
      rw [eN25] at hZ
      refine lv_iconst (pc := 95) (v := 1) hx hb d_Mo_prime_95 (by decide) ?_
      refine lv_icmp_ne (pc := 96) (tgt := 103) hx hb d_Mo_prime_96 (by decide) (fun hc => ?_) (fun hc => ?_)
      · have hw := hw.1 hc
        refine lv_iconst (pc := 103) (v := 0) hx hb d_Mo_prime_103 (by decide) ?_
        exact z_zret hx hb hr hlocks hK hT hZ hS hw d_Mo_prime_104
      · have hw := hw.2 hc
        refine lv_iconst (pc := 99) (v := 1) hx hb d_Mo_prime_99 (by decide) ?_
        refine lv_goto (pc := 100) (tgt := 104) hx hb d_Mo_prime_100 (by decide) ?_
        exact z_zret hx hb hr hlocks hK hT hZ hS hw d_Mo_prime_104
  have j13 : ∀ (t0 : Int32) (M : zM) (N : zN) (H : Heap) (ls : Array Slot) (locs : List Loc), va_P G.1 zCl (zws G b M N) H → va_S (zA b) s.heap H locs → lv_has ls 4 [(0, .ref (b + 99)), (1, .int a1)] → J_Mo_prime_13 P a1 t0 M N → W p l e (headSpec ws_Mo_prime rm_Mo_prime).room s m ([.ref (b + 99), .int a1] : List Value).toArray below meth c H locs 0 0 (MQ below (zQi G b (fun r M' N' => P r M' N')) ([.ref (b + 99), .int a1] : List Value).toArray s 0 0 (zA b)) (F0 m 13 ls [.int t0, .ref (b + 99)]) := by
    intro t0 M N H ls locs hZ hS hl hw
    unfold J_Mo_prime_13 at hw
    refine zp_Mo_78 (pc := 13) hx hb hta hown hK hZ hS d_Mo_prime_13 (fun N4 H locs hN4 hZ hS => ?_)
    have hw := hw N4 hN4
    refine lv_aload_n (pc := 16) hx hb d_Mo_prime_16 rfl (lv_at hl 0 rfl) ?_
    refine zg_Mo_78 (pc := 17) hx hb hta hown hK hZ d_Mo_prime_17 ?_
    refine lv_if_le (pc := 20) (tgt := 25) hx hb d_Mo_prime_20 (by decide) (fun hc => ?_) (fun hc => ?_)
    · have hw := hw.1 hc
      refine lv_aload_n (pc := 25) hx hb d_Mo_prime_25 rfl (lv_at hl 0 rfl) ?_
      refine lv_iload_n (pc := 26) hx hb d_Mo_prime_26 rfl (lv_at hl 1 rfl) ?_
      refine lv_aload_n (pc := 27) hx hb d_Mo_prime_27 rfl (lv_at hl 0 rfl) ?_
      refine zg_Mo_29 (pc := 28) hx hb hta hown hK hZ d_Mo_prime_28 ?_
      refine z_callv (pc := 31) (va_runV (C := R_Mo) (b := b + 99) (As := [.int a1, .ref (b + 106)]) (rest := []) ⟨hx, hb, hml, hown, hts⟩ (c_Mo_load l G b a1 106 M N4 hw) (cwV 2 hts (z_good (zgV wd810 wd812 wsel18 wd7 wd813)) rfl rfl rfl ⟨rfl, hd_Mo_load⟩ ⟨Nat.le_of_ble_eq_true rfl, Nat.le_of_ble_eq_true rfl⟩) (z_preV zo_Mo rfl rfl hZ hK hT hS) rfl rfl hl.1 rfl (lv_room (Nat.le_of_ble_eq_true rfl)) d_Mo_prime_31 ⟨Nat.le_of_ble_eq_true rfl, Nat.le_of_ble_eq_true rfl⟩) hS (fun M6 N7 H locs hw hZ hS => ?_)
      obtain ⟨hw, eN7⟩ := hw
      rw [eN7] at hZ
      refine lv_aload_n (pc := 34) hx hb d_Mo_prime_34 rfl (lv_at hl 0 rfl) ?_
      refine zg_Mo_29 (pc := 35) hx hb hta hown hK hZ d_Mo_prime_35 ?_
      refine z_calli (pc := 38) (va_runS (As := [.ref (b + 106)]) (rest := []) ⟨hx, hb, hml, hown, hts⟩ (c_Mo_degreeOf l G b 106 M6 N4 hw) (va_cwS 1 hts (z_good (zgS wd814 wd815 wd7 wd816)) rfl rfl rfl hd_Mo_degreeOf ⟨Nat.le_of_ble_eq_true rfl, Nat.le_of_ble_eq_true rfl⟩) (z_preS hZ hK hT hS) rfl rfl hl.1 rfl (lv_room (Nat.le_of_ble_eq_true rfl)) d_Mo_prime_38 ⟨Nat.le_of_ble_eq_true rfl, Nat.le_of_ble_eq_true rfl⟩) hS (fun r8 M9 N10 H locs hw hZ hS => ?_)
      obtain ⟨hw, eM9, eN10⟩ := hw
      rw [eM9, eN10] at hZ
      refine lv_istore_n (pc := 41) (lv' := [(2, .int r8), (0, .ref (b + 99)), (1, .int a1)]) hx hb d_Mo_prime_41 rfl hl (by decide) rfl (fun ls hl => ?_)
      refine lv_iload_n (pc := 42) hx hb d_Mo_prime_42 rfl (lv_at hl 0 rfl) ?_
      refine lv_iconst (pc := 43) (v := 1) hx hb d_Mo_prime_43 (by decide) ?_
      refine lv_icmp_ge (pc := 44) (tgt := 60) hx hb d_Mo_prime_44 (by decide) (fun hc => ?_) (fun hc => ?_)
      · have hw := hw.1 hc
        refine lv_aload_n (pc := 60) hx hb d_Mo_prime_60 rfl (lv_at hl 1 rfl) ?_
        refine lv_iload_n (pc := 61) hx hb d_Mo_prime_61 rfl (lv_at hl 2 rfl) ?_
        refine z_calli (pc := 62) (va_runV (C := R_Mo) (b := b + 99) (As := [.int a1]) (rest := []) ⟨hx, hb, hml, hown, hts⟩ (c_Mo_prepare l G b a1 M6 N4 hw) (cwV 1 hts (z_good (zgV wd924 wd926 wsel26 wd7 wd927)) rfl rfl rfl ⟨rfl, hd_Mo_prepare⟩ ⟨Nat.le_of_ble_eq_true rfl, Nat.le_of_ble_eq_true rfl⟩) (z_preV zo_Mo rfl rfl hZ hK hT hS) rfl rfl hl.1 rfl (lv_room (Nat.le_of_ble_eq_true rfl)) d_Mo_prime_62 ⟨Nat.le_of_ble_eq_true rfl, Nat.le_of_ble_eq_true rfl⟩) hS (fun r11 M12 N13 H locs hw hZ hS => ?_)
        obtain ⟨hw, eN13⟩ := hw
        rw [eN13] at hZ
        refine lv_istore_n (pc := 65) (lv' := [(3, .int r11), (2, .int r8), (0, .ref (b + 99)), (1, .int a1)]) hx hb d_Mo_prime_65 rfl hl (by decide) rfl (fun ls hl => ?_)
        refine lv_iload_n (pc := 66) hx hb d_Mo_prime_66 rfl (lv_at hl 0 rfl) ?_
        refine lv_iconst (pc := 67) (v := 1) hx hb d_Mo_prime_67 (by decide) ?_
        refine lv_icmp_eq (pc := 68) (tgt := 78) hx hb d_Mo_prime_68 (by decide) (fun hc => ?_) (fun hc => ?_)
        · have hw := hw.1 hc
          exact j78 M12 N4 _ _ _ hZ hS (lv_sub hl [2] rfl) hw
        · have hw := hw.2 hc
          refine lv_iload_n (pc := 71) hx hb d_Mo_prime_71 rfl (lv_at hl 0 rfl) ?_
          refine lv_iconst (pc := 72) (v := -1) hx hb d_Mo_prime_72 (by decide) ?_
          refine lv_icmp_eq (pc := 73) (tgt := 78) hx hb d_Mo_prime_73 (by decide) (fun hc => ?_) (fun hc => ?_)
          · have hw := hw.1 hc
            exact j78 M12 N4 _ _ _ hZ hS (lv_sub hl [2] rfl) hw
          · have hw := hw.2 hc
            refine lv_iconst (pc := 76) (v := 0) hx hb d_Mo_prime_76 (by decide) ?_
            exact z_zret hx hb hr hlocks hK hT hZ hS hw d_Mo_prime_77
      · have hw := hw.2 hc
        refine lv_aload_n (pc := 47) hx hb d_Mo_prime_47 rfl (lv_at hl 1 rfl) ?_
        refine zg_Mo_29 (pc := 48) hx hb hta hown hK hZ d_Mo_prime_48 ?_
        refine lv_iconst (pc := 51) (v := 0) hx hb d_Mo_prime_51 (by decide) ?_
        obtain ⟨hc, hw⟩ := hw
        refine z_lald (pc := 52) hx hb hK hZ hc d_Mo_prime_52 ?_
        refine z_calll (pc := 53) (va_runS (As := [.long (M6 106 (0 : Int32).toNatClampNeg)]) (rest := []) ⟨hx, hb, hml, hown, hts⟩ (c_Mo_amount l G b (M6 106 (0 : Int32).toNatClampNeg) M6 N4 hw) (va_cwS 1 hts (z_good (zgS wd868 wd869 wd7 wd870)) rfl rfl rfl hd_Mo_amount ⟨Nat.le_of_ble_eq_true rfl, Nat.le_of_ble_eq_true rfl⟩) (z_preS hZ hK hT hS) rfl rfl hl.1 rfl (lv_room (Nat.le_of_ble_eq_true rfl)) d_Mo_prime_53 ⟨Nat.le_of_ble_eq_true rfl, Nat.le_of_ble_eq_true rfl⟩) hS (fun r14 M15 N16 H locs hw hZ hS => ?_)
        obtain ⟨hw, eM15, eN16⟩ := hw
        rw [eM15, eN16] at hZ
        refine z_calli (pc := 56) (va_runS (As := [.long r14]) (rest := []) ⟨hx, hb, hml, hown, hts⟩ (c_Mo_isPrimeNumber l G b r14 M6 N4 hw) (va_cwS 1 hts (z_good (zgS wd940 wd941 wd7 wd942)) rfl rfl rfl hd_Mo_isPrimeNumber ⟨Nat.le_of_ble_eq_true rfl, Nat.le_of_ble_eq_true rfl⟩) (z_preS hZ hK hT hS) rfl rfl hl.1 rfl (lv_room (Nat.le_of_ble_eq_true rfl)) d_Mo_prime_56 ⟨Nat.le_of_ble_eq_true rfl, Nat.le_of_ble_eq_true rfl⟩) hS (fun r17 M18 N19 H locs hw hZ hS => ?_)
        obtain ⟨hw, eM18, eN19⟩ := hw
        rw [eM18, eN19] at hZ
        exact z_zret hx hb hr hlocks hK hT hZ hS hw d_Mo_prime_59
    · have hw := hw.2 hc
      refine lv_iconst (pc := 23) (v := 0) hx hb d_Mo_prime_23 (by decide) ?_
      exact z_zret hx hb hr hlocks hK hT hZ hS hw d_Mo_prime_24
  unfold w_Mo_prime at hw
  refine lv_aload_n (pc := 0) hx hb d_Mo_prime_0 rfl (lv_at hl 0 rfl) ?_
  refine lv_iload_n (pc := 1) hx hb d_Mo_prime_1 rfl (lv_at hl 1 rfl) ?_
  refine z_calli (pc := 2) (va_runS (As := [.int a1]) (rest := [.ref (b + 99)]) ⟨hx, hb, hml, hown, hts⟩ (c_Mo_isRegister l G b a1 M N hw) (va_cwS 1 hts (z_good (zgS wd805 wd806 wd7 wd807)) rfl rfl rfl hd_Mo_isRegister ⟨Nat.le_of_ble_eq_true rfl, Nat.le_of_ble_eq_true rfl⟩) (z_preS hZ hK hT hS) rfl rfl hl.1 rfl (lv_room (Nat.le_of_ble_eq_true rfl)) d_Mo_prime_2 ⟨Nat.le_of_ble_eq_true rfl, Nat.le_of_ble_eq_true rfl⟩) hS (fun r1 M2 N3 H locs hw hZ hS => ?_)
  obtain ⟨hw, eM2, eN3⟩ := hw
  rw [eM2, eN3] at hZ
  refine lv_if_eq (pc := 5) (tgt := 12) hx hb d_Mo_prime_5 (by decide) (fun hc => ?_) (fun hc => ?_)
  · have hw := hw.1 hc
    refine lv_iconst (pc := 12) (v := 1) hx hb d_Mo_prime_12 (by decide) ?_
    exact j13 (1 : Int32) M N _ _ _ hZ hS hl hw
  · have hw := hw.2 hc
    refine lv_iconst (pc := 8) (v := 0) hx hb d_Mo_prime_8 (by decide) ?_
    refine lv_goto (pc := 9) (tgt := 13) hx hb d_Mo_prime_9 (by decide) ?_
    exact j13 (0 : Int32) M N _ _ _ hZ hS hl hw
