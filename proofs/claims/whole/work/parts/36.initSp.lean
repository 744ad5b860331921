theorem d_Sp_init_0 : decode prog_8_method_1_code 0 = .ok (.aload_n 0, 1) := by decide +kernel
theorem d_Sp_init_1 : decode prog_8_method_1_code 1 = .ok (.invokespecial 3, 3) := by decide +kernel
theorem d_Sp_init_4 : decode prog_8_method_1_code 4 = .ok (.aload_n 0, 1) := by decide +kernel
theorem d_Sp_init_5 : decode prog_8_method_1_code 5 = .ok (.new 9, 3) := by decide +kernel
theorem d_Sp_init_8 : decode prog_8_method_1_code 8 = .ok (.dup, 1) := by decide +kernel
theorem d_Sp_init_9 : decode prog_8_method_1_code 9 = .ok (.invokespecial 11, 3) := by decide +kernel
theorem d_Sp_init_12 : decode prog_8_method_1_code 12 = .ok (.putfield 12, 3) := by decide +kernel
theorem d_Sp_init_15 : decode prog_8_method_1_code 15 = .ok (.aload_n 0, 1) := by decide +kernel
theorem d_Sp_init_16 : decode prog_8_method_1_code 16 = .ok (.new 18, 3) := by decide +kernel
theorem d_Sp_init_19 : decode prog_8_method_1_code 19 = .ok (.dup, 1) := by decide +kernel
theorem d_Sp_init_20 : decode prog_8_method_1_code 20 = .ok (.invokespecial 20, 3) := by decide +kernel
theorem d_Sp_init_23 : decode prog_8_method_1_code 23 = .ok (.putfield 21, 3) := by decide +kernel
theorem d_Sp_init_26 : decode prog_8_method_1_code 26 = .ok (.aload_n 0, 1) := by decide +kernel
theorem d_Sp_init_27 : decode prog_8_method_1_code 27 = .ok (.new 25, 3) := by decide +kernel
theorem d_Sp_init_30 : decode prog_8_method_1_code 30 = .ok (.dup, 1) := by decide +kernel
theorem d_Sp_init_31 : decode prog_8_method_1_code 31 = .ok (.invokespecial 27, 3) := by decide +kernel
theorem d_Sp_init_34 : decode prog_8_method_1_code 34 = .ok (.putfield 28, 3) := by decide +kernel
theorem d_Sp_init_37 : decode prog_8_method_1_code 37 = .ok (.aload_n 0, 1) := by decide +kernel
theorem d_Sp_init_38 : decode prog_8_method_1_code 38 = .ok (.bipush 8, 2) := by decide +kernel
theorem d_Sp_init_40 : decode prog_8_method_1_code 40 = .ok (.newarray .long, 2) := by decide +kernel
theorem d_Sp_init_42 : decode prog_8_method_1_code 42 = .ok (.putfield 32, 3) := by decide +kernel
theorem d_Sp_init_45 : decode prog_8_method_1_code 45 = .ok (.aload_n 0, 1) := by decide +kernel
theorem d_Sp_init_46 : decode prog_8_method_1_code 46 = .ok (.bipush 8, 2) := by decide +kernel
theorem d_Sp_init_48 : decode prog_8_method_1_code 48 = .ok (.newarray .long, 2) := by decide +kernel
theorem d_Sp_init_50 : decode prog_8_method_1_code 50 = .ok (.putfield 36, 3) := by decide +kernel
theorem d_Sp_init_53 : decode prog_8_method_1_code 53 = .ok (.aload_n 0, 1) := by decide +kernel
theorem d_Sp_init_54 : decode prog_8_method_1_code 54 = .ok (.bipush 8, 2) := by decide +kernel
theorem d_Sp_init_56 : decode prog_8_method_1_code 56 = .ok (.newarray .long, 2) := by decide +kernel
theorem d_Sp_init_58 : decode prog_8_method_1_code 58 = .ok (.putfield 39, 3) := by decide +kernel
theorem d_Sp_init_61 : decode prog_8_method_1_code 61 = .ok (.aload_n 0, 1) := by decide +kernel
theorem d_Sp_init_62 : decode prog_8_method_1_code 62 = .ok (.bipush 8, 2) := by decide +kernel
theorem d_Sp_init_64 : decode prog_8_method_1_code 64 = .ok (.newarray .long, 2) := by decide +kernel
theorem d_Sp_init_66 : decode prog_8_method_1_code 66 = .ok (.putfield 42, 3) := by decide +kernel
theorem d_Sp_init_69 : decode prog_8_method_1_code 69 = .ok (.aload_n 0, 1) := by decide +kernel
theorem d_Sp_init_70 : decode prog_8_method_1_code 70 = .ok (.bipush 8, 2) := by decide +kernel
theorem d_Sp_init_72 : decode prog_8_method_1_code 72 = .ok (.newarray .long, 2) := by decide +kernel
theorem d_Sp_init_74 : decode prog_8_method_1_code 74 = .ok (.putfield 45, 3) := by decide +kernel
theorem d_Sp_init_77 : decode prog_8_method_1_code 77 = .ok (.aload_n 0, 1) := by decide +kernel
theorem d_Sp_init_78 : decode prog_8_method_1_code 78 = .ok (.bipush 8, 2) := by decide +kernel
theorem d_Sp_init_80 : decode prog_8_method_1_code 80 = .ok (.newarray .long, 2) := by decide +kernel
theorem d_Sp_init_82 : decode prog_8_method_1_code 82 = .ok (.putfield 48, 3) := by decide +kernel
theorem d_Sp_init_85 : decode prog_8_method_1_code 85 = .ok (.return_, 1) := by decide +kernel
def es_Sp (G : zG) (o : Nat) : List va_E := .inr (4, [.ref (o + 1), .ref (o + 8), .ref (o + 42), .ref (o + 64), .ref (o + 65), .ref (o + 66), .ref (o + 67), .ref (o + 68), .ref (o + 69)]) :: (es_CD G (o + 1) ++ es_MP G (o + 8) ++ es_Li G (o + 42) ++ [.inl (G.2.1, 8, .inr (.inl (fun _ => 0)))] ++ [.inl (G.2.1, 8, .inr (.inl (fun _ => 0)))] ++ [.inl (G.2.1, 8, .inr (.inl (fun _ => 0)))] ++ [.inl (G.2.1, 8, .inr (.inl (fun _ => 0)))] ++ [.inl (G.2.1, 8, .inr (.inl (fun _ => 0)))] ++ [.inl (G.2.1, 8, .inr (.inl (fun _ => 0)))])
theorem len_Sp {G : zG} {o : Nat} : (es_Sp G o).length = 70 := by simp [es_Sp, len_CD, len_Fa, len_Li, len_MP]
def ws_Sp_init : List Cond := .code y_Sp_init prog_8_method_1_code 1 none :: zall
def rm_Sp_init : Room := { frames := 2, cells := 69, slots := 550, locals := 32 }
theorem hd_Sp_init : y_Sp_init.cls ≠ "java/lang/invoke/MethodHandle" ∧ y_Sp_init.cls ≠ "java/lang/invoke/VarHandle" ∧ (parseMethodDescriptor y_Sp_init.desc).map (fun d => d.parameters.length) = some 0 := by decide +kernel
set_option maxHeartbeats 4000000 in
set_option maxRecDepth 100000 in
theorem c_Sp_init (l : Launch) (G : zG) (o : Nat) : Met l y_Sp_init ws_Sp_init rm_Sp_init (zCc G o (.inr (4, [.null, .null, .null, .null, .null, .null, .null, .null, .null]))) (zQc G o (es_Sp G o)) 69 550 (zA o) := by
  refine Met.ofW (cc := prog_8_method_1_code) (maxL := 1) (ret := none) (by decide) rfl ?_
  intro p e s m args below meth c s₁ B hml hv
  obtain ⟨rfl, hC, hK, hN, hO⟩ := hv
  have hx := B.exec
  have hb := B.bytes
  have hr := B.returns
  have hts := atoms_spec (ws := ws_Sp_init) B.pre
  have hta : ∀ w ∈ zall, w.before ([.ref o] : List Value).toArray s = true := fun w h => hts w (List.mem_cons_of_mem _ h)
  have hown : s.vm.findClass R_Sp = some m.cls := findClass_of_methodNamed B.named
  have hlocks := B.notSynchronized
  have hin : meth.name = "<init>" := (name_of_methodNamed B.named B.method).1
  have hS : va_S (zA o) s.heap s.heap [] := va_S.rf
  have hl := lv_entry ([.ref o]) (n := 1) (Nat.le_of_ble_eq_true rfl)
  rw [lg_entry_eq]
  generalize (lg_sl ([.ref o]) ++ List.replicate (1 - (lg_sl ([.ref o])).length) Slot.unset).toArray = ls at hl ⊢
  have hl : lv_has ls 1 [(0, .ref (o + 0))] := hl
  refine lv_aload_n (pc := 0) hx hb d_Sp_init_0 rfl (lv_at hl 0 rfl) ?_
  refine W.objInit hx hb hown (hta _ wd36) (hta _ wd27) (hta _ wd28) rfl (by rw [hml]; exact hl.1) rfl d_Sp_init_1 (Nat.le_of_ble_eq_true rfl) (Nat.le_of_ble_eq_true rfl) ?_
  refine W.eq (g2 := F0 m 4 ls []) rfl ?_
  refine lv_aload_n (pc := 4) hx hb d_Sp_init_4 rfl (lv_at hl 0 rfl) ?_
  refine zC_newo (pc := 5) (ci := 0) (fs := [.null, .null, .null, .null, .null, .null]) (C := R_CD) (T := T_CD) (N := 6) (k := 1) hx hb hta hin_CD ty_CD tyok_CD hown (hta _ wd37) (hta _ wd38) (hta _ wd3) hK hC hS (by simp [len_CD, len_Fa, len_Li, len_MP]) rfl (by decide) (Nat.le_of_ble_eq_true rfl) (Nat.le_of_ble_eq_true rfl) d_Sp_init_5 (fun H hC hS => ?_)
  refine lv_dup (pc := 8) hx hb d_Sp_init_8 rfl ?_
  refine z_ctor (pc := 9) (pre := .inr (4, [.null, .null, .null, .null, .null, .null, .null, .null, .null]) :: ([])) (es' := es_CD G (o + 1)) (o' := o + 1) hC (by simp [len_CD, len_Fa, len_Li, len_MP, Nat.add_assoc]) (va_runIN (host := "IntegerSplitter") (As := []) (rest := [.ref (o + 1), .ref (o + 0)]) ⟨hx, hb, hml, hown, hts⟩ (c_CD_init l G (o + 1)) ⟨va_cnB 0 hts (z_good (zgI wd41)) rfl rfl rfl (hN _ (List.mem_of_getElem? (i := 1) rfl)) (hta _ wd3) hd_CD_init ⟨Nat.le_of_ble_eq_true rfl, Nat.le_of_ble_eq_true rfl⟩, rfl, hta _ wd40⟩ (zC_preI hC (by simp [len_CD, len_Fa, len_Li, len_MP, Nat.add_assoc]) hK hN hO) rfl rfl hl.1 rfl (lv_room (Nat.le_of_ble_eq_true rfl)) d_Sp_init_9 ⟨Nat.le_of_ble_eq_true rfl, Nat.le_of_ble_eq_true rfl⟩) hS (fun H locs hC hS => ?_)
  rw [List.cons_append] at hC
  refine zC_putF (pc := 12) (ci := 4) (v := .ref (o + 1)) (ty := .object "IntegerSplitter$CommonDivisor") (C := R_Sp) (T := T_Sp) (N := 9) hx hb hta hin_Sp ty_Sp tyok_Sp nm_Sp hown hK hC hS rfl 0 (by decide) (hta _ wd134) (fun _ h9 => h9) rfl hin rfl (by decide +kernel) rfl rfl (Nat.le_of_ble_eq_true rfl) d_Sp_init_12 (fun H locs hC hS => ?_)
  have hC : zC G o (.inr (4, [.ref (o + 1), .null, .null, .null, .null, .null, .null, .null, .null]) :: _) H := hC
  refine lv_aload_n (pc := 15) hx hb d_Sp_init_15 rfl (lv_at hl 0 rfl) ?_
  refine zC_newo (pc := 16) (ci := 3) (fs := [.null, .int 0, .null, .null, .null, .null, .null, .null, .null, .null]) (C := R_MP) (T := T_MP) (N := 10) (k := 8) hx hb hta hin_MP ty_MP tyok_MP hown (hta _ wd63) (hta _ wd64) (hta _ wd4) hK hC hS (by simp [len_CD, len_Fa, len_Li, len_MP]) rfl (by decide) (Nat.le_of_ble_eq_true rfl) (Nat.le_of_ble_eq_true rfl) d_Sp_init_16 (fun H hC hS => ?_)
  refine lv_dup (pc := 19) hx hb d_Sp_init_19 rfl ?_
  refine z_ctor (pc := 20) (pre := .inr (4, [.ref (o + 1), .null, .null, .null, .null, .null, .null, .null, .null]) :: (es_CD G (o + 1))) (es' := es_MP G (o + 8)) (o' := o + 8) hC (by simp [len_CD, len_Fa, len_Li, len_MP, Nat.add_assoc]) (va_runIN (host := "IntegerSplitter") (As := []) (rest := [.ref (o + 8), .ref (o + 0)]) ⟨hx, hb, hml, hown, hts⟩ (c_MP_init l G (o + 8)) ⟨va_cnB 0 hts (z_good (zgI wd67)) rfl rfl rfl (hN _ (List.mem_of_getElem? (i := 2) rfl)) (hta _ wd4) hd_MP_init ⟨Nat.le_of_ble_eq_true rfl, Nat.le_of_ble_eq_true rfl⟩, rfl, hta _ wd66⟩ (zC_preI hC (by simp [len_CD, len_Fa, len_Li, len_MP, Nat.add_assoc]) hK hN hO) rfl rfl hl.1 rfl (lv_room (Nat.le_of_ble_eq_true rfl)) d_Sp_init_20 ⟨Nat.le_of_ble_eq_true rfl, Nat.le_of_ble_eq_true rfl⟩) hS (fun H locs hC hS => ?_)
  rw [List.cons_append] at hC
  refine zC_putF (pc := 23) (ci := 4) (v := .ref (o + 8)) (ty := .object "IntegerSplitter$ModularParts") (C := R_Sp) (T := T_Sp) (N := 9) hx hb hta hin_Sp ty_Sp tyok_Sp nm_Sp hown hK hC hS rfl 1 (by decide) (hta _ wd136) (fun _ h9 => h9) rfl hin rfl (by decide +kernel) rfl rfl (Nat.le_of_ble_eq_true rfl) d_Sp_init_23 (fun H locs hC hS => ?_)
  have hC : zC G o (.inr (4, [.ref (o + 1), .ref (o + 8), .null, .null, .null, .null, .null, .null, .null]) :: _) H := hC
  refine lv_aload_n (pc := 26) hx hb d_Sp_init_26 rfl (lv_at hl 0 rfl) ?_
  refine zC_newo (pc := 27) (ci := 2) (fs := [.null, .long 0, .null, .null, .null, .null]) (C := R_Li) (T := T_Li) (N := 6) (k := 42) hx hb hta hin_Li ty_Li tyok_Li hown (hta _ wd106) (hta _ wd107) (hta _ wd5) hK hC hS (by simp [len_CD, len_Fa, len_Li, len_MP]) rfl (by decide) (Nat.le_of_ble_eq_true rfl) (Nat.le_of_ble_eq_true rfl) d_Sp_init_27 (fun H hC hS => ?_)
  refine lv_dup (pc := 30) hx hb d_Sp_init_30 rfl ?_
  refine z_ctor (pc := 31) (pre := .inr (4, [.ref (o + 1), .ref (o + 8), .null, .null, .null, .null, .null, .null, .null]) :: (es_CD G (o + 1) ++ es_MP G (o + 8))) (es' := es_Li G (o + 42)) (o' := o + 42) hC (by simp [len_CD, len_Fa, len_Li, len_MP, Nat.add_assoc]) (va_runIN (host := "IntegerSplitter") (As := []) (rest := [.ref (o + 42), .ref (o + 0)]) ⟨hx, hb, hml, hown, hts⟩ (c_Li_init l G (o + 42)) ⟨va_cnB 0 hts (z_good (zgI wd110)) rfl rfl rfl (hN _ (List.mem_of_getElem? (i := 3) rfl)) (hta _ wd5) hd_Li_init ⟨Nat.le_of_ble_eq_true rfl, Nat.le_of_ble_eq_true rfl⟩, rfl, hta _ wd109⟩ (zC_preI hC (by simp [len_CD, len_Fa, len_Li, len_MP, Nat.add_assoc]) hK hN hO) rfl rfl hl.1 rfl (lv_room (Nat.le_of_ble_eq_true rfl)) d_Sp_init_31 ⟨Nat.le_of_ble_eq_true rfl, Nat.le_of_ble_eq_true rfl⟩) hS (fun H locs hC hS => ?_)
  rw [List.cons_append] at hC
  refine zC_putF (pc := 34) (ci := 4) (v := .ref (o + 42)) (ty := .object "IntegerSplitter$Lifting") (C := R_Sp) (T := T_Sp) (N := 9) hx hb hta hin_Sp ty_Sp tyok_Sp nm_Sp hown hK hC hS rfl 2 (by decide) (hta _ wd138) (fun _ h9 => h9) rfl hin rfl (by decide +kernel) rfl rfl (Nat.le_of_ble_eq_true rfl) d_Sp_init_34 (fun H locs hC hS => ?_)
  have hC : zC G o (.inr (4, [.ref (o + 1), .ref (o + 8), .ref (o + 42), .null, .null, .null, .null, .null, .null]) :: _) H := hC
  refine lv_aload_n (pc := 37) hx hb d_Sp_init_37 rfl (lv_at hl 0 rfl) ?_
  refine lv_bipush (pc := 38) (v := 8) hx hb d_Sp_init_38 (by decide) ?_
  refine zC_newl (pc := 40) (K := 8) (k := 64) hx hb (hta _ wd62) hK hC hS (by simp [len_CD, len_Fa, len_Li, len_MP]) (by decide +kernel) (by decide +kernel) (by decide +kernel) (Nat.le_of_ble_eq_true rfl) (Nat.le_of_ble_eq_true rfl) d_Sp_init_40 (fun H hC hS => ?_)
  rw [List.cons_append] at hC
  refine zC_putF (pc := 42) (ci := 4) (v := .ref (o + 64)) (ty := .array .long) (C := R_Sp) (T := T_Sp) (N := 9) hx hb hta hin_Sp ty_Sp tyok_Sp nm_Sp hown hK hC hS rfl 3 (by decide) (hta _ wd139) (fun _ h9 => h9) rfl hin rfl (by decide +kernel) rfl rfl (Nat.le_of_ble_eq_true rfl) d_Sp_init_42 (fun H locs hC hS => ?_)
  have hC : zC G o (.inr (4, [.ref (o + 1), .ref (o + 8), .ref (o + 42), .ref (o + 64), .null, .null, .null, .null, .null]) :: _) H := hC
  refine lv_aload_n (pc := 45) hx hb d_Sp_init_45 rfl (lv_at hl 0 rfl) ?_
  refine lv_bipush (pc := 46) (v := 8) hx hb d_Sp_init_46 (by decide) ?_
  refine zC_newl (pc := 48) (K := 8) (k := 65) hx hb (hta _ wd62) hK hC hS (by simp [len_CD, len_Fa, len_Li, len_MP]) (by decide +kernel) (by decide +kernel) (by decide +kernel) (Nat.le_of_ble_eq_true rfl) (Nat.le_of_ble_eq_true rfl) d_Sp_init_48 (fun H hC hS => ?_)
  rw [List.cons_append] at hC
  refine zC_putF (pc := 50) (ci := 4) (v := .ref (o + 65)) (ty := .array .long) (C := R_Sp) (T := T_Sp) (N := 9) hx hb hta hin_Sp ty_Sp tyok_Sp nm_Sp hown hK hC hS rfl 4 (by decide) (hta _ wd140) (fun _ h9 => h9) rfl hin rfl (by decide +kernel) rfl rfl (Nat.le_of_ble_eq_true rfl) d_Sp_init_50 (fun H locs hC hS => ?_)
  have hC : zC G o (.inr (4, [.ref (o + 1), .ref (o + 8), .ref (o + 42), .ref (o + 64), .ref (o + 65), .null, .null, .null, .null]) :: _) H := hC
  refine lv_aload_n (pc := 53) hx hb d_Sp_init_53 rfl (lv_at hl 0 rfl) ?_
  refine lv_bipush (pc := 54) (v := 8) hx hb d_Sp_init_54 (by decide) ?_
  refine zC_newl (pc := 56) (K := 8) (k := 66) hx hb (hta _ wd62) hK hC hS (by simp [len_CD, len_Fa, len_Li, len_MP]) (by decide +kernel) (by decide +kernel) (by decide +kernel) (Nat.le_of_ble_eq_true rfl) (Nat.le_of_ble_eq_true rfl) d_Sp_init_56 (fun H hC hS => ?_)
  rw [List.cons_append] at hC
  refine zC_putF (pc := 58) (ci := 4) (v := .ref (o + 66)) (ty := .array .long) (C := R_Sp) (T := T_Sp) (N := 9) hx hb hta hin_Sp ty_Sp tyok_Sp nm_Sp hown hK hC hS rfl 5 (by decide) (hta _ wd141) (fun _ h9 => h9) rfl hin rfl (by decide +kernel) rfl rfl (Nat.le_of_ble_eq_true rfl) d_Sp_init_58 (fun H locs hC hS => ?_)
  have hC : zC G o (.inr (4, [.ref (o + 1), .ref (o + 8), .ref (o + 42), .ref (o + 64), .ref (o + 65), .ref (o + 66), .null, .null, .null]) :: _) H := hC
  refine lv_aload_n (pc := 61) hx hb d_Sp_init_61 rfl (lv_at hl 0 rfl) ?_
  refine lv_bipush (pc := 62) (v := 8) hx hb d_Sp_init_62 (by decide) ?_
  refine zC_newl (pc := 64) (K := 8) (k := 67) hx hb (hta _ wd62) hK hC hS (by simp [len_CD, len_Fa, len_Li, len_MP]) (by decide +kernel) (by decide +kernel) (by decide +kernel) (Nat.le_of_ble_eq_true rfl) (Nat.le_of_ble_eq_true rfl) d_Sp_init_64 (fun H hC hS => ?_)
  rw [List.cons_append] at hC
  refine zC_putF (pc := 66) (ci := 4) (v := .ref (o + 67)) (ty := .array .long) (C := R_Sp) (T := T_Sp) (N := 9) hx hb hta hin_Sp ty_Sp tyok_Sp nm_Sp hown hK hC hS rfl 6 (by decide) (hta _ wd142) (fun _ h9 => h9) rfl hin rfl (by decide +kernel) rfl rfl (Nat.le_of_ble_eq_true rfl) d_Sp_init_66 (fun H locs hC hS => ?_)
  have hC : zC G o (.inr (4, [.ref (o + 1), .ref (o + 8), .ref (o + 42), .ref (o + 64), .ref (o + 65), .ref (o + 66), .ref (o + 67), .null, .null]) :: _) H := hC
  refine lv_aload_n (pc := 69) hx hb d_Sp_init_69 rfl (lv_at hl 0 rfl) ?_
  refine lv_bipush (pc := 70) (v := 8) hx hb d_Sp_init_70 (by decide) ?_
  refine zC_newl (pc := 72) (K := 8) (k := 68) hx hb (hta _ wd62) hK hC hS (by simp [len_CD, len_Fa, len_Li, len_MP]) (by decide +kernel) (by decide +kernel) (by decide +kernel) (Nat.le_of_ble_eq_true rfl) (Nat.le_of_ble_eq_true rfl) d_Sp_init_72 (fun H hC hS => ?_)
  rw [List.cons_append] at hC
  refine zC_putF (pc := 74) (ci := 4) (v := .ref (o + 68)) (ty := .array .long) (C := R_Sp) (T := T_Sp) (N := 9) hx hb hta hin_Sp ty_Sp tyok_Sp nm_Sp hown hK hC hS rfl 7 (by decide) (hta _ wd143) (fun _ h9 => h9) rfl hin rfl (by decide +kernel) rfl rfl (Nat.le_of_ble_eq_true rfl) d_Sp_init_74 (fun H locs hC hS => ?_)
  have hC : zC G o (.inr (4, [.ref (o + 1), .ref (o + 8), .ref (o + 42), .ref (o + 64), .ref (o + 65), .ref (o + 66), .ref (o + 67), .ref (o + 68), .null]) :: _) H := hC
  refine lv_aload_n (pc := 77) hx hb d_Sp_init_77 rfl (lv_at hl 0 rfl) ?_
  refine lv_bipush (pc := 78) (v := 8) hx hb d_Sp_init_78 (by decide) ?_
  refine zC_newl (pc := 80) (K := 8) (k := 69) hx hb (hta _ wd62) hK hC hS (by simp [len_CD, len_Fa, len_Li, len_MP]) (by decide +kernel) (by decide +kernel) (by decide +kernel) (Nat.le_of_ble_eq_true rfl) (Nat.le_of_ble_eq_true rfl) d_Sp_init_80 (fun H hC hS => ?_)
  rw [List.cons_append] at hC
  refine zC_putF (pc := 82) (ci := 4) (v := .ref (o + 69)) (ty := .array .long) (C := R_Sp) (T := T_Sp) (N := 9) hx hb hta hin_Sp ty_Sp tyok_Sp nm_Sp hown hK hC hS rfl 8 (by decide) (hta _ wd144) (fun _ h9 => h9) rfl hin rfl (by decide +kernel) rfl rfl (Nat.le_of_ble_eq_true rfl) d_Sp_init_82 (fun H locs hC hS => ?_)
  have hC : zC G o (.inr (4, [.ref (o + 1), .ref (o + 8), .ref (o + 42), .ref (o + 64), .ref (o + 65), .ref (o + 66), .ref (o + 67), .ref (o + 68), .ref (o + 69)]) :: _) H := hC
  exact zC_vret hx hb hr hlocks hC hS d_Sp_init_85
