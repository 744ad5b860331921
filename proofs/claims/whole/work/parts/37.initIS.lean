theorem d_IS_init_0 : decode prog_1_method_1_code 0 = .ok (.aload_n 0, 1) := by decide +kernel
theorem d_IS_init_1 : decode prog_1_method_1_code 1 = .ok (.invokespecial 1, 3) := by decide +kernel
theorem d_IS_init_4 : decode prog_1_method_1_code 4 = .ok (.aload_n 0, 1) := by decide +kernel
theorem d_IS_init_5 : decode prog_1_method_1_code 5 = .ok (.iconst 4, 1) := by decide +kernel
theorem d_IS_init_6 : decode prog_1_method_1_code 6 = .ok (.bipush 8, 2) := by decide +kernel
theorem d_IS_init_8 : decode prog_1_method_1_code 8 = .ok (.multianewarray 9 2, 4) := by decide +kernel
theorem d_IS_init_12 : decode prog_1_method_1_code 12 = .ok (.putfield 11, 3) := by decide +kernel
theorem d_IS_init_15 : decode prog_1_method_1_code 15 = .ok (.aload_n 0, 1) := by decide +kernel
theorem d_IS_init_16 : decode prog_1_method_1_code 16 = .ok (.bipush 16, 2) := by decide +kernel
theorem d_IS_init_18 : decode prog_1_method_1_code 18 = .ok (.newarray .long, 2) := by decide +kernel
theorem d_IS_init_20 : decode prog_1_method_1_code 20 = .ok (.putfield 14, 3) := by decide +kernel
theorem d_IS_init_23 : decode prog_1_method_1_code 23 = .ok (.aload_n 0, 1) := by decide +kernel
theorem d_IS_init_24 : decode prog_1_method_1_code 24 = .ok (.bipush 8, 2) := by decide +kernel
theorem d_IS_init_26 : decode prog_1_method_1_code 26 = .ok (.newarray .long, 2) := by decide +kernel
theorem d_IS_init_28 : decode prog_1_method_1_code 28 = .ok (.putfield 18, 3) := by decide +kernel
theorem d_IS_init_31 : decode prog_1_method_1_code 31 = .ok (.aload_n 0, 1) := by decide +kernel
theorem d_IS_init_32 : decode prog_1_method_1_code 32 = .ok (.bipush 8, 2) := by decide +kernel
theorem d_IS_init_34 : decode prog_1_method_1_code 34 = .ok (.newarray .long, 2) := by decide +kernel
theorem d_IS_init_36 : decode prog_1_method_1_code 36 = .ok (.putfield 21, 3) := by decide +kernel
theorem d_IS_init_39 : decode prog_1_method_1_code 39 = .ok (.aload_n 0, 1) := by decide +kernel
theorem d_IS_init_40 : decode prog_1_method_1_code 40 = .ok (.new 24, 3) := by decide +kernel
theorem d_IS_init_43 : decode prog_1_method_1_code 43 = .ok (.dup, 1) := by decide +kernel
theorem d_IS_init_44 : decode prog_1_method_1_code 44 = .ok (.invokespecial 26, 3) := by decide +kernel
theorem d_IS_init_47 : decode prog_1_method_1_code 47 = .ok (.putfield 27, 3) := by decide +kernel
theorem d_IS_init_50 : decode prog_1_method_1_code 50 = .ok (.aload_n 0, 1) := by decide +kernel
theorem d_IS_init_51 : decode prog_1_method_1_code 51 = .ok (.new 31, 3) := by decide +kernel
theorem d_IS_init_54 : decode prog_1_method_1_code 54 = .ok (.dup, 1) := by decide +kernel
theorem d_IS_init_55 : decode prog_1_method_1_code 55 = .ok (.invokespecial 33, 3) := by decide +kernel
theorem d_IS_init_58 : decode prog_1_method_1_code 58 = .ok (.putfield 34, 3) := by decide +kernel
theorem d_IS_init_61 : decode prog_1_method_1_code 61 = .ok (.aload_n 0, 1) := by decide +kernel
theorem d_IS_init_62 : decode prog_1_method_1_code 62 = .ok (.new 31, 3) := by decide +kernel
theorem d_IS_init_65 : decode prog_1_method_1_code 65 = .ok (.dup, 1) := by decide +kernel
theorem d_IS_init_66 : decode prog_1_method_1_code 66 = .ok (.invokespecial 33, 3) := by decide +kernel
theorem d_IS_init_69 : decode prog_1_method_1_code 69 = .ok (.putfield 38, 3) := by decide +kernel
theorem d_IS_init_72 : decode prog_1_method_1_code 72 = .ok (.return_, 1) := by decide +kernel
def es_IS (G : zG) (o : Nat) : List va_E := .inr (5, [.ref (o + 1), .ref (o + 6), .ref (o + 7), .ref (o + 8), .ref (o + 9), .ref (o + 79), .ref (o + 89)]) :: ([.inl (G.2.2.2, 4, .inr (.inr (.inr (.inr (fun i => some (o + (1 + 1 + i)))))))] ++ List.replicate 4 (.inl (G.2.1, 8, .inr (.inl (fun _ => 0)))) ++ [.inl (G.2.1, 16, .inr (.inl (fun _ => 0)))] ++ [.inl (G.2.1, 8, .inr (.inl (fun _ => 0)))] ++ [.inl (G.2.1, 8, .inr (.inl (fun _ => 0)))] ++ es_Sp G (o + 9) ++ es_Fa G (o + 79) ++ es_Fa G (o + 89))
theorem len_IS {G : zG} {o : Nat} : (es_IS G o).length = 99 := by simp [es_IS, len_CD, len_Fa, len_Li, len_MP, len_Sp]
def ws_IS_init : List Cond := .code y_IS_init prog_1_method_1_code 1 none :: zall
def rm_IS_init : Room := { frames := 3, cells := 98, slots := 775, locals := 52 }
theorem hd_IS_init : y_IS_init.cls ≠ "java/lang/invoke/MethodHandle" ∧ y_IS_init.cls ≠ "java/lang/invoke/VarHandle" ∧ (parseMethodDescriptor y_IS_init.desc).map (fun d => d.parameters.length) = some 0 := by decide +kernel
set_option maxHeartbeats 4000000 in
set_option maxRecDepth 100000 in
theorem c_IS_init (l : Launch) (G : zG) (o : Nat) : Met l y_IS_init ws_IS_init rm_IS_init (zCc G o (.inr (5, [.null, .null, .null, .null, .null, .null, .null]))) (zQc G o (es_IS G o)) 98 775 (zA o) := by
  refine Met.ofW (cc := prog_1_method_1_code) (maxL := 1) (ret := none) (by decide) rfl ?_
  intro p e s m args below meth c s₁ B hml hv
  obtain ⟨rfl, hC, hK, hN, hO⟩ := hv
  have hx := B.exec
  have hb := B.bytes
  have hr := B.returns
  have hts := atoms_spec (ws := ws_IS_init) B.pre
  have hta : ∀ w ∈ zall, w.before ([.ref o] : List Value).toArray s = true := fun w h => hts w (List.mem_cons_of_mem _ h)
  have hown : s.vm.findClass R_IS = some m.cls := findClass_of_methodNamed B.named
  have hlocks := B.notSynchronized
  have hin : meth.name = "<init>" := (name_of_methodNamed B.named B.method).1
  have hS : va_S (zA o) s.heap s.heap [] := va_S.rf
  have hl := lv_entry ([.ref o]) (n := 1) (Nat.le_of_ble_eq_true rfl)
  rw [lg_entry_eq]
  generalize (lg_sl ([.ref o]) ++ List.replicate (1 - (lg_sl ([.ref o])).length) Slot.unset).toArray = ls at hl ⊢
  have hl : lv_has ls 1 [(0, .ref (o + 0))] := hl
  refine lv_aload_n (pc := 0) hx hb d_IS_init_0 rfl (lv_at hl 0 rfl) ?_
  refine W.objInit hx hb hown (hta _ wd26) (hta _ wd27) (hta _ wd28) rfl (by rw [hml]; exact hl.1) rfl d_IS_init_1 (Nat.le_of_ble_eq_true rfl) (Nat.le_of_ble_eq_true rfl) ?_
  refine W.eq (g2 := F0 m 4 ls []) rfl ?_
  refine lv_aload_n (pc := 4) hx hb d_IS_init_4 rfl (lv_at hl 0 rfl) ?_
  refine lv_iconst (pc := 5) (v := 4) hx hb d_IS_init_5 (by decide) ?_
  refine lv_bipush (pc := 6) (v := 8) hx hb d_IS_init_6 (by decide) ?_
  refine zC_mna (pc := 8) (K := 4) (k := 1) hx hb hown (hta _ wd29) hO (hta _ wd62) hK hC hS (by simp [len_CD, len_Fa, len_Li, len_MP, len_Sp]) (by decide +kernel) (by decide +kernel) (by decide +kernel) (Nat.le_of_ble_eq_true rfl) (Nat.le_of_ble_eq_true rfl) d_IS_init_8 (fun H hC hS => ?_)
  rw [List.cons_append, List.cons_append] at hC
  refine zC_putF (pc := 12) (ci := 5) (v := .ref (o + 1)) (ty := .array (.array .long)) (C := R_IS) (T := T_IS) (N := 7) hx hb hta hin_IS ty_IS tyok_IS nm_IS hown hK hC hS rfl 0 (by decide) (hta _ wd188) (fun _ h9 => h9) rfl hin rfl (by decide +kernel) rfl rfl (Nat.le_of_ble_eq_true rfl) d_IS_init_12 (fun H locs hC hS => ?_)
  have hC : zC G o (.inr (5, [.ref (o + 1), .null, .null, .null, .null, .null, .null]) :: _) H := hC
  refine lv_aload_n (pc := 15) hx hb d_IS_init_15 rfl (lv_at hl 0 rfl) ?_
  refine lv_bipush (pc := 16) (v := 16) hx hb d_IS_init_16 (by decide) ?_
  refine zC_newl (pc := 18) (K := 16) (k := 6) hx hb (hta _ wd62) hK hC hS (by simp [len_CD, len_Fa, len_Li, len_MP, len_Sp]) (by decide +kernel) (by decide +kernel) (by decide +kernel) (Nat.le_of_ble_eq_true rfl) (Nat.le_of_ble_eq_true rfl) d_IS_init_18 (fun H hC hS => ?_)
  rw [List.cons_append] at hC
  refine zC_putF (pc := 20) (ci := 5) (v := .ref (o + 6)) (ty := .array .long) (C := R_IS) (T := T_IS) (N := 7) hx hb hta hin_IS ty_IS tyok_IS nm_IS hown hK hC hS rfl 1 (by decide) (hta _ wd189) (fun _ h9 => h9) rfl hin rfl (by decide +kernel) rfl rfl (Nat.le_of_ble_eq_true rfl) d_IS_init_20 (fun H locs hC hS => ?_)
  have hC : zC G o (.inr (5, [.ref (o + 1), .ref (o + 6), .null, .null, .null, .null, .null]) :: _) H := hC
  refine lv_aload_n (pc := 23) hx hb d_IS_init_23 rfl (lv_at hl 0 rfl) ?_
  refine lv_bipush (pc := 24) (v := 8) hx hb d_IS_init_24 (by decide) ?_
  refine zC_newl (pc := 26) (K := 8) (k := 7) hx hb (hta _ wd62) hK hC hS (by simp [len_CD, len_Fa, len_Li, len_MP, len_Sp]) (by decide +kernel) (by decide +kernel) (by decide +kernel) (Nat.le_of_ble_eq_true rfl) (Nat.le_of_ble_eq_true rfl) d_IS_init_26 (fun H hC hS => ?_)
  rw [List.cons_append] at hC
  refine zC_putF (pc := 28) (ci := 5) (v := .ref (o + 7)) (ty := .array .long) (C := R_IS) (T := T_IS) (N := 7) hx hb hta hin_IS ty_IS tyok_IS nm_IS hown hK hC hS rfl 2 (by decide) (hta _ wd190) (fun _ h9 => h9) rfl hin rfl (by decide +kernel) rfl rfl (Nat.le_of_ble_eq_true rfl) d_IS_init_28 (fun H locs hC hS => ?_)
  have hC : zC G o (.inr (5, [.ref (o + 1), .ref (o + 6), .ref (o + 7), .null, .null, .null, .null]) :: _) H := hC
  refine lv_aload_n (pc := 31) hx hb d_IS_init_31 rfl (lv_at hl 0 rfl) ?_
  refine lv_bipush (pc := 32) (v := 8) hx hb d_IS_init_32 (by decide) ?_
  refine zC_newl (pc := 34) (K := 8) (k := 8) hx hb (hta _ wd62) hK hC hS (by simp [len_CD, len_Fa, len_Li, len_MP, len_Sp]) (by decide +kernel) (by decide +kernel) (by decide +kernel) (Nat.le_of_ble_eq_true rfl) (Nat.le_of_ble_eq_true rfl) d_IS_init_34 (fun H hC hS => ?_)
  rw [List.cons_append] at hC
  refine zC_putF (pc := 36) (ci := 5) (v := .ref (o + 8)) (ty := .array .long) (C := R_IS) (T := T_IS) (N := 7) hx hb hta hin_IS ty_IS tyok_IS nm_IS hown hK hC hS rfl 3 (by decide) (hta _ wd191) (fun _ h9 => h9) rfl hin rfl (by decide +kernel) rfl rfl (Nat.le_of_ble_eq_true rfl) d_IS_init_36 (fun H locs hC hS => ?_)
  have hC : zC G o (.inr (5, [.ref (o + 1), .ref (o + 6), .ref (o + 7), .ref (o + 8), .null, .null, .null]) :: _) H := hC
  refine lv_aload_n (pc := 39) hx hb d_IS_init_39 rfl (lv_at hl 0 rfl) ?_
  refine zC_newo (pc := 40) (ci := 4) (fs := [.null, .null, .null, .null, .null, .null, .null, .null, .null]) (C := R_Sp) (T := T_Sp) (N := 9) (k := 9) hx hb hta hin_Sp ty_Sp tyok_Sp hown (hta _ wd31) (hta _ wd32) (hta _ wd2) hK hC hS (by simp [len_CD, len_Fa, len_Li, len_MP, len_Sp]) rfl (by decide) (Nat.le_of_ble_eq_true rfl) (Nat.le_of_ble_eq_true rfl) d_IS_init_40 (fun H hC hS => ?_)
  refine lv_dup (pc := 43) hx hb d_IS_init_43 rfl ?_
  refine z_ctor (pc := 44) (pre := .inr (5, [.ref (o + 1), .ref (o + 6), .ref (o + 7), .ref (o + 8), .null, .null, .null]) :: ([.inl (G.2.2.2, 4, .inr (.inr (.inr (.inr (fun i => some (o + (1 + 1 + i)))))))] ++ List.replicate 4 (.inl (G.2.1, 8, .inr (.inl (fun _ => 0)))) ++ [.inl (G.2.1, 16, .inr (.inl (fun _ => 0)))] ++ [.inl (G.2.1, 8, .inr (.inl (fun _ => 0)))] ++ [.inl (G.2.1, 8, .inr (.inl (fun _ => 0)))])) (es' := es_Sp G (o + 9)) (o' := o + 9) hC (by simp [len_CD, len_Fa, len_Li, len_MP, len_Sp, Nat.add_assoc]) (va_runIN (host := "IntegerSplitter") (As := []) (rest := [.ref (o + 9), .ref (o + 0)]) ⟨hx, hb, hml, hown, hts⟩ (c_Sp_init l G (o + 9)) ⟨va_cnB 0 hts (z_good (zgI wd35)) rfl rfl rfl (hN _ (List.mem_of_getElem? (i := 0) rfl)) (hta _ wd2) hd_Sp_init ⟨Nat.le_of_ble_eq_true rfl, Nat.le_of_ble_eq_true rfl⟩, rfl, hta _ wd34⟩ (zC_preI hC (by simp [len_CD, len_Fa, len_Li, len_MP, len_Sp, Nat.add_assoc]) hK hN hO) rfl rfl hl.1 rfl (lv_room (Nat.le_of_ble_eq_true rfl)) d_IS_init_44 ⟨Nat.le_of_ble_eq_true rfl, Nat.le_of_ble_eq_true rfl⟩) hS (fun H locs hC hS => ?_)
  rw [List.cons_append] at hC
  refine zC_putF (pc := 47) (ci := 5) (v := .ref (o + 9)) (ty := .object "IntegerSplitter$Splitter") (C := R_IS) (T := T_IS) (N := 7) hx hb hta hin_IS ty_IS tyok_IS nm_IS hown hK hC hS rfl 4 (by decide) (hta _ wd192) (fun _ h9 => h9) rfl hin rfl (by decide +kernel) rfl rfl (Nat.le_of_ble_eq_true rfl) d_IS_init_47 (fun H locs hC hS => ?_)
  have hC : zC G o (.inr (5, [.ref (o + 1), .ref (o + 6), .ref (o + 7), .ref (o + 8), .ref (o + 9), .null, .null]) :: _) H := hC
  refine lv_aload_n (pc := 50) hx hb d_IS_init_50 rfl (lv_at hl 0 rfl) ?_
  refine zC_newo (pc := 51) (ci := 1) (fs := [.null, .null, .int 0, .long 0]) (C := R_Fa) (T := T_Fa) (N := 4) (k := 79) hx hb hta hin_Fa ty_Fa tyok_Fa hown (hta _ wd164) (hta _ wd165) (hta _ wd6) hK hC hS (by simp [len_CD, len_Fa, len_Li, len_MP, len_Sp]) rfl (by decide) (Nat.le_of_ble_eq_true rfl) (Nat.le_of_ble_eq_true rfl) d_IS_init_51 (fun H hC hS => ?_)
  refine lv_dup (pc := 54) hx hb d_IS_init_54 rfl ?_
  refine z_ctor (pc := 55) (pre := .inr (5, [.ref (o + 1), .ref (o + 6), .ref (o + 7), .ref (o + 8), .ref (o + 9), .null, .null]) :: ([.inl (G.2.2.2, 4, .inr (.inr (.inr (.inr (fun i => some (o + (1 + 1 + i)))))))] ++ List.replicate 4 (.inl (G.2.1, 8, .inr (.inl (fun _ => 0)))) ++ [.inl (G.2.1, 16, .inr (.inl (fun _ => 0)))] ++ [.inl (G.2.1, 8, .inr (.inl (fun _ => 0)))] ++ [.inl (G.2.1, 8, .inr (.inl (fun _ => 0)))] ++ es_Sp G (o + 9))) (es' := es_Fa G (o + 79)) (o' := o + 79) hC (by simp [len_CD, len_Fa, len_Li, len_MP, len_Sp, Nat.add_assoc]) (va_runIN (host := "IntegerSplitter") (As := []) (rest := [.ref (o + 79), .ref (o + 0)]) ⟨hx, hb, hml, hown, hts⟩ (c_Fa_init l G (o + 79)) ⟨va_cnB 0 hts (z_good (zgI wd168)) rfl rfl rfl (hN _ (List.mem_of_getElem? (i := 4) rfl)) (hta _ wd6) hd_Fa_init ⟨Nat.le_of_ble_eq_true rfl, Nat.le_of_ble_eq_true rfl⟩, rfl, hta _ wd167⟩ (zC_preI hC (by simp [len_CD, len_Fa, len_Li, len_MP, len_Sp, Nat.add_assoc]) hK hN hO) rfl rfl hl.1 rfl (lv_room (Nat.le_of_ble_eq_true rfl)) d_IS_init_55 ⟨Nat.le_of_ble_eq_true rfl, Nat.le_of_ble_eq_true rfl⟩) hS (fun H locs hC hS => ?_)
  rw [List.cons_append] at hC
  refine zC_putF (pc := 58) (ci := 5) (v := .ref (o + 79)) (ty := .object "IntegerSplitter$Factors") (C := R_IS) (T := T_IS) (N := 7) hx hb hta hin_IS ty_IS tyok_IS nm_IS hown hK hC hS rfl 5 (by decide) (hta _ wd193) (fun _ h9 => h9) rfl hin rfl (by decide +kernel) rfl rfl (Nat.le_of_ble_eq_true rfl) d_IS_init_58 (fun H locs hC hS => ?_)
  have hC : zC G o (.inr (5, [.ref (o + 1), .ref (o + 6), .ref (o + 7), .ref (o + 8), .ref (o + 9), .ref (o + 79), .null]) :: _) H := hC
  refine lv_aload_n (pc := 61) hx hb d_IS_init_61 rfl (lv_at hl 0 rfl) ?_
  refine zC_newo (pc := 62) (ci := 1) (fs := [.null, .null, .int 0, .long 0]) (C := R_Fa) (T := T_Fa) (N := 4) (k := 89) hx hb hta hin_Fa ty_Fa tyok_Fa hown (hta _ wd164) (hta _ wd165) (hta _ wd6) hK hC hS (by simp [len_CD, len_Fa, len_Li, len_MP, len_Sp]) rfl (by decide) (Nat.le_of_ble_eq_true rfl) (Nat.le_of_ble_eq_true rfl) d_IS_init_62 (fun H hC hS => ?_)
  refine lv_dup (pc := 65) hx hb d_IS_init_65 rfl ?_
  refine z_ctor (pc := 66) (pre := .inr (5, [.ref (o + 1), .ref (o + 6), .ref (o + 7), .ref (o + 8), .ref (o + 9), .ref (o + 79), .null]) :: ([.inl (G.2.2.2, 4, .inr (.inr (.inr (.inr (fun i => some (o + (1 + 1 + i)))))))] ++ List.replicate 4 (.inl (G.2.1, 8, .inr (.inl (fun _ => 0)))) ++ [.inl (G.2.1, 16, .inr (.inl (fun _ => 0)))] ++ [.inl (G.2.1, 8, .inr (.inl (fun _ => 0)))] ++ [.inl (G.2.1, 8, .inr (.inl (fun _ => 0)))] ++ es_Sp G (o + 9) ++ es_Fa G (o + 79))) (es' := es_Fa G (o + 89)) (o' := o + 89) hC (by simp [len_CD, len_Fa, len_Li, len_MP, len_Sp, Nat.add_assoc]) (va_runIN (host := "IntegerSplitter") (As := []) (rest := [.ref (o + 89), .ref (o + 0)]) ⟨hx, hb, hml, hown, hts⟩ (c_Fa_init l G (o + 89)) ⟨va_cnB 0 hts (z_good (zgI wd168)) rfl rfl rfl (hN _ (List.mem_of_getElem? (i := 4) rfl)) (hta _ wd6) hd_Fa_init ⟨Nat.le_of_ble_eq_true rfl, Nat.le_of_ble_eq_true rfl⟩, rfl, hta _ wd167⟩ (zC_preI hC (by simp [len_CD, len_Fa, len_Li, len_MP, len_Sp, Nat.add_assoc]) hK hN hO) rfl rfl hl.1 rfl (lv_room (Nat.le_of_ble_eq_true rfl)) d_IS_init_66 ⟨Nat.le_of_ble_eq_true rfl, Nat.le_of_ble_eq_true rfl⟩) hS (fun H locs hC hS => ?_)
  rw [List.cons_append] at hC
  refine zC_putF (pc := 69) (ci := 5) (v := .ref (o + 89)) (ty := .object "IntegerSplitter$Factors") (C := R_IS) (T := T_IS) (N := 7) hx hb hta hin_IS ty_IS tyok_IS nm_IS hown hK hC hS rfl 6 (by decide) (hta _ wd194) (fun _ h9 => h9) rfl hin rfl (by decide +kernel) rfl rfl (Nat.le_of_ble_eq_true rfl) d_IS_init_69 (fun H locs hC hS => ?_)
  have hC : zC G o (.inr (5, [.ref (o + 1), .ref (o + 6), .ref (o + 7), .ref (o + 8), .ref (o + 9), .ref (o + 79), .ref (o + 89)]) :: _) H := hC
  exact zC_vret hx hb hr hlocks hC hS d_IS_init_72
