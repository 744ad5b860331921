theorem d_Li_init_0 : decode prog_4_method_1_code 0 = .ok (.aload_n 0, 1) := by decide +kernel
theorem d_Li_init_1 : decode prog_4_method_1_code 1 = .ok (.invokespecial 3, 3) := by decide +kernel
theorem d_Li_init_4 : decode prog_4_method_1_code 4 = .ok (.aload_n 0, 1) := by decide +kernel
theorem d_Li_init_5 : decode prog_4_method_1_code 5 = .ok (.bipush 8, 2) := by decide +kernel
theorem d_Li_init_7 : decode prog_4_method_1_code 7 = .ok (.bipush 8, 2) := by decide +kernel
theorem d_Li_init_9 : decode prog_4_method_1_code 9 = .ok (.multianewarray 9 2, 4) := by decide +kernel
theorem d_Li_init_13 : decode prog_4_method_1_code 13 = .ok (.putfield 11, 3) := by decide +kernel
theorem d_Li_init_16 : decode prog_4_method_1_code 16 = .ok (.aload_n 0, 1) := by decide +kernel
theorem d_Li_init_17 : decode prog_4_method_1_code 17 = .ok (.lconst 1, 1) := by decide +kernel
theorem d_Li_init_18 : decode prog_4_method_1_code 18 = .ok (.putfield 16, 3) := by decide +kernel
theorem d_Li_init_21 : decode prog_4_method_1_code 21 = .ok (.aload_n 0, 1) := by decide +kernel
theorem d_Li_init_22 : decode prog_4_method_1_code 22 = .ok (.bipush 8, 2) := by decide +kernel
theorem d_Li_init_24 : decode prog_4_method_1_code 24 = .ok (.bipush 8, 2) := by decide +kernel
theorem d_Li_init_26 : decode prog_4_method_1_code 26 = .ok (.multianewarray 9 2, 4) := by decide +kernel
theorem d_Li_init_30 : decode prog_4_method_1_code 30 = .ok (.putfield 20, 3) := by decide +kernel
theorem d_Li_init_33 : decode prog_4_method_1_code 33 = .ok (.aload_n 0, 1) := by decide +kernel
theorem d_Li_init_34 : decode prog_4_method_1_code 34 = .ok (.bipush 8, 2) := by decide +kernel
theorem d_Li_init_36 : decode prog_4_method_1_code 36 = .ok (.newarray .long, 2) := by decide +kernel
theorem d_Li_init_38 : decode prog_4_method_1_code 38 = .ok (.putfield 23, 3) := by decide +kernel
theorem d_Li_init_41 : decode prog_4_method_1_code 41 = .ok (.aload_n 0, 1) := by decide +kernel
theorem d_Li_init_42 : decode prog_4_method_1_code 42 = .ok (.bipush 8, 2) := by decide +kernel
theorem d_Li_init_44 : decode prog_4_method_1_code 44 = .ok (.newarray .long, 2) := by decide +kernel
theorem d_Li_init_46 : decode prog_4_method_1_code 46 = .ok (.putfield 27, 3) := by decide +kernel
theorem d_Li_init_49 : decode prog_4_method_1_code 49 = .ok (.aload_n 0, 1) := by decide +kernel
theorem d_Li_init_50 : decode prog_4_method_1_code 50 = .ok (.bipush 8, 2) := by decide +kernel
theorem d_Li_init_52 : decode prog_4_method_1_code 52 = .ok (.newarray .long, 2) := by decide +kernel
theorem d_Li_init_54 : decode prog_4_method_1_code 54 = .ok (.putfield 30, 3) := by decide +kernel
theorem d_Li_init_57 : decode prog_4_method_1_code 57 = .ok (.return_, 1) := by decide +kernel
def es_Li (G : zG) (o : Nat) : List va_E := .inr (2, [.ref (o + 1), .long 1, .ref (o + 10), .ref (o + 19), .ref (o + 20), .ref (o + 21)]) :: ([.inl (G.2.2.2, 8, .inr (.inr (.inr (.inr (fun i => some (o + (1 + 1 + i)))))))] ++ List.replicate 8 (.inl (G.2.1, 8, .inr (.inl (fun _ => 0)))) ++ [.inl (G.2.2.2, 8, .inr (.inr (.inr (.inr (fun i => some (o + (10 + 1 + i)))))))] ++ List.replicate 8 (.inl (G.2.1, 8, .inr (.inl (fun _ => 0)))) ++ [.inl (G.2.1, 8, .inr (.inl (fun _ => 0)))] ++ [.inl (G.2.1, 8, .inr (.inl (fun _ => 0)))] ++ [.inl (G.2.1, 8, .inr (.inl (fun _ => 0)))])
theorem len_Li {G : zG} {o : Nat} : (es_Li G o).length = 22 := by simp [es_Li, len_CD, len_Fa]
def ws_Li_init : List Cond := .code y_Li_init prog_4_method_1_code 1 none :: zall
def rm_Li_init : Room := { frames := 1, cells := 21, slots := 168, locals := 12 }
theorem hd_Li_init : y_Li_init.cls ≠ "java/lang/invoke/MethodHandle" ∧ y_Li_init.cls ≠ "java/lang/invoke/VarHandle" ∧ (parseMethodDescriptor y_Li_init.desc).map (fun d => d.parameters.length) = some 0 := by decide +kernel
set_option maxHeartbeats 4000000 in
set_option maxRecDepth 100000 in
theorem c_Li_init (l : Launch) (G : zG) (o : Nat) : Met l y_Li_init ws_Li_init rm_Li_init (zCc G o (.inr (2, [.null, .long 0, .null, .null, .null, .null]))) (zQc G o (es_Li G o)) 21 168 (zA o) := by
  refine Met.ofW (cc := prog_4_method_1_code) (maxL := 1) (ret := none) (by decide) rfl ?_
  intro p e s m args below meth c s₁ B hml hv
  obtain ⟨rfl, hC, hK, hN, hO⟩ := hv
  have hx := B.exec
  have hb := B.bytes
  have hr := B.returns
  have hts := atoms_spec (ws := ws_Li_init) B.pre
  have hta : ∀ w ∈ zall, w.before ([.ref o] : List Value).toArray s = true := fun w h => hts w (List.mem_cons_of_mem _ h)
  have hown : s.vm.findClass R_Li = some m.cls := findClass_of_methodNamed B.named
  have hlocks := B.notSynchronized
  have hin : meth.name = "<init>" := (name_of_methodNamed B.named B.method).1
  have hS : va_S (zA o) s.heap s.heap [] := va_S.rf
  have hl := lv_entry ([.ref o]) (n := 1) (Nat.le_of_ble_eq_true rfl)
  rw [lg_entry_eq]
  generalize (lg_sl ([.ref o]) ++ List.replicate (1 - (lg_sl ([.ref o])).length) Slot.unset).toArray = ls at hl ⊢
  have hl : lv_has ls 1 [(0, .ref (o + 0))] := hl
  refine lv_aload_n (pc := 0) hx hb d_Li_init_0 rfl (lv_at hl 0 rfl) ?_
  refine W.objInit hx hb hown (hta _ wd111) (hta _ wd27) (hta _ wd28) rfl (by rw [hml]; exact hl.1) rfl d_Li_init_1 (Nat.le_of_ble_eq_true rfl) (Nat.le_of_ble_eq_true rfl) ?_
  refine W.eq (g2 := F0 m 4 ls []) rfl ?_
  refine lv_aload_n (pc := 4) hx hb d_Li_init_4 rfl (lv_at hl 0 rfl) ?_
  refine lv_bipush (pc := 5) (v := 8) hx hb d_Li_init_5 (by decide) ?_
  refine lv_bipush (pc := 7) (v := 8) hx hb d_Li_init_7 (by decide) ?_
  refine zC_mna (pc := 9) (K := 8) (k := 1) hx hb hown (hta _ wd112) hO (hta _ wd62) hK hC hS (by simp [len_CD, len_Fa]) (by decide +kernel) (by decide +kernel) (by decide +kernel) (Nat.le_of_ble_eq_true rfl) (Nat.le_of_ble_eq_true rfl) d_Li_init_9 (fun H hC hS => ?_)
  rw [List.cons_append, List.cons_append] at hC
  refine zC_putF (pc := 13) (ci := 2) (v := .ref (o + 1)) (ty := .array (.array .long)) (C := R_Li) (T := T_Li) (N := 6) hx hb hta hin_Li ty_Li tyok_Li nm_Li hown hK hC hS rfl 0 (by decide) (hta _ wd113) (fun _ h9 => h9) rfl hin rfl (by decide +kernel) rfl rfl (Nat.le_of_ble_eq_true rfl) d_Li_init_13 (fun H locs hC hS => ?_)
  have hC : zC G o (.inr (2, [.ref (o + 1), .long 0, .null, .null, .null, .null]) :: _) H := hC
  refine lv_aload_n (pc := 16) hx hb d_Li_init_16 rfl (lv_at hl 0 rfl) ?_
  refine lv_lconst (pc := 17) (v := 1) hx hb d_Li_init_17 (by decide) ?_
  refine zC_put (pc := 18) (ci := 2) (v := .long 1) (ty := .long) (C := R_Li) (T := T_Li) (N := 6) hx hb hta hin_Li ty_Li tyok_Li nm_Li hown hK hC hS rfl 1 (by decide) (hta _ wd115) (fun _ h9 => h9) rfl (by decide +kernel) rfl rfl (Nat.le_of_ble_eq_true rfl) d_Li_init_18 (fun H locs hC hS => ?_)
  have hC : zC G o (.inr (2, [.ref (o + 1), .long 1, .null, .null, .null, .null]) :: _) H := hC
  refine lv_aload_n (pc := 21) hx hb d_Li_init_21 rfl (lv_at hl 0 rfl) ?_
  refine lv_bipush (pc := 22) (v := 8) hx hb d_Li_init_22 (by decide) ?_
  refine lv_bipush (pc := 24) (v := 8) hx hb d_Li_init_24 (by decide) ?_
  refine zC_mna (pc := 26) (K := 8) (k := 10) hx hb hown (hta _ wd112) hO (hta _ wd62) hK hC hS (by simp [len_CD, len_Fa]) (by decide +kernel) (by decide +kernel) (by decide +kernel) (Nat.le_of_ble_eq_true rfl) (Nat.le_of_ble_eq_true rfl) d_Li_init_26 (fun H hC hS => ?_)
  rw [List.cons_append, List.cons_append] at hC
  refine zC_putF (pc := 30) (ci := 2) (v := .ref (o + 10)) (ty := .array (.array .long)) (C := R_Li) (T := T_Li) (N := 6) hx hb hta hin_Li ty_Li tyok_Li nm_Li hown hK hC hS rfl 2 (by decide) (hta _ wd117) (fun _ h9 => h9) rfl hin rfl (by decide +kernel) rfl rfl (Nat.le_of_ble_eq_true rfl) d_Li_init_30 (fun H locs hC hS => ?_)
  have hC : zC G o (.inr (2, [.ref (o + 1), .long 1, .ref (o + 10), .null, .null, .null]) :: _) H := hC
  refine lv_aload_n (pc := 33) hx hb d_Li_init_33 rfl (lv_at hl 0 rfl) ?_
  refine lv_bipush (pc := 34) (v := 8) hx hb d_Li_init_34 (by decide) ?_
  refine zC_newl (pc := 36) (K := 8) (k := 19) hx hb (hta _ wd62) hK hC hS (by simp [len_CD, len_Fa]) (by decide +kernel) (by decide +kernel) (by decide +kernel) (Nat.le_of_ble_eq_true rfl) (Nat.le_of_ble_eq_true rfl) d_Li_init_36 (fun H hC hS => ?_)
  rw [List.cons_append] at hC
  refine zC_putF (pc := 38) (ci := 2) (v := .ref (o + 19)) (ty := .array .long) (C := R_Li) (T := T_Li) (N := 6) hx hb hta hin_Li ty_Li tyok_Li nm_Li hown hK hC hS rfl 3 (by decide) (hta _ wd118) (fun _ h9 => h9) rfl hin rfl (by decide +kernel) rfl rfl (Nat.le_of_ble_eq_true rfl) d_Li_init_38 (fun H locs hC hS => ?_)
  have hC : zC G o (.inr (2, [.ref (o + 1), .long 1, .ref (o + 10), .ref (o + 19), .null, .null]) :: _) H := hC
  refine lv_aload_n (pc := 41) hx hb d_Li_init_41 rfl (lv_at hl 0 rfl) ?_
  refine lv_bipush (pc := 42) (v := 8) hx hb d_Li_init_42 (by decide) ?_
  refine zC_newl (pc := 44) (K := 8) (k := 20) hx hb (hta _ wd62) hK hC hS (by simp [len_CD, len_Fa]) (by decide +kernel) (by decide +kernel) (by decide +kernel) (Nat.le_of_ble_eq_true rfl) (Nat.le_of_ble_eq_true rfl) d_Li_init_44 (fun H hC hS => ?_)
  rw [List.cons_append] at hC
  refine zC_putF (pc := 46) (ci := 2) (v := .ref (o + 20)) (ty := .array .long) (C := R_Li) (T := T_Li) (N := 6) hx hb hta hin_Li ty_Li tyok_Li nm_Li hown hK hC hS rfl 4 (by decide) (hta _ wd119) (fun _ h9 => h9) rfl hin rfl (by decide +kernel) rfl rfl (Nat.le_of_ble_eq_true rfl) d_Li_init_46 (fun H locs hC hS => ?_)
  have hC : zC G o (.inr (2, [.ref (o + 1), .long 1, .ref (o + 10), .ref (o + 19), .ref (o + 20), .null]) :: _) H := hC
  refine lv_aload_n (pc := 49) hx hb d_Li_init_49 rfl (lv_at hl 0 rfl) ?_
  refine lv_bipush (pc := 50) (v := 8) hx hb d_Li_init_50 (by decide) ?_
  refine zC_newl (pc := 52) (K := 8) (k := 21) hx hb (hta _ wd62) hK hC hS (by simp [len_CD, len_Fa]) (by decide +kernel) (by decide +kernel) (by decide +kernel) (Nat.le_of_ble_eq_true rfl) (Nat.le_of_ble_eq_true rfl) d_Li_init_52 (fun H hC hS => ?_)
  rw [List.cons_append] at hC
  refine zC_putF (pc := 54) (ci := 2) (v := .ref (o + 21)) (ty := .array .long) (C := R_Li) (T := T_Li) (N := 6) hx hb hta hin_Li ty_Li tyok_Li nm_Li hown hK hC hS rfl 5 (by decide) (hta _ wd120) (fun _ h9 => h9) rfl hin rfl (by decide +kernel) rfl rfl (Nat.le_of_ble_eq_true rfl) d_Li_init_54 (fun H locs hC hS => ?_)
  have hC : zC G o (.inr (2, [.ref (o + 1), .long 1, .ref (o + 10), .ref (o + 19), .ref (o + 20), .ref (o + 21)]) :: _) H := hC
  exact zC_vret hx hb hr hlocks hC hS d_Li_init_57
