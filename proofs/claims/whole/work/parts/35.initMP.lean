theorem d_MP_init_0 : decode prog_5_method_1_code 0 = .ok (.aload_n 0, 1) := by decide +kernel
theorem d_MP_init_1 : decode prog_5_method_1_code 1 = .ok (.invokespecial 3, 3) := by decide +kernel
theorem d_MP_init_4 : decode prog_5_method_1_code 4 = .ok (.aload_n 0, 1) := by decide +kernel
theorem d_MP_init_5 : decode prog_5_method_1_code 5 = .ok (.bipush 8, 2) := by decide +kernel
theorem d_MP_init_7 : decode prog_5_method_1_code 7 = .ok (.bipush 8, 2) := by decide +kernel
theorem d_MP_init_9 : decode prog_5_method_1_code 9 = .ok (.multianewarray 9 2, 4) := by decide +kernel
theorem d_MP_init_13 : decode prog_5_method_1_code 13 = .ok (.putfield 11, 3) := by decide +kernel
theorem d_MP_init_16 : decode prog_5_method_1_code 16 = .ok (.aload_n 0, 1) := by decide +kernel
theorem d_MP_init_17 : decode prog_5_method_1_code 17 = .ok (.iconst 0, 1) := by decide +kernel
theorem d_MP_init_18 : decode prog_5_method_1_code 18 = .ok (.putfield 16, 3) := by decide +kernel
theorem d_MP_init_21 : decode prog_5_method_1_code 21 = .ok (.aload_n 0, 1) := by decide +kernel
theorem d_MP_init_22 : decode prog_5_method_1_code 22 = .ok (.bipush 8, 2) := by decide +kernel
theorem d_MP_init_24 : decode prog_5_method_1_code 24 = .ok (.bipush 8, 2) := by decide +kernel
theorem d_MP_init_26 : decode prog_5_method_1_code 26 = .ok (.multianewarray 9 2, 4) := by decide +kernel
theorem d_MP_init_30 : decode prog_5_method_1_code 30 = .ok (.putfield 20, 3) := by decide +kernel
theorem d_MP_init_33 : decode prog_5_method_1_code 33 = .ok (.aload_n 0, 1) := by decide +kernel
theorem d_MP_init_34 : decode prog_5_method_1_code 34 = .ok (.bipush 8, 2) := by decide +kernel
theorem d_MP_init_36 : decode prog_5_method_1_code 36 = .ok (.bipush 8, 2) := by decide +kernel
theorem d_MP_init_38 : decode prog_5_method_1_code 38 = .ok (.multianewarray 9 2, 4) := by decide +kernel
theorem d_MP_init_42 : decode prog_5_method_1_code 42 = .ok (.putfield 23, 3) := by decide +kernel
theorem d_MP_init_45 : decode prog_5_method_1_code 45 = .ok (.aload_n 0, 1) := by decide +kernel
theorem d_MP_init_46 : decode prog_5_method_1_code 46 = .ok (.bipush 8, 2) := by decide +kernel
theorem d_MP_init_48 : decode prog_5_method_1_code 48 = .ok (.newarray .int, 2) := by decide +kernel
theorem d_MP_init_50 : decode prog_5_method_1_code 50 = .ok (.putfield 26, 3) := by decide +kernel
theorem d_MP_init_53 : decode prog_5_method_1_code 53 = .ok (.aload_n 0, 1) := by decide +kernel
theorem d_MP_init_54 : decode prog_5_method_1_code 54 = .ok (.bipush 8, 2) := by decide +kernel
theorem d_MP_init_56 : decode prog_5_method_1_code 56 = .ok (.newarray .long, 2) := by decide +kernel
theorem d_MP_init_58 : decode prog_5_method_1_code 58 = .ok (.putfield 30, 3) := by decide +kernel
theorem d_MP_init_61 : decode prog_5_method_1_code 61 = .ok (.aload_n 0, 1) := by decide +kernel
theorem d_MP_init_62 : decode prog_5_method_1_code 62 = .ok (.bipush 8, 2) := by decide +kernel
theorem d_MP_init_64 : decode prog_5_method_1_code 64 = .ok (.newarray .long, 2) := by decide +kernel
theorem d_MP_init_66 : decode prog_5_method_1_code 66 = .ok (.putfield 34, 3) := by decide +kernel
theorem d_MP_init_69 : decode prog_5_method_1_code 69 = .ok (.aload_n 0, 1) := by decide +kernel
theorem d_MP_init_70 : decode prog_5_method_1_code 70 = .ok (.bipush 8, 2) := by decide +kernel
theorem d_MP_init_72 : decode prog_5_method_1_code 72 = .ok (.newarray .long, 2) := by decide +kernel
theorem d_MP_init_74 : decode prog_5_method_1_code 74 = .ok (.putfield 37, 3) := by decide +kernel
theorem d_MP_init_77 : decode prog_5_method_1_code 77 = .ok (.aload_n 0, 1) := by decide +kernel
theorem d_MP_init_78 : decode prog_5_method_1_code 78 = .ok (.bipush 8, 2) := by decide +kernel
theorem d_MP_init_80 : decode prog_5_method_1_code 80 = .ok (.newarray .long, 2) := by decide +kernel
theorem d_MP_init_82 : decode prog_5_method_1_code 82 = .ok (.putfield 40, 3) := by decide +kernel
theorem d_MP_init_85 : decode prog_5_method_1_code 85 = .ok (.aload_n 0, 1) := by decide +kernel
theorem d_MP_init_86 : decode prog_5_method_1_code 86 = .ok (.bipush 8, 2) := by decide +kernel
theorem d_MP_init_88 : decode prog_5_method_1_code 88 = .ok (.newarray .long, 2) := by decide +kernel
theorem d_MP_init_90 : decode prog_5_method_1_code 90 = .ok (.putfield 43, 3) := by decide +kernel
theorem d_MP_init_93 : decode prog_5_method_1_code 93 = .ok (.return_, 1) := by decide +kernel
def es_MP (G : zG) (o : Nat) : List va_E := .inr (3, [.ref (o + 1), .int 0, .ref (o + 10), .ref (o + 19), .ref (o + 28), .ref (o + 29), .ref (o + 30), .ref (o + 31), .ref (o + 32), .ref (o + 33)]) :: ([.inl (G.2.2.2, 8, .inr (.inr (.inr (.inr (fun i => some (o + (1 + 1 + i)))))))] ++ List.replicate 8 (.inl (G.2.1, 8, .inr (.inl (fun _ => 0)))) ++ [.inl (G.2.2.2, 8, .inr (.inr (.inr (.inr (fun i => some (o + (10 + 1 + i)))))))] ++ List.replicate 8 (.inl (G.2.1, 8, .inr (.inl (fun _ => 0)))) ++ [.inl (G.2.2.2, 8, .inr (.inr (.inr (.inr (fun i => some (o + (19 + 1 + i)))))))] ++ List.replicate 8 (.inl (G.2.1, 8, .inr (.inl (fun _ => 0)))) ++ [.inl (G.2.2.1, 8, .inl (fun _ => 0))] ++ [.inl (G.2.1, 8, .inr (.inl (fun _ => 0)))] ++ [.inl (G.2.1, 8, .inr (.inl (fun _ => 0)))] ++ [.inl (G.2.1, 8, .inr (.inl (fun _ => 0)))] ++ [.inl (G.2.1, 8, .inr (.inl (fun _ => 0)))] ++ [.inl (G.2.1, 8, .inr (.inl (fun _ => 0)))])
theorem len_MP {G : zG} {o : Nat} : (es_MP G o).length = 34 := by simp [es_MP, len_CD, len_Fa, len_Li]
def ws_MP_init : List Cond := .code y_MP_init prog_5_method_1_code 1 none :: zall
def rm_MP_init : Room := { frames := 1, cells := 33, slots := 264, locals := 12 }
theorem hd_MP_init : y_MP_init.cls ≠ "java/lang/invoke/MethodHandle" ∧ y_MP_init.cls ≠ "java/lang/invoke/VarHandle" ∧ (parseMethodDescriptor y_MP_init.desc).map (fun d => d.parameters.length) = some 0 := by decide +kernel
set_option maxHeartbeats 4000000 in
set_option maxRecDepth 100000 in
theorem c_MP_init (l : Launch) (G : zG) (o : Nat) : Met l y_MP_init ws_MP_init rm_MP_init (zCc G o (.inr (3, [.null, .int 0, .null, .null, .null, .null, .null, .null, .null, .null]))) (zQc G o (es_MP G o)) 33 264 (zA o) := by
  refine Met.ofW (cc := prog_5_method_1_code) (maxL := 1) (ret := none) (by decide) rfl ?_
  intro p e s m args below meth c s₁ B hml hv
  obtain ⟨rfl, hC, hK, hN, hO⟩ := hv
  have hx := B.exec
  have hb := B.bytes
  have hr := B.returns
  have hts := atoms_spec (ws := ws_MP_init) B.pre
  have hta : ∀ w ∈ zall, w.before ([.ref o] : List Value).toArray s = true := fun w h => hts w (List.mem_cons_of_mem _ h)
  have hown : s.vm.findClass R_MP = some m.cls := findClass_of_methodNamed B.named
  have hlocks := B.notSynchronized
  have hin : meth.name = "<init>" := (name_of_methodNamed B.named B.method).1
  have hS : va_S (zA o) s.heap s.heap [] := va_S.rf
  have hl := lv_entry ([.ref o]) (n := 1) (Nat.le_of_ble_eq_true rfl)
  rw [lg_entry_eq]
  generalize (lg_sl ([.ref o]) ++ List.replicate (1 - (lg_sl ([.ref o])).length) Slot.unset).toArray = ls at hl ⊢
  have hl : lv_has ls 1 [(0, .ref (o + 0))] := hl
  refine lv_aload_n (pc := 0) hx hb d_MP_init_0 rfl (lv_at hl 0 rfl) ?_
  refine W.objInit hx hb hown (hta _ wd68) (hta _ wd27) (hta _ wd28) rfl (by rw [hml]; exact hl.1) rfl d_MP_init_1 (Nat.le_of_ble_eq_true rfl) (Nat.le_of_ble_eq_true rfl) ?_
  refine W.eq (g2 := F0 m 4 ls []) rfl ?_
  refine lv_aload_n (pc := 4) hx hb d_MP_init_4 rfl (lv_at hl 0 rfl) ?_
  refine lv_bipush (pc := 5) (v := 8) hx hb d_MP_init_5 (by decide) ?_
  refine lv_bipush (pc := 7) (v := 8) hx hb d_MP_init_7 (by decide) ?_
  refine zC_mna (pc := 9) (K := 8) (k := 1) hx hb hown (hta _ wd69) hO (hta _ wd62) hK hC hS (by simp [len_CD, len_Fa, len_Li]) (by decide +kernel) (by decide +kernel) (by decide +kernel) (Nat.le_of_ble_eq_true rfl) (Nat.le_of_ble_eq_true rfl) d_MP_init_9 (fun H hC hS => ?_)
  rw [List.cons_append, List.cons_append] at hC
  refine zC_putF (pc := 13) (ci := 3) (v := .ref (o + 1)) (ty := .array (.array .long)) (C := R_MP) (T := T_MP) (N := 10) hx hb hta hin_MP ty_MP tyok_MP nm_MP hown hK hC hS rfl 0 (by decide) (hta _ wd70) (fun _ h9 => h9) rfl hin rfl (by decide +kernel) rfl rfl (Nat.le_of_ble_eq_true rfl) d_MP_init_13 (fun H locs hC hS => ?_)
  have hC : zC G o (.inr (3, [.ref (o + 1), .int 0, .null, .null, .null, .null, .null, .null, .null, .null]) :: _) H := hC
  refine lv_aload_n (pc := 16) hx hb d_MP_init_16 rfl (lv_at hl 0 rfl) ?_
  refine lv_iconst (pc := 17) (v := 0) hx hb d_MP_init_17 (by decide) ?_
  refine zC_put (pc := 18) (ci := 3) (v := .int 0) (ty := .int) (C := R_MP) (T := T_MP) (N := 10) hx hb hta hin_MP ty_MP tyok_MP nm_MP hown hK hC hS rfl 1 (by decide) (hta _ wd73) (fun _ h9 => h9) rfl (by decide +kernel) rfl rfl (Nat.le_of_ble_eq_true rfl) d_MP_init_18 (fun H locs hC hS => ?_)
  have hC : zC G o (.inr (3, [.ref (o + 1), .int 0, .null, .null, .null, .null, .null, .null, .null, .null]) :: _) H := hC
  refine lv_aload_n (pc := 21) hx hb d_MP_init_21 rfl (lv_at hl 0 rfl) ?_
  refine lv_bipush (pc := 22) (v := 8) hx hb d_MP_init_22 (by decide) ?_
  refine lv_bipush (pc := 24) (v := 8) hx hb d_MP_init_24 (by decide) ?_
  refine zC_mna (pc := 26) (K := 8) (k := 10) hx hb hown (hta _ wd69) hO (hta _ wd62) hK hC hS (by simp [len_CD, len_Fa, len_Li]) (by decide +kernel) (by decide +kernel) (by decide +kernel) (Nat.le_of_ble_eq_true rfl) (Nat.le_of_ble_eq_true rfl) d_MP_init_26 (fun H hC hS => ?_)
  rw [List.cons_append, List.cons_append] at hC
  refine zC_putF (pc := 30) (ci := 3) (v := .ref (o + 10)) (ty := .array (.array .long)) (C := R_MP) (T := T_MP) (N := 10) hx hb hta hin_MP ty_MP tyok_MP nm_MP hown hK hC hS rfl 2 (by decide) (hta _ wd76) (fun _ h9 => h9) rfl hin rfl (by decide +kernel) rfl rfl (Nat.le_of_ble_eq_true rfl) d_MP_init_30 (fun H locs hC hS => ?_)
  have hC : zC G o (.inr (3, [.ref (o + 1), .int 0, .ref (o + 10), .null, .null, .null, .null, .null, .null, .null]) :: _) H := hC
  refine lv_aload_n (pc := 33) hx hb d_MP_init_33 rfl (lv_at hl 0 rfl) ?_
  refine lv_bipush (pc := 34) (v := 8) hx hb d_MP_init_34 (by decide) ?_
  refine lv_bipush (pc := 36) (v := 8) hx hb d_MP_init_36 (by decide) ?_
  refine zC_mna (pc := 38) (K := 8) (k := 19) hx hb hown (hta _ wd69) hO (hta _ wd62) hK hC hS (by simp [len_CD, len_Fa, len_Li]) (by decide +kernel) (by decide +kernel) (by decide +kernel) (Nat.le_of_ble_eq_true rfl) (Nat.le_of_ble_eq_true rfl) d_MP_init_38 (fun H hC hS => ?_)
  rw [List.cons_append, List.cons_append] at hC
  refine zC_putF (pc := 42) (ci := 3) (v := .ref (o + 19)) (ty := .array (.array .long)) (C := R_MP) (T := T_MP) (N := 10) hx hb hta hin_MP ty_MP tyok_MP nm_MP hown hK hC hS rfl 3 (by decide) (hta _ wd77) (fun _ h9 => h9) rfl hin rfl (by decide +kernel) rfl rfl (Nat.le_of_ble_eq_true rfl) d_MP_init_42 (fun H locs hC hS => ?_)
  have hC : zC G o (.inr (3, [.ref (o + 1), .int 0, .ref (o + 10), .ref (o + 19), .null, .null, .null, .null, .null, .null]) :: _) H := hC
  refine lv_aload_n (pc := 45) hx hb d_MP_init_45 rfl (lv_at hl 0 rfl) ?_
  refine lv_bipush (pc := 46) (v := 8) hx hb d_MP_init_46 (by decide) ?_
  refine zC_newi (pc := 48) (K := 8) (k := 28) hx hb (hta _ wd105) hK hC hS (by simp [len_CD, len_Fa, len_Li]) (by decide +kernel) (by decide +kernel) (by decide +kernel) (Nat.le_of_ble_eq_true rfl) (Nat.le_of_ble_eq_true rfl) d_MP_init_48 (fun H hC hS => ?_)
  rw [List.cons_append] at hC
  refine zC_putF (pc := 50) (ci := 3) (v := .ref (o + 28)) (ty := .array .int) (C := R_MP) (T := T_MP) (N := 10) hx hb hta hin_MP ty_MP tyok_MP nm_MP hown hK hC hS rfl 4 (by decide) (hta _ wd78) (fun _ h9 => h9) rfl hin rfl (by decide +kernel) rfl rfl (Nat.le_of_ble_eq_true rfl) d_MP_init_50 (fun H locs hC hS => ?_)
  have hC : zC G o (.inr (3, [.ref (o + 1), .int 0, .ref (o + 10), .ref (o + 19), .ref (o + 28), .null, .null, .null, .null, .null]) :: _) H := hC
  refine lv_aload_n (pc := 53) hx hb d_MP_init_53 rfl (lv_at hl 0 rfl) ?_
  refine lv_bipush (pc := 54) (v := 8) hx hb d_MP_init_54 (by decide) ?_
  refine zC_newl (pc := 56) (K := 8) (k := 29) hx hb (hta _ wd62) hK hC hS (by simp [len_CD, len_Fa, len_Li]) (by decide +kernel) (by decide +kernel) (by decide +kernel) (Nat.le_of_ble_eq_true rfl) (Nat.le_of_ble_eq_true rfl) d_MP_init_56 (fun H hC hS => ?_)
  rw [List.cons_append] at hC
  refine zC_putF (pc := 58) (ci := 3) (v := .ref (o + 29)) (ty := .array .long) (C := R_MP) (T := T_MP) (N := 10) hx hb hta hin_MP ty_MP tyok_MP nm_MP hown hK hC hS rfl 5 (by decide) (hta _ wd79) (fun _ h9 => h9) rfl hin rfl (by decide +kernel) rfl rfl (Nat.le_of_ble_eq_true rfl) d_MP_init_58 (fun H locs hC hS => ?_)
  have hC : zC G o (.inr (3, [.ref (o + 1), .int 0, .ref (o + 10), .ref (o + 19), .ref (o + 28), .ref (o + 29), .null, .null, .null, .null]) :: _) H := hC
  refine lv_aload_n (pc := 61) hx hb d_MP_init_61 rfl (lv_at hl 0 rfl) ?_
  refine lv_bipush (pc := 62) (v := 8) hx hb d_MP_init_62 (by decide) ?_
  refine zC_newl (pc := 64) (K := 8) (k := 30) hx hb (hta _ wd62) hK hC hS (by simp [len_CD, len_Fa, len_Li]) (by decide +kernel) (by decide +kernel) (by decide +kernel) (Nat.le_of_ble_eq_true rfl) (Nat.le_of_ble_eq_true rfl) d_MP_init_64 (fun H hC hS => ?_)
  rw [List.cons_append] at hC
  refine zC_putF (pc := 66) (ci := 3) (v := .ref (o + 30)) (ty := .array .long) (C := R_MP) (T := T_MP) (N := 10) hx hb hta hin_MP ty_MP tyok_MP nm_MP hown hK hC hS rfl 6 (by decide) (hta _ wd80) (fun _ h9 => h9) rfl hin rfl (by decide +kernel) rfl rfl (Nat.le_of_ble_eq_true rfl) d_MP_init_66 (fun H locs hC hS => ?_)
  have hC : zC G o (.inr (3, [.ref (o + 1), .int 0, .ref (o + 10), .ref (o + 19), .ref (o + 28), .ref (o + 29), .ref (o + 30), .null, .null, .null]) :: _) H := hC
  refine lv_aload_n (pc := 69) hx hb d_MP_init_69 rfl (lv_at hl 0 rfl) ?_
  refine lv_bipush (pc := 70) (v := 8) hx hb d_MP_init_70 (by decide) ?_
  refine zC_newl (pc := 72) (K := 8) (k := 31) hx hb (hta _ wd62) hK hC hS (by simp [len_CD, len_Fa, len_Li]) (by decide +kernel) (by decide +kernel) (by decide +kernel) (Nat.le_of_ble_eq_true rfl) (Nat.le_of_ble_eq_true rfl) d_MP_init_72 (fun H hC hS => ?_)
  rw [List.cons_append] at hC
  refine zC_putF (pc := 74) (ci := 3) (v := .ref (o + 31)) (ty := .array .long) (C := R_MP) (T := T_MP) (N := 10) hx hb hta hin_MP ty_MP tyok_MP nm_MP hown hK hC hS rfl 7 (by decide) (hta _ wd81) (fun _ h9 => h9) rfl hin rfl (by decide +kernel) rfl rfl (Nat.le_of_ble_eq_true rfl) d_MP_init_74 (fun H locs hC hS => ?_)
  have hC : zC G o (.inr (3, [.ref (o + 1), .int 0, .ref (o + 10), .ref (o + 19), .ref (o + 28), .ref (o + 29), .ref (o + 30), .ref (o + 31), .null, .null]) :: _) H := hC
  refine lv_aload_n (pc := 77) hx hb d_MP_init_77 rfl (lv_at hl 0 rfl) ?_
  refine lv_bipush (pc := 78) (v := 8) hx hb d_MP_init_78 (by decide) ?_
  refine zC_newl (pc := 80) (K := 8) (k := 32) hx hb (hta _ wd62) hK hC hS (by simp [len_CD, len_Fa, len_Li]) (by decide +kernel) (by decide +kernel) (by decide +kernel) (Nat.le_of_ble_eq_true rfl) (Nat.le_of_ble_eq_true rfl) d_MP_init_80 (fun H hC hS => ?_)
  rw [List.cons_append] at hC
  refine zC_putF (pc := 82) (ci := 3) (v := .ref (o + 32)) (ty := .array .long) (C := R_MP) (T := T_MP) (N := 10) hx hb hta hin_MP ty_MP tyok_MP nm_MP hown hK hC hS rfl 8 (by decide) (hta _ wd82) (fun _ h9 => h9) rfl hin rfl (by decide +kernel) rfl rfl (Nat.le_of_ble_eq_true rfl) d_MP_init_82 (fun H locs hC hS => ?_)
  have hC : zC G o (.inr (3, [.ref (o + 1), .int 0, .ref (o + 10), .ref (o + 19), .ref (o + 28), .ref (o + 29), .ref (o + 30), .ref (o + 31), .ref (o + 32), .null]) :: _) H := hC
  refine lv_aload_n (pc := 85) hx hb d_MP_init_85 rfl (lv_at hl 0 rfl) ?_
  refine lv_bipush (pc := 86) (v := 8) hx hb d_MP_init_86 (by decide) ?_
  refine zC_newl (pc := 88) (K := 8) (k := 33) hx hb (hta _ wd62) hK hC hS (by simp [len_CD, len_Fa, len_Li]) (by decide +kernel) (by decide +kernel) (by decide +kernel) (Nat.le_of_ble_eq_true rfl) (Nat.le_of_ble_eq_true rfl) d_MP_init_88 (fun H hC hS => ?_)
  rw [List.cons_append] at hC
  refine zC_putF (pc := 90) (ci := 3) (v := .ref (o + 33)) (ty := .array .long) (C := R_MP) (T := T_MP) (N := 10) hx hb hta hin_MP ty_MP tyok_MP nm_MP hown hK hC hS rfl 9 (by decide) (hta _ wd83) (fun _ h9 => h9) rfl hin rfl (by decide +kernel) rfl rfl (Nat.le_of_ble_eq_true rfl) d_MP_init_90 (fun H locs hC hS => ?_)
  have hC : zC G o (.inr (3, [.ref (o + 1), .int 0, .ref (o + 10), .ref (o + 19), .ref (o + 28), .ref (o + 29), .ref (o + 30), .ref (o + 31), .ref (o + 32), .ref (o + 33)]) :: _) H := hC
  exact zC_vret hx hb hr hlocks hC hS d_MP_init_93
