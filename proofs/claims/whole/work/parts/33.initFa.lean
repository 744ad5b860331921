theorem d_Fa_init_0 : decode prog_3_method_1_code 0 = .ok (.aload_n 0, 1) := by decide +kernel
theorem d_Fa_init_1 : decode prog_3_method_1_code 1 = .ok (.invokespecial 3, 3) := by decide +kernel
theorem d_Fa_init_4 : decode prog_3_method_1_code 4 = .ok (.aload_n 0, 1) := by decide +kernel
theorem d_Fa_init_5 : decode prog_3_method_1_code 5 = .ok (.bipush 7, 2) := by decide +kernel
theorem d_Fa_init_7 : decode prog_3_method_1_code 7 = .ok (.bipush 8, 2) := by decide +kernel
theorem d_Fa_init_9 : decode prog_3_method_1_code 9 = .ok (.multianewarray 11 2, 4) := by decide +kernel
theorem d_Fa_init_13 : decode prog_3_method_1_code 13 = .ok (.putfield 13, 3) := by decide +kernel
theorem d_Fa_init_16 : decode prog_3_method_1_code 16 = .ok (.aload_n 0, 1) := by decide +kernel
theorem d_Fa_init_17 : decode prog_3_method_1_code 17 = .ok (.bipush 7, 2) := by decide +kernel
theorem d_Fa_init_19 : decode prog_3_method_1_code 19 = .ok (.newarray .int, 2) := by decide +kernel
theorem d_Fa_init_21 : decode prog_3_method_1_code 21 = .ok (.putfield 16, 3) := by decide +kernel
theorem d_Fa_init_24 : decode prog_3_method_1_code 24 = .ok (.aload_n 0, 1) := by decide +kernel
theorem d_Fa_init_25 : decode prog_3_method_1_code 25 = .ok (.iconst 0, 1) := by decide +kernel
theorem d_Fa_init_26 : decode prog_3_method_1_code 26 = .ok (.putfield 20, 3) := by decide +kernel
theorem d_Fa_init_29 : decode prog_3_method_1_code 29 = .ok (.aload_n 0, 1) := by decide +kernel
theorem d_Fa_init_30 : decode prog_3_method_1_code 30 = .ok (.lconst 0, 1) := by decide +kernel
theorem d_Fa_init_31 : decode prog_3_method_1_code 31 = .ok (.putfield 24, 3) := by decide +kernel
theorem d_Fa_init_34 : decode prog_3_method_1_code 34 = .ok (.return_, 1) := by decide +kernel
def es_Fa (G : zG) (o : Nat) : List va_E := .inr (1, [.ref (o + 1), .ref (o + 9), .int 0, .long 0]) :: ([.inl (G.2.2.2, 7, .inr (.inr (.inr (.inr (fun i => some (o + (1 + 1 + i)))))))] ++ List.replicate 7 (.inl (G.2.1, 8, .inr (.inl (fun _ => 0)))) ++ [.inl (G.2.2.1, 7, .inl (fun _ => 0))])
theorem len_Fa {G : zG} {o : Nat} : (es_Fa G o).length = 10 := by simp [es_Fa, len_CD]
def ws_Fa_init : List Cond := .code y_Fa_init prog_3_method_1_code 1 none :: zall
def rm_Fa_init : Room := { frames := 1, cells := 9, slots := 70, locals := 12 }
theorem hd_Fa_init : y_Fa_init.cls ≠ "java/lang/invoke/MethodHandle" ∧ y_Fa_init.cls ≠ "java/lang/invoke/VarHandle" ∧ (parseMethodDescriptor y_Fa_init.desc).map (fun d => d.parameters.length) = some 0 := by decide +kernel
set_option maxHeartbeats 4000000 in
set_option maxRecDepth 100000 in
theorem c_Fa_init (l : Launch) (G : zG) (o : Nat) : Met l y_Fa_init ws_Fa_init rm_Fa_init (zCc G o (.inr (1, [.null, .null, .int 0, .long 0]))) (zQc G o (es_Fa G o)) 9 70 (zA o) := by
  refine Met.ofW (cc := prog_3_method_1_code) (maxL := 1) (ret := none) (by decide) rfl ?_
  intro p e s m args below meth c s₁ B hml hv
  obtain ⟨rfl, hC, hK, hN, hO⟩ := hv
  have hx := B.exec
  have hb := B.bytes
  have hr := B.returns
  have hts := atoms_spec (ws := ws_Fa_init) B.pre
  have hta : ∀ w ∈ zall, w.before ([.ref o] : List Value).toArray s = true := fun w h => hts w (List.mem_cons_of_mem _ h)
  have hown : s.vm.findClass R_Fa = some m.cls := findClass_of_methodNamed B.named
  have hlocks := B.notSynchronized
  have hin : meth.name = "<init>" := (name_of_methodNamed B.named B.method).1
  have hS : va_S (zA o) s.heap s.heap [] := va_S.rf
  have hl := lv_entry ([.ref o]) (n := 1) (Nat.le_of_ble_eq_true rfl)
  rw [lg_entry_eq]
  generalize (lg_sl ([.ref o]) ++ List.replicate (1 - (lg_sl ([.ref o])).length) Slot.unset).toArray = ls at hl ⊢
  have hl : lv_has ls 1 [(0, .ref (o + 0))] := hl
  refine lv_aload_n (pc := 0) hx hb d_Fa_init_0 rfl (lv_at hl 0 rfl) ?_
  refine W.objInit hx hb hown (hta _ wd169) (hta _ wd27) (hta _ wd28) rfl (by rw [hml]; exact hl.1) rfl d_Fa_init_1 (Nat.le_of_ble_eq_true rfl) (Nat.le_of_ble_eq_true rfl) ?_
  refine W.eq (g2 := F0 m 4 ls []) rfl ?_
  refine lv_aload_n (pc := 4) hx hb d_Fa_init_4 rfl (lv_at hl 0 rfl) ?_
  refine lv_bipush (pc := 5) (v := 7) hx hb d_Fa_init_5 (by decide) ?_
  refine lv_bipush (pc := 7) (v := 8) hx hb d_Fa_init_7 (by decide) ?_
  refine zC_mna (pc := 9) (K := 7) (k := 1) hx hb hown (hta _ wd170) hO (hta _ wd62) hK hC hS (by simp [len_CD]) (by decide +kernel) (by decide +kernel) (by decide +kernel) (Nat.le_of_ble_eq_true rfl) (Nat.le_of_ble_eq_true rfl) d_Fa_init_9 (fun H hC hS => ?_)
  rw [List.cons_append, List.cons_append] at hC
  refine zC_putF (pc := 13) (ci := 1) (v := .ref (o + 1)) (ty := .array (.array .long)) (C := R_Fa) (T := T_Fa) (N := 4) hx hb hta hin_Fa ty_Fa tyok_Fa nm_Fa hown hK hC hS rfl 0 (by decide) (hta _ wd171) (fun _ h9 => h9) rfl hin rfl (by decide +kernel) rfl rfl (Nat.le_of_ble_eq_true rfl) d_Fa_init_13 (fun H locs hC hS => ?_)
  have hC : zC G o (.inr (1, [.ref (o + 1), .null, .int 0, .long 0]) :: _) H := hC
  refine lv_aload_n (pc := 16) hx hb d_Fa_init_16 rfl (lv_at hl 0 rfl) ?_
  refine lv_bipush (pc := 17) (v := 7) hx hb d_Fa_init_17 (by decide) ?_
  refine zC_newi (pc := 19) (K := 7) (k := 9) hx hb (hta _ wd105) hK hC hS (by simp [len_CD]) (by decide +kernel) (by decide +kernel) (by decide +kernel) (Nat.le_of_ble_eq_true rfl) (Nat.le_of_ble_eq_true rfl) d_Fa_init_19 (fun H hC hS => ?_)
  rw [List.cons_append] at hC
  refine zC_putF (pc := 21) (ci := 1) (v := .ref (o + 9)) (ty := .array .int) (C := R_Fa) (T := T_Fa) (N := 4) hx hb hta hin_Fa ty_Fa tyok_Fa nm_Fa hown hK hC hS rfl 1 (by decide) (hta _ wd173) (fun _ h9 => h9) rfl hin rfl (by decide +kernel) rfl rfl (Nat.le_of_ble_eq_true rfl) d_Fa_init_21 (fun H locs hC hS => ?_)
  have hC : zC G o (.inr (1, [.ref (o + 1), .ref (o + 9), .int 0, .long 0]) :: _) H := hC
  refine lv_aload_n (pc := 24) hx hb d_Fa_init_24 rfl (lv_at hl 0 rfl) ?_
  refine lv_iconst (pc := 25) (v := 0) hx hb d_Fa_init_25 (by decide) ?_
  refine zC_put (pc := 26) (ci := 1) (v := .int 0) (ty := .int) (C := R_Fa) (T := T_Fa) (N := 4) hx hb hta hin_Fa ty_Fa tyok_Fa nm_Fa hown hK hC hS rfl 2 (by decide) (hta _ wd175) (fun _ h9 => h9) rfl (by decide +kernel) rfl rfl (Nat.le_of_ble_eq_true rfl) d_Fa_init_26 (fun H locs hC hS => ?_)
  have hC : zC G o (.inr (1, [.ref (o + 1), .ref (o + 9), .int 0, .long 0]) :: _) H := hC
  refine lv_aload_n (pc := 29) hx hb d_Fa_init_29 rfl (lv_at hl 0 rfl) ?_
  refine lv_lconst (pc := 30) (v := 0) hx hb d_Fa_init_30 (by decide) ?_
  refine zC_put (pc := 31) (ci := 1) (v := .long 0) (ty := .long) (C := R_Fa) (T := T_Fa) (N := 4) hx hb hta hin_Fa ty_Fa tyok_Fa nm_Fa hown hK hC hS rfl 3 (by decide) (hta _ wd177) (fun _ h9 => h9) rfl (by decide +kernel) rfl rfl (Nat.le_of_ble_eq_true rfl) d_Fa_init_31 (fun H locs hC hS => ?_)
  have hC : zC G o (.inr (1, [.ref (o + 1), .ref (o + 9), .int 0, .long 0]) :: _) H := hC
  exact zC_vret hx hb hr hlocks hC hS d_Fa_init_34
