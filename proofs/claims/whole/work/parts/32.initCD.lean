theorem zgI {c : Cond} (h4 : c ∈ zall) : ∀ w ∈ (c :: zall), w ∈ zall := fun w h => (List.mem_cons.mp h).elim (fun e => by rw [e]; exact h4) id
theorem d_CD_init_0 : decode prog_2_method_1_code 0 = .ok (.aload_n 0, 1) := by decide +kernel
theorem d_CD_init_1 : decode prog_2_method_1_code 1 = .ok (.invokespecial 3, 3) := by decide +kernel
theorem d_CD_init_4 : decode prog_2_method_1_code 4 = .ok (.aload_n 0, 1) := by decide +kernel
theorem d_CD_init_5 : decode prog_2_method_1_code 5 = .ok (.bipush 8, 2) := by decide +kernel
theorem d_CD_init_7 : decode prog_2_method_1_code 7 = .ok (.newarray .long, 2) := by decide +kernel
theorem d_CD_init_9 : decode prog_2_method_1_code 9 = .ok (.putfield 9, 3) := by decide +kernel
theorem d_CD_init_12 : decode prog_2_method_1_code 12 = .ok (.aload_n 0, 1) := by decide +kernel
theorem d_CD_init_13 : decode prog_2_method_1_code 13 = .ok (.bipush 8, 2) := by decide +kernel
theorem d_CD_init_15 : decode prog_2_method_1_code 15 = .ok (.newarray .long, 2) := by decide +kernel
theorem d_CD_init_17 : decode prog_2_method_1_code 17 = .ok (.putfield 15, 3) := by decide +kernel
theorem d_CD_init_20 : decode prog_2_method_1_code 20 = .ok (.aload_n 0, 1) := by decide +kernel
theorem d_CD_init_21 : decode prog_2_method_1_code 21 = .ok (.bipush 8, 2) := by decide +kernel
theorem d_CD_init_23 : decode prog_2_method_1_code 23 = .ok (.newarray .long, 2) := by decide +kernel
theorem d_CD_init_25 : decode prog_2_method_1_code 25 = .ok (.putfield 18, 3) := by decide +kernel
theorem d_CD_init_28 : decode prog_2_method_1_code 28 = .ok (.aload_n 0, 1) := by decide +kernel
theorem d_CD_init_29 : decode prog_2_method_1_code 29 = .ok (.bipush 8, 2) := by decide +kernel
theorem d_CD_init_31 : decode prog_2_method_1_code 31 = .ok (.newarray .long, 2) := by decide +kernel
theorem d_CD_init_33 : decode prog_2_method_1_code 33 = .ok (.putfield 21, 3) := by decide +kernel
theorem d_CD_init_36 : decode prog_2_method_1_code 36 = .ok (.aload_n 0, 1) := by decide +kernel
theorem d_CD_init_37 : decode prog_2_method_1_code 37 = .ok (.bipush 8, 2) := by decide +kernel
theorem d_CD_init_39 : decode prog_2_method_1_code 39 = .ok (.newarray .long, 2) := by decide +kernel
theorem d_CD_init_41 : decode prog_2_method_1_code 41 = .ok (.putfield 24, 3) := by decide +kernel
theorem d_CD_init_44 : decode prog_2_method_1_code 44 = .ok (.aload_n 0, 1) := by decide +kernel
theorem d_CD_init_45 : decode prog_2_method_1_code 45 = .ok (.bipush 8, 2) := by decide +kernel
theorem d_CD_init_47 : decode prog_2_method_1_code 47 = .ok (.newarray .long, 2) := by decide +kernel
theorem d_CD_init_49 : decode prog_2_method_1_code 49 = .ok (.putfield 27, 3) := by decide +kernel
theorem d_CD_init_52 : decode prog_2_method_1_code 52 = .ok (.return_, 1) := by decide +kernel
def es_CD (G : zG) (o : Nat) : List va_E := .inr (0, [.ref (o + 1), .ref (o + 2), .ref (o + 3), .ref (o + 4), .ref (o + 5), .ref (o + 6)]) :: ([.inl (G.2.1, 8, .inr (.inl (fun _ => 0)))] ++ [.inl (G.2.1, 8, .inr (.inl (fun _ => 0)))] ++ [.inl (G.2.1, 8, .inr (.inl (fun _ => 0)))] ++ [.inl (G.2.1, 8, .inr (.inl (fun _ => 0)))] ++ [.inl (G.2.1, 8, .inr (.inl (fun _ => 0)))] ++ [.inl (G.2.1, 8, .inr (.inl (fun _ => 0)))])
theorem len_CD {G : zG} {o : Nat} : (es_CD G o).length = 7 := by simp [es_CD]
def ws_CD_init : List Cond := .code y_CD_init prog_2_method_1_code 1 none :: zall
def rm_CD_init : Room := { frames := 1, cells := 6, slots := 48, locals := 12 }
theorem hd_CD_init : y_CD_init.cls ≠ "java/lang/invoke/MethodHandle" ∧ y_CD_init.cls ≠ "java/lang/invoke/VarHandle" ∧ (parseMethodDescriptor y_CD_init.desc).map (fun d => d.parameters.length) = some 0 := by decide +kernel
set_option maxHeartbeats 4000000 in
set_option maxRecDepth 100000 in
theorem c_CD_init (l : Launch) (G : zG) (o : Nat) : Met l y_CD_init ws_CD_init rm_CD_init (zCc G o (.inr (0, [.null, .null, .null, .null, .null, .null]))) (zQc G o (es_CD G o)) 6 48 (zA o) := by
  refine Met.ofW (cc := prog_2_method_1_code) (maxL := 1) (ret := none) (by decide) rfl ?_
  intro p e s m args below meth c s₁ B hml hv
  obtain ⟨rfl, hC, hK, hN, hO⟩ := hv
  have hx := B.exec
  have hb := B.bytes
  have hr := B.returns
  have hts := atoms_spec (ws := ws_CD_init) B.pre
  have hta : ∀ w ∈ zall, w.before ([.ref o] : List Value).toArray s = true := fun w h => hts w (List.mem_cons_of_mem _ h)
  have hown : s.vm.findClass R_CD = some m.cls := findClass_of_methodNamed B.named
  have hlocks := B.notSynchronized
  have hin : meth.name = "<init>" := (name_of_methodNamed B.named B.method).1
  have hS : va_S (zA o) s.heap s.heap [] := va_S.rf
  have hl := lv_entry ([.ref o]) (n := 1) (Nat.le_of_ble_eq_true rfl)
  rw [lg_entry_eq]
  generalize (lg_sl ([.ref o]) ++ List.replicate (1 - (lg_sl ([.ref o])).length) Slot.unset).toArray = ls at hl ⊢
  have hl : lv_has ls 1 [(0, .ref (o + 0))] := hl
  refine lv_aload_n (pc := 0) hx hb d_CD_init_0 rfl (lv_at hl 0 rfl) ?_
  refine W.objInit hx hb hown (hta _ wd42) (hta _ wd27) (hta _ wd28) rfl (by rw [hml]; exact hl.1) rfl d_CD_init_1 (Nat.le_of_ble_eq_true rfl) (Nat.le_of_ble_eq_true rfl) ?_
  refine W.eq (g2 := F0 m 4 ls []) rfl ?_
  refine lv_aload_n (pc := 4) hx hb d_CD_init_4 rfl (lv_at hl 0 rfl) ?_
  refine lv_bipush (pc := 5) (v := 8) hx hb d_CD_init_5 (by decide) ?_
  refine zC_newl (pc := 7) (K := 8) (k := 1) hx hb (hta _ wd62) hK hC hS (by simp) (by decide +kernel) (by decide +kernel) (by decide +kernel) (Nat.le_of_ble_eq_true rfl) (Nat.le_of_ble_eq_true rfl) d_CD_init_7 (fun H hC hS => ?_)
  rw [List.cons_append] at hC
  refine zC_putF (pc := 9) (ci := 0) (v := .ref (o + 1)) (ty := .array .long) (C := R_CD) (T := T_CD) (N := 6) hx hb hta hin_CD ty_CD tyok_CD nm_CD hown hK hC hS rfl 0 (by decide) (hta _ wd43) (fun _ h9 => h9) rfl hin rfl (by decide +kernel) rfl rfl (Nat.le_of_ble_eq_true rfl) d_CD_init_9 (fun H locs hC hS => ?_)
  have hC : zC G o (.inr (0, [.ref (o + 1), .null, .null, .null, .null, .null]) :: _) H := hC
  refine lv_aload_n (pc := 12) hx hb d_CD_init_12 rfl (lv_at hl 0 rfl) ?_
  refine lv_bipush (pc := 13) (v := 8) hx hb d_CD_init_13 (by decide) ?_
  refine zC_newl (pc := 15) (K := 8) (k := 2) hx hb (hta _ wd62) hK hC hS (by simp) (by decide +kernel) (by decide +kernel) (by decide +kernel) (Nat.le_of_ble_eq_true rfl) (Nat.le_of_ble_eq_true rfl) d_CD_init_15 (fun H hC hS => ?_)
  rw [List.cons_append] at hC
  refine zC_putF (pc := 17) (ci := 0) (v := .ref (o + 2)) (ty := .array .long) (C := R_CD) (T := T_CD) (N := 6) hx hb hta hin_CD ty_CD tyok_CD nm_CD hown hK hC hS rfl 1 (by decide) (hta _ wd44) (fun _ h9 => h9) rfl hin rfl (by decide +kernel) rfl rfl (Nat.le_of_ble_eq_true rfl) d_CD_init_17 (fun H locs hC hS => ?_)
  have hC : zC G o (.inr (0, [.ref (o + 1), .ref (o + 2), .null, .null, .null, .null]) :: _) H := hC
  refine lv_aload_n (pc := 20) hx hb d_CD_init_20 rfl (lv_at hl 0 rfl) ?_
  refine lv_bipush (pc := 21) (v := 8) hx hb d_CD_init_21 (by decide) ?_
  refine zC_newl (pc := 23) (K := 8) (k := 3) hx hb (hta _ wd62) hK hC hS (by simp) (by decide +kernel) (by decide +kernel) (by decide +kernel) (Nat.le_of_ble_eq_true rfl) (Nat.le_of_ble_eq_true rfl) d_CD_init_23 (fun H hC hS => ?_)
  rw [List.cons_append] at hC
  refine zC_putF (pc := 25) (ci := 0) (v := .ref (o + 3)) (ty := .array .long) (C := R_CD) (T := T_CD) (N := 6) hx hb hta hin_CD ty_CD tyok_CD nm_CD hown hK hC hS rfl 2 (by decide) (hta _ wd45) (fun _ h9 => h9) rfl hin rfl (by decide +kernel) rfl rfl (Nat.le_of_ble_eq_true rfl) d_CD_init_25 (fun H locs hC hS => ?_)
  have hC : zC G o (.inr (0, [.ref (o + 1), .ref (o + 2), .ref (o + 3), .null, .null, .null]) :: _) H := hC
  refine lv_aload_n (pc := 28) hx hb d_CD_init_28 rfl (lv_at hl 0 rfl) ?_
  refine lv_bipush (pc := 29) (v := 8) hx hb d_CD_init_29 (by decide) ?_
  refine zC_newl (pc := 31) (K := 8) (k := 4) hx hb (hta _ wd62) hK hC hS (by simp) (by decide +kernel) (by decide +kernel) (by decide +kernel) (Nat.le_of_ble_eq_true rfl) (Nat.le_of_ble_eq_true rfl) d_CD_init_31 (fun H hC hS => ?_)
  rw [List.cons_append] at hC
  refine zC_putF (pc := 33) (ci := 0) (v := .ref (o + 4)) (ty := .array .long) (C := R_CD) (T := T_CD) (N := 6) hx hb hta hin_CD ty_CD tyok_CD nm_CD hown hK hC hS rfl 3 (by decide) (hta _ wd46) (fun _ h9 => h9) rfl hin rfl (by decide +kernel) rfl rfl (Nat.le_of_ble_eq_true rfl) d_CD_init_33 (fun H locs hC hS => ?_)
  have hC : zC G o (.inr (0, [.ref (o + 1), .ref (o + 2), .ref (o + 3), .ref (o + 4), .null, .null]) :: _) H := hC
  refine lv_aload_n (pc := 36) hx hb d_CD_init_36 rfl (lv_at hl 0 rfl) ?_
  refine lv_bipush (pc := 37) (v := 8) hx hb d_CD_init_37 (by decide) ?_
  refine zC_newl (pc := 39) (K := 8) (k := 5) hx hb (hta _ wd62) hK hC hS (by simp) (by decide +kernel) (by decide +kernel) (by decide +kernel) (Nat.le_of_ble_eq_true rfl) (Nat.le_of_ble_eq_true rfl) d_CD_init_39 (fun H hC hS => ?_)
  rw [List.cons_append] at hC
  refine zC_putF (pc := 41) (ci := 0) (v := .ref (o + 5)) (ty := .array .long) (C := R_CD) (T := T_CD) (N := 6) hx hb hta hin_CD ty_CD tyok_CD nm_CD hown hK hC hS rfl 4 (by decide) (hta _ wd47) (fun _ h9 => h9) rfl hin rfl (by decide +kernel) rfl rfl (Nat.le_of_ble_eq_true rfl) d_CD_init_41 (fun H locs hC hS => ?_)
  have hC : zC G o (.inr (0, [.ref (o + 1), .ref (o + 2), .ref (o + 3), .ref (o + 4), .ref (o + 5), .null]) :: _) H := hC
  refine lv_aload_n (pc := 44) hx hb d_CD_init_44 rfl (lv_at hl 0 rfl) ?_
  refine lv_bipush (pc := 45) (v := 8) hx hb d_CD_init_45 (by decide) ?_
  refine zC_newl (pc := 47) (K := 8) (k := 6) hx hb (hta _ wd62) hK hC hS (by simp) (by decide +kernel) (by decide +kernel) (by decide +kernel) (Nat.le_of_ble_eq_true rfl) (Nat.le_of_ble_eq_true rfl) d_CD_init_47 (fun H hC hS => ?_)
  rw [List.cons_append] at hC
  refine zC_putF (pc := 49) (ci := 0) (v := .ref (o + 6)) (ty := .array .long) (C := R_CD) (T := T_CD) (N := 6) hx hb hta hin_CD ty_CD tyok_CD nm_CD hown hK hC hS rfl 5 (by decide) (hta _ wd48) (fun _ h9 => h9) rfl hin rfl (by decide +kernel) rfl rfl (Nat.le_of_ble_eq_true rfl) d_CD_init_49 (fun H locs hC hS => ?_)
  have hC : zC G o (.inr (0, [.ref (o + 1), .ref (o + 2), .ref (o + 3), .ref (o + 4), .ref (o + 5), .ref (o + 6)]) :: _) H := hC
  exact zC_vret hx hb hr hlocks hC hS d_CD_init_52
