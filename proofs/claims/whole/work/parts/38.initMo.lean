theorem d_Mo_init_0 : decode prog_10_method_1_code 0 = .ok (.aload_n 0, 1) := by decide +kernel
theorem d_Mo_init_1 : decode prog_10_method_1_code 1 = .ok (.invokespecial 1, 3) := by decide +kernel
theorem d_Mo_init_4 : decode prog_10_method_1_code 4 = .ok (.aload_n 0, 1) := by decide +kernel
theorem d_Mo_init_5 : decode prog_10_method_1_code 5 = .ok (.bipush 32, 2) := by decide +kernel
theorem d_Mo_init_7 : decode prog_10_method_1_code 7 = .ok (.newarray .int, 2) := by decide +kernel
theorem d_Mo_init_9 : decode prog_10_method_1_code 9 = .ok (.putfield 7, 3) := by decide +kernel
theorem d_Mo_init_12 : decode prog_10_method_1_code 12 = .ok (.aload_n 0, 1) := by decide +kernel
theorem d_Mo_init_13 : decode prog_10_method_1_code 13 = .ok (.bipush 7, 2) := by decide +kernel
theorem d_Mo_init_15 : decode prog_10_method_1_code 15 = .ok (.newarray .int, 2) := by decide +kernel
theorem d_Mo_init_17 : decode prog_10_method_1_code 17 = .ok (.putfield 13, 3) := by decide +kernel
theorem d_Mo_init_20 : decode prog_10_method_1_code 20 = .ok (.aload_n 0, 1) := by decide +kernel
theorem d_Mo_init_21 : decode prog_10_method_1_code 21 = .ok (.bipush 56, 2) := by decide +kernel
theorem d_Mo_init_23 : decode prog_10_method_1_code 23 = .ok (.newarray .long, 2) := by decide +kernel
theorem d_Mo_init_25 : decode prog_10_method_1_code 25 = .ok (.putfield 16, 3) := by decide +kernel
theorem d_Mo_init_28 : decode prog_10_method_1_code 28 = .ok (.aload_n 0, 1) := by decide +kernel
theorem d_Mo_init_29 : decode prog_10_method_1_code 29 = .ok (.bipush 56, 2) := by decide +kernel
theorem d_Mo_init_31 : decode prog_10_method_1_code 31 = .ok (.newarray .long, 2) := by decide +kernel
theorem d_Mo_init_33 : decode prog_10_method_1_code 33 = .ok (.putfield 20, 3) := by decide +kernel
theorem d_Mo_init_36 : decode prog_10_method_1_code 36 = .ok (.aload_n 0, 1) := by decide +kernel
theorem d_Mo_init_37 : decode prog_10_method_1_code 37 = .ok (.bipush 16, 2) := by decide +kernel
theorem d_Mo_init_39 : decode prog_10_method_1_code 39 = .ok (.newarray .long, 2) := by decide +kernel
theorem d_Mo_init_41 : decode prog_10_method_1_code 41 = .ok (.putfield 23, 3) := by decide +kernel
theorem d_Mo_init_44 : decode prog_10_method_1_code 44 = .ok (.aload_n 0, 1) := by decide +kernel
theorem d_Mo_init_45 : decode prog_10_method_1_code 45 = .ok (.bipush 16, 2) := by decide +kernel
theorem d_Mo_init_47 : decode prog_10_method_1_code 47 = .ok (.newarray .long, 2) := by decide +kernel
theorem d_Mo_init_49 : decode prog_10_method_1_code 49 = .ok (.putfield 26, 3) := by decide +kernel
theorem d_Mo_init_52 : decode prog_10_method_1_code 52 = .ok (.aload_n 0, 1) := by decide +kernel
theorem d_Mo_init_53 : decode prog_10_method_1_code 53 = .ok (.bipush 16, 2) := by decide +kernel
theorem d_Mo_init_55 : decode prog_10_method_1_code 55 = .ok (.newarray .long, 2) := by decide +kernel
theorem d_Mo_init_57 : decode prog_10_method_1_code 57 = .ok (.putfield 29, 3) := by decide +kernel
theorem d_Mo_init_60 : decode prog_10_method_1_code 60 = .ok (.aload_n 0, 1) := by decide +kernel
theorem d_Mo_init_61 : decode prog_10_method_1_code 61 = .ok (.bipush 16, 2) := by decide +kernel
theorem d_Mo_init_63 : decode prog_10_method_1_code 63 = .ok (.newarray .long, 2) := by decide +kernel
theorem d_Mo_init_65 : decode prog_10_method_1_code 65 = .ok (.putfield 32, 3) := by decide +kernel
theorem d_Mo_init_68 : decode prog_10_method_1_code 68 = .ok (.aload_n 0, 1) := by decide +kernel
theorem d_Mo_init_69 : decode prog_10_method_1_code 69 = .ok (.bipush 16, 2) := by decide +kernel
theorem d_Mo_init_71 : decode prog_10_method_1_code 71 = .ok (.newarray .long, 2) := by decide +kernel
theorem d_Mo_init_73 : decode prog_10_method_1_code 73 = .ok (.putfield 35, 3) := by decide +kernel
theorem d_Mo_init_76 : decode prog_10_method_1_code 76 = .ok (.aload_n 0, 1) := by decide +kernel
theorem d_Mo_init_77 : decode prog_10_method_1_code 77 = .ok (.bipush 16, 2) := by decide +kernel
theorem d_Mo_init_79 : decode prog_10_method_1_code 79 = .ok (.newarray .long, 2) := by decide +kernel
theorem d_Mo_init_81 : decode prog_10_method_1_code 81 = .ok (.putfield 38, 3) := by decide +kernel
theorem d_Mo_init_84 : decode prog_10_method_1_code 84 = .ok (.aload_n 0, 1) := by decide +kernel
theorem d_Mo_init_85 : decode prog_10_method_1_code 85 = .ok (.bipush 16, 2) := by decide +kernel
theorem d_Mo_init_87 : decode prog_10_method_1_code 87 = .ok (.newarray .long, 2) := by decide +kernel
theorem d_Mo_init_89 : decode prog_10_method_1_code 89 = .ok (.putfield 41, 3) := by decide +kernel
theorem d_Mo_init_92 : decode prog_10_method_1_code 92 = .ok (.aload_n 0, 1) := by decide +kernel
theorem d_Mo_init_93 : decode prog_10_method_1_code 93 = .ok (.bipush 16, 2) := by decide +kernel
theorem d_Mo_init_95 : decode prog_10_method_1_code 95 = .ok (.newarray .long, 2) := by decide +kernel
theorem d_Mo_init_97 : decode prog_10_method_1_code 97 = .ok (.putfield 44, 3) := by decide +kernel
theorem d_Mo_init_100 : decode prog_10_method_1_code 100 = .ok (.aload_n 0, 1) := by decide +kernel
theorem d_Mo_init_101 : decode prog_10_method_1_code 101 = .ok (.bipush 16, 2) := by decide +kernel
theorem d_Mo_init_103 : decode prog_10_method_1_code 103 = .ok (.newarray .long, 2) := by decide +kernel
theorem d_Mo_init_105 : decode prog_10_method_1_code 105 = .ok (.putfield 47, 3) := by decide +kernel
theorem d_Mo_init_108 : decode prog_10_method_1_code 108 = .ok (.aload_n 0, 1) := by decide +kernel
theorem d_Mo_init_109 : decode prog_10_method_1_code 109 = .ok (.bipush 16, 2) := by decide +kernel
theorem d_Mo_init_111 : decode prog_10_method_1_code 111 = .ok (.newarray .long, 2) := by decide +kernel
theorem d_Mo_init_113 : decode prog_10_method_1_code 113 = .ok (.putfield 50, 3) := by decide +kernel
theorem d_Mo_init_116 : decode prog_10_method_1_code 116 = .ok (.aload_n 0, 1) := by decide +kernel
theorem d_Mo_init_117 : decode prog_10_method_1_code 117 = .ok (.bipush 16, 2) := by decide +kernel
theorem d_Mo_init_119 : decode prog_10_method_1_code 119 = .ok (.newarray .long, 2) := by decide +kernel
theorem d_Mo_init_121 : decode prog_10_method_1_code 121 = .ok (.putfield 53, 3) := by decide +kernel
theorem d_Mo_init_124 : decode prog_10_method_1_code 124 = .ok (.aload_n 0, 1) := by decide +kernel
theorem d_Mo_init_125 : decode prog_10_method_1_code 125 = .ok (.bipush 16, 2) := by decide +kernel
theorem d_Mo_init_127 : decode prog_10_method_1_code 127 = .ok (.newarray .long, 2) := by decide +kernel
theorem d_Mo_init_129 : decode prog_10_method_1_code 129 = .ok (.putfield 56, 3) := by decide +kernel
theorem d_Mo_init_132 : decode prog_10_method_1_code 132 = .ok (.aload_n 0, 1) := by decide +kernel
theorem d_Mo_init_133 : decode prog_10_method_1_code 133 = .ok (.bipush 16, 2) := by decide +kernel
theorem d_Mo_init_135 : decode prog_10_method_1_code 135 = .ok (.newarray .long, 2) := by decide +kernel
theorem d_Mo_init_137 : decode prog_10_method_1_code 137 = .ok (.putfield 59, 3) := by decide +kernel
theorem d_Mo_init_140 : decode prog_10_method_1_code 140 = .ok (.aload_n 0, 1) := by decide +kernel
theorem d_Mo_init_141 : decode prog_10_method_1_code 141 = .ok (.bipush 16, 2) := by decide +kernel
theorem d_Mo_init_143 : decode prog_10_method_1_code 143 = .ok (.newarray .long, 2) := by decide +kernel
theorem d_Mo_init_145 : decode prog_10_method_1_code 145 = .ok (.putfield 62, 3) := by decide +kernel
theorem d_Mo_init_148 : decode prog_10_method_1_code 148 = .ok (.aload_n 0, 1) := by decide +kernel
theorem d_Mo_init_149 : decode prog_10_method_1_code 149 = .ok (.bipush 10, 2) := by decide +kernel
theorem d_Mo_init_151 : decode prog_10_method_1_code 151 = .ok (.newarray .int, 2) := by decide +kernel
theorem d_Mo_init_153 : decode prog_10_method_1_code 153 = .ok (.dup, 1) := by decide +kernel
theorem d_Mo_init_154 : decode prog_10_method_1_code 154 = .ok (.iconst 0, 1) := by decide +kernel
theorem d_Mo_init_155 : decode prog_10_method_1_code 155 = .ok (.ldc 65, 2) := by decide +kernel
theorem d_Mo_init_157 : decode prog_10_method_1_code 157 = .ok (.iastore, 1) := by decide +kernel
theorem d_Mo_init_158 : decode prog_10_method_1_code 158 = .ok (.dup, 1) := by decide +kernel
theorem d_Mo_init_159 : decode prog_10_method_1_code 159 = .ok (.iconst 1, 1) := by decide +kernel
theorem d_Mo_init_160 : decode prog_10_method_1_code 160 = .ok (.ldc 66, 2) := by decide +kernel
theorem d_Mo_init_162 : decode prog_10_method_1_code 162 = .ok (.iastore, 1) := by decide +kernel
theorem d_Mo_init_163 : decode prog_10_method_1_code 163 = .ok (.dup, 1) := by decide +kernel
theorem d_Mo_init_164 : decode prog_10_method_1_code 164 = .ok (.iconst 2, 1) := by decide +kernel
theorem d_Mo_init_165 : decode prog_10_method_1_code 165 = .ok (.ldc 67, 2) := by decide +kernel
theorem d_Mo_init_167 : decode prog_10_method_1_code 167 = .ok (.iastore, 1) := by decide +kernel
theorem d_Mo_init_168 : decode prog_10_method_1_code 168 = .ok (.dup, 1) := by decide +kernel
theorem d_Mo_init_169 : decode prog_10_method_1_code 169 = .ok (.iconst 3, 1) := by decide +kernel
theorem d_Mo_init_170 : decode prog_10_method_1_code 170 = .ok (.ldc 68, 2) := by decide +kernel
theorem d_Mo_init_172 : decode prog_10_method_1_code 172 = .ok (.iastore, 1) := by decide +kernel
theorem d_Mo_init_173 : decode prog_10_method_1_code 173 = .ok (.dup, 1) := by decide +kernel
theorem d_Mo_init_174 : decode prog_10_method_1_code 174 = .ok (.iconst 4, 1) := by decide +kernel
theorem d_Mo_init_175 : decode prog_10_method_1_code 175 = .ok (.ldc 69, 2) := by decide +kernel
theorem d_Mo_init_177 : decode prog_10_method_1_code 177 = .ok (.iastore, 1) := by decide +kernel
theorem d_Mo_init_178 : decode prog_10_method_1_code 178 = .ok (.dup, 1) := by decide +kernel
theorem d_Mo_init_179 : decode prog_10_method_1_code 179 = .ok (.iconst 5, 1) := by decide +kernel
theorem d_Mo_init_180 : decode prog_10_method_1_code 180 = .ok (.ldc 70, 2) := by decide +kernel
theorem d_Mo_init_182 : decode prog_10_method_1_code 182 = .ok (.iastore, 1) := by decide +kernel
theorem d_Mo_init_183 : decode prog_10_method_1_code 183 = .ok (.dup, 1) := by decide +kernel
theorem d_Mo_init_184 : decode prog_10_method_1_code 184 = .ok (.bipush 6, 2) := by decide +kernel
theorem d_Mo_init_186 : decode prog_10_method_1_code 186 = .ok (.ldc 71, 2) := by decide +kernel
theorem d_Mo_init_188 : decode prog_10_method_1_code 188 = .ok (.iastore, 1) := by decide +kernel
theorem d_Mo_init_189 : decode prog_10_method_1_code 189 = .ok (.dup, 1) := by decide +kernel
theorem d_Mo_init_190 : decode prog_10_method_1_code 190 = .ok (.bipush 7, 2) := by decide +kernel
theorem d_Mo_init_192 : decode prog_10_method_1_code 192 = .ok (.ldc 72, 2) := by decide +kernel
theorem d_Mo_init_194 : decode prog_10_method_1_code 194 = .ok (.iastore, 1) := by decide +kernel
theorem d_Mo_init_195 : decode prog_10_method_1_code 195 = .ok (.dup, 1) := by decide +kernel
theorem d_Mo_init_196 : decode prog_10_method_1_code 196 = .ok (.bipush 8, 2) := by decide +kernel
theorem d_Mo_init_198 : decode prog_10_method_1_code 198 = .ok (.ldc 73, 2) := by decide +kernel
theorem d_Mo_init_200 : decode prog_10_method_1_code 200 = .ok (.iastore, 1) := by decide +kernel
theorem d_Mo_init_201 : decode prog_10_method_1_code 201 = .ok (.dup, 1) := by decide +kernel
theorem d_Mo_init_202 : decode prog_10_method_1_code 202 = .ok (.bipush 9, 2) := by decide +kernel
theorem d_Mo_init_204 : decode prog_10_method_1_code 204 = .ok (.ldc 74, 2) := by decide +kernel
theorem d_Mo_init_206 : decode prog_10_method_1_code 206 = .ok (.iastore, 1) := by decide +kernel
theorem d_Mo_init_207 : decode prog_10_method_1_code 207 = .ok (.putfield 75, 3) := by decide +kernel
theorem d_Mo_init_210 : decode prog_10_method_1_code 210 = .ok (.return_, 1) := by decide +kernel
def es_Mo (G : zG) (o : Nat) : List va_E := .inr (6, [.int 0, .ref (o + 1), .int 0, .int 0, .ref (o + 2), .ref (o + 3), .int 0, .ref (o + 4), .ref (o + 5), .ref (o + 6), .ref (o + 7), .ref (o + 8), .ref (o + 9), .ref (o + 10), .ref (o + 11), .ref (o + 12), .ref (o + 13), .ref (o + 14), .ref (o + 15), .ref (o + 16), .ref (o + 17), .ref (o + 18), .ref (o + 19)]) :: ([] ++ [.inl (G.2.2.1, 32, .inl (fun _ => 0))] ++ [.inl (G.2.2.1, 7, .inl (fun _ => 0))] ++ [.inl (G.2.1, 56, .inr (.inl (fun _ => 0)))] ++ [.inl (G.2.1, 56, .inr (.inl (fun _ => 0)))] ++ [.inl (G.2.1, 16, .inr (.inl (fun _ => 0)))] ++ [.inl (G.2.1, 16, .inr (.inl (fun _ => 0)))] ++ [.inl (G.2.1, 16, .inr (.inl (fun _ => 0)))] ++ [.inl (G.2.1, 16, .inr (.inl (fun _ => 0)))] ++ [.inl (G.2.1, 16, .inr (.inl (fun _ => 0)))] ++ [.inl (G.2.1, 16, .inr (.inl (fun _ => 0)))] ++ [.inl (G.2.1, 16, .inr (.inl (fun _ => 0)))] ++ [.inl (G.2.1, 16, .inr (.inl (fun _ => 0)))] ++ [.inl (G.2.1, 16, .inr (.inl (fun _ => 0)))] ++ [.inl (G.2.1, 16, .inr (.inl (fun _ => 0)))] ++ [.inl (G.2.1, 16, .inr (.inl (fun _ => 0)))] ++ [.inl (G.2.1, 16, .inr (.inl (fun _ => 0)))] ++ [.inl (G.2.1, 16, .inr (.inl (fun _ => 0)))] ++ [.inl (G.2.1, 16, .inr (.inl (fun _ => 0)))] ++ [.inl (G.2.2.1, 10, .inl (upd (upd (upd (upd (upd (upd (upd (upd (upd (upd (fun _ => 0) (0 : Int32).toNatClampNeg 1000000007) (1 : Int32).toNatClampNeg 1000000009) (2 : Int32).toNatClampNeg 1000000021) (3 : Int32).toNatClampNeg 1000000033) (4 : Int32).toNatClampNeg 1000000087) (5 : Int32).toNatClampNeg 1000000093) (6 : Int32).toNatClampNeg 1000000097) (7 : Int32).toNatClampNeg 1000000103) (8 : Int32).toNatClampNeg 1000000123) (9 : Int32).toNatClampNeg 1000000181))])
theorem len_Mo {G : zG} {o : Nat} : (es_Mo G o).length = 20 := by simp [es_Mo, len_CD, len_Fa, len_IS, len_Li, len_MP, len_Sp]
def ws_Mo_init : List Cond := .code y_Mo_init prog_10_method_1_code 1 none :: zall
def rm_Mo_init : Room := { frames := 1, cells := 19, slots := 385, locals := 12 }
theorem hd_Mo_init : y_Mo_init.cls ≠ "java/lang/invoke/MethodHandle" ∧ y_Mo_init.cls ≠ "java/lang/invoke/VarHandle" ∧ (parseMethodDescriptor y_Mo_init.desc).map (fun d => d.parameters.length) = some 0 := by decide +kernel
set_option maxHeartbeats 4000000 in
set_option maxRecDepth 100000 in
theorem c_Mo_init (l : Launch) (G : zG) (o : Nat) : Met l y_Mo_init ws_Mo_init rm_Mo_init (zCc G o (.inr (6, [.int 0, .null, .int 0, .int 0, .null, .null, .int 0, .null, .null, .null, .null, .null, .null, .null, .null, .null, .null, .null, .null, .null, .null, .null, .null]))) (zQc G o (es_Mo G o)) 19 385 (zA o) := by
  refine Met.ofW (cc := prog_10_method_1_code) (maxL := 1) (ret := none) (by decide) rfl ?_
  intro p e s m args below meth c s₁ B hml hv
  obtain ⟨rfl, hC, hK, hN, hO⟩ := hv
  have hx := B.exec
  have hb := B.bytes
  have hr := B.returns
  have hts := atoms_spec (ws := ws_Mo_init) B.pre
  have hta : ∀ w ∈ zall, w.before ([.ref o] : List Value).toArray s = true := fun w h => hts w (List.mem_cons_of_mem _ h)
  have hown : s.vm.findClass R_Mo = some m.cls := findClass_of_methodNamed B.named
  have hlocks := B.notSynchronized
  have hin : meth.name = "<init>" := (name_of_methodNamed B.named B.method).1
  have hS : va_S (zA o) s.heap s.heap [] := va_S.rf
  have hl := lv_entry ([.ref o]) (n := 1) (Nat.le_of_ble_eq_true rfl)
  rw [lg_entry_eq]
  generalize (lg_sl ([.ref o]) ++ List.replicate (1 - (lg_sl ([.ref o])).length) Slot.unset).toArray = ls at hl ⊢
  have hl : lv_has ls 1 [(0, .ref (o + 0))] := hl
  refine lv_aload_n (pc := 0) hx hb d_Mo_init_0 rfl (lv_at hl 0 rfl) ?_
  refine W.objInit hx hb hown (hta _ wd716) (hta _ wd27) (hta _ wd28) rfl (by rw [hml]; exact hl.1) rfl d_Mo_init_1 (Nat.le_of_ble_eq_true rfl) (Nat.le_of_ble_eq_true rfl) ?_
  refine W.eq (g2 := F0 m 4 ls []) rfl ?_
  refine lv_aload_n (pc := 4) hx hb d_Mo_init_4 rfl (lv_at hl 0 rfl) ?_
  refine lv_bipush (pc := 5) (v := 32) hx hb d_Mo_init_5 (by decide) ?_
  refine zC_newi (pc := 7) (K := 32) (k := 1) hx hb (hta _ wd105) hK hC hS (by rfl) (by decide +kernel) (by decide +kernel) (by decide +kernel) (Nat.le_of_ble_eq_true rfl) (Nat.le_of_ble_eq_true rfl) d_Mo_init_7 (fun H hC hS => ?_)
  rw [List.cons_append] at hC
  obtain ⟨T1, eT1, hn1⟩ : ∃ T : List va_E, T = [] ++ [.inl (G.2.2.1, 32, .inl (fun _ => 0))] ∧ T.length = 1 := ⟨_, rfl, by rw [List.length_append]; rfl⟩
  rw [← eT1] at hC
  refine zC_putF (pc := 9) (ci := 6) (v := .ref (o + 1)) (ty := .array .int) (C := R_Mo) (T := T_Mo) (N := 23) hx hb hta hin_Mo ty_Mo tyok_Mo nm_Mo hown hK hC hS rfl 1 (by decide) (hta _ wd728) (fun _ h9 => h9) rfl hin rfl (by decide +kernel) rfl rfl (Nat.le_of_ble_eq_true rfl) d_Mo_init_9 (fun H locs hC hS => ?_)
  have hC : zC G o (.inr (6, [.int 0, .ref (o + 1), .int 0, .int 0, .null, .null, .int 0, .null, .null, .null, .null, .null, .null, .null, .null, .null, .null, .null, .null, .null, .null, .null, .null]) :: _) H := hC
  refine lv_aload_n (pc := 12) hx hb d_Mo_init_12 rfl (lv_at hl 0 rfl) ?_
  refine lv_bipush (pc := 13) (v := 7) hx hb d_Mo_init_13 (by decide) ?_
  refine zC_newi (pc := 15) (K := 7) (k := 2) hx hb (hta _ wd105) hK hC hS (by rw [List.length_cons, hn1]) (by decide +kernel) (by decide +kernel) (by decide +kernel) (Nat.le_of_ble_eq_true rfl) (Nat.le_of_ble_eq_true rfl) d_Mo_init_15 (fun H hC hS => ?_)
  rw [List.cons_append] at hC
  obtain ⟨T2, eT2, hn2⟩ : ∃ T : List va_E, T = T1 ++ [.inl (G.2.2.1, 7, .inl (fun _ => 0))] ∧ T.length = 2 := ⟨_, rfl, by rw [List.length_append, hn1]; rfl⟩
  rw [← eT2] at hC
  refine zC_putF (pc := 17) (ci := 6) (v := .ref (o + 2)) (ty := .array .int) (C := R_Mo) (T := T_Mo) (N := 23) hx hb hta hin_Mo ty_Mo tyok_Mo nm_Mo hown hK hC hS rfl 4 (by decide) (hta _ wd731) (fun _ h9 => h9) rfl hin rfl (by decide +kernel) rfl rfl (Nat.le_of_ble_eq_true rfl) d_Mo_init_17 (fun H locs hC hS => ?_)
  have hC : zC G o (.inr (6, [.int 0, .ref (o + 1), .int 0, .int 0, .ref (o + 2), .null, .int 0, .null, .null, .null, .null, .null, .null, .null, .null, .null, .null, .null, .null, .null, .null, .null, .null]) :: _) H := hC
  refine lv_aload_n (pc := 20) hx hb d_Mo_init_20 rfl (lv_at hl 0 rfl) ?_
  refine lv_bipush (pc := 21) (v := 56) hx hb d_Mo_init_21 (by decide) ?_
  refine zC_newl (pc := 23) (K := 56) (k := 3) hx hb (hta _ wd62) hK hC hS (by rw [List.length_cons, hn2]) (by decide +kernel) (by decide +kernel) (by decide +kernel) (Nat.le_of_ble_eq_true rfl) (Nat.le_of_ble_eq_true rfl) d_Mo_init_23 (fun H hC hS => ?_)
  rw [List.cons_append] at hC
  obtain ⟨T3, eT3, hn3⟩ : ∃ T : List va_E, T = T2 ++ [.inl (G.2.1, 56, .inr (.inl (fun _ => 0)))] ∧ T.length = 3 := ⟨_, rfl, by rw [List.length_append, hn2]; rfl⟩
  rw [← eT3] at hC
  refine zC_putF (pc := 25) (ci := 6) (v := .ref (o + 3)) (ty := .array .long) (C := R_Mo) (T := T_Mo) (N := 23) hx hb hta hin_Mo ty_Mo tyok_Mo nm_Mo hown hK hC hS rfl 5 (by decide) (hta _ wd732) (fun _ h9 => h9) rfl hin rfl (by decide +kernel) rfl rfl (Nat.le_of_ble_eq_true rfl) d_Mo_init_25 (fun H locs hC hS => ?_)
  have hC : zC G o (.inr (6, [.int 0, .ref (o + 1), .int 0, .int 0, .ref (o + 2), .ref (o + 3), .int 0, .null, .null, .null, .null, .null, .null, .null, .null, .null, .null, .null, .null, .null, .null, .null, .null]) :: _) H := hC
  refine lv_aload_n (pc := 28) hx hb d_Mo_init_28 rfl (lv_at hl 0 rfl) ?_
  refine lv_bipush (pc := 29) (v := 56) hx hb d_Mo_init_29 (by decide) ?_
  refine zC_newl (pc := 31) (K := 56) (k := 4) hx hb (hta _ wd62) hK hC hS (by rw [List.length_cons, hn3]) (by decide +kernel) (by decide +kernel) (by decide +kernel) (Nat.le_of_ble_eq_true rfl) (Nat.le_of_ble_eq_true rfl) d_Mo_init_31 (fun H hC hS => ?_)
  rw [List.cons_append] at hC
  obtain ⟨T4, eT4, hn4⟩ : ∃ T : List va_E, T = T3 ++ [.inl (G.2.1, 56, .inr (.inl (fun _ => 0)))] ∧ T.length = 4 := ⟨_, rfl, by rw [List.length_append, hn3]; rfl⟩
  rw [← eT4] at hC
  refine zC_putF (pc := 33) (ci := 6) (v := .ref (o + 4)) (ty := .array .long) (C := R_Mo) (T := T_Mo) (N := 23) hx hb hta hin_Mo ty_Mo tyok_Mo nm_Mo hown hK hC hS rfl 7 (by decide) (hta _ wd734) (fun _ h9 => h9) rfl hin rfl (by decide +kernel) rfl rfl (Nat.le_of_ble_eq_true rfl) d_Mo_init_33 (fun H locs hC hS => ?_)
  have hC : zC G o (.inr (6, [.int 0, .ref (o + 1), .int 0, .int 0, .ref (o + 2), .ref (o + 3), .int 0, .ref (o + 4), .null, .null, .null, .null, .null, .null, .null, .null, .null, .null, .null, .null, .null, .null, .null]) :: _) H := hC
  refine lv_aload_n (pc := 36) hx hb d_Mo_init_36 rfl (lv_at hl 0 rfl) ?_
  refine lv_bipush (pc := 37) (v := 16) hx hb d_Mo_init_37 (by decide) ?_
  refine zC_newl (pc := 39) (K := 16) (k := 5) hx hb (hta _ wd62) hK hC hS (by rw [List.length_cons, hn4]) (by decide +kernel) (by decide +kernel) (by decide +kernel) (Nat.le_of_ble_eq_true rfl) (Nat.le_of_ble_eq_true rfl) d_Mo_init_39 (fun H hC hS => ?_)
  rw [List.cons_append] at hC
  obtain ⟨T5, eT5, hn5⟩ : ∃ T : List va_E, T = T4 ++ [.inl (G.2.1, 16, .inr (.inl (fun _ => 0)))] ∧ T.length = 5 := ⟨_, rfl, by rw [List.length_append, hn4]; rfl⟩
  rw [← eT5] at hC
  refine zC_putF (pc := 41) (ci := 6) (v := .ref (o + 5)) (ty := .array .long) (C := R_Mo) (T := T_Mo) (N := 23) hx hb hta hin_Mo ty_Mo tyok_Mo nm_Mo hown hK hC hS rfl 8 (by decide) (hta _ wd735) (fun _ h9 => h9) rfl hin rfl (by decide +kernel) rfl rfl (Nat.le_of_ble_eq_true rfl) d_Mo_init_41 (fun H locs hC hS => ?_)
  have hC : zC G o (.inr (6, [.int 0, .ref (o + 1), .int 0, .int 0, .ref (o + 2), .ref (o + 3), .int 0, .ref (o + 4), .ref (o + 5), .null, .null, .null, .null, .null, .null, .null, .null, .null, .null, .null, .null, .null, .null]) :: _) H := hC
  refine lv_aload_n (pc := 44) hx hb d_Mo_init_44 rfl (lv_at hl 0 rfl) ?_
  refine lv_bipush (pc := 45) (v := 16) hx hb d_Mo_init_45 (by decide) ?_
  refine zC_newl (pc := 47) (K := 16) (k := 6) hx hb (hta _ wd62) hK hC hS (by rw [List.length_cons, hn5]) (by decide +kernel) (by decide +kernel) (by decide +kernel) (Nat.le_of_ble_eq_true rfl) (Nat.le_of_ble_eq_true rfl) d_Mo_init_47 (fun H hC hS => ?_)
  rw [List.cons_append] at hC
  obtain ⟨T6, eT6, hn6⟩ : ∃ T : List va_E, T = T5 ++ [.inl (G.2.1, 16, .inr (.inl (fun _ => 0)))] ∧ T.length = 6 := ⟨_, rfl, by rw [List.length_append, hn5]; rfl⟩
  rw [← eT6] at hC
  refine zC_putF (pc := 49) (ci := 6) (v := .ref (o + 6)) (ty := .array .long) (C := R_Mo) (T := T_Mo) (N := 23) hx hb hta hin_Mo ty_Mo tyok_Mo nm_Mo hown hK hC hS rfl 9 (by decide) (hta _ wd736) (fun _ h9 => h9) rfl hin rfl (by decide +kernel) rfl rfl (Nat.le_of_ble_eq_true rfl) d_Mo_init_49 (fun H locs hC hS => ?_)
  have hC : zC G o (.inr (6, [.int 0, .ref (o + 1), .int 0, .int 0, .ref (o + 2), .ref (o + 3), .int 0, .ref (o + 4), .ref (o + 5), .ref (o + 6), .null, .null, .null, .null, .null, .null, .null, .null, .null, .null, .null, .null, .null]) :: _) H := hC
  refine lv_aload_n (pc := 52) hx hb d_Mo_init_52 rfl (lv_at hl 0 rfl) ?_
  refine lv_bipush (pc := 53) (v := 16) hx hb d_Mo_init_53 (by decide) ?_
  refine zC_newl (pc := 55) (K := 16) (k := 7) hx hb (hta _ wd62) hK hC hS (by rw [List.length_cons, hn6]) (by decide +kernel) (by decide +kernel) (by decide +kernel) (Nat.le_of_ble_eq_true rfl) (Nat.le_of_ble_eq_true rfl) d_Mo_init_55 (fun H hC hS => ?_)
  rw [List.cons_append] at hC
  obtain ⟨T7, eT7, hn7⟩ : ∃ T : List va_E, T = T6 ++ [.inl (G.2.1, 16, .inr (.inl (fun _ => 0)))] ∧ T.length = 7 := ⟨_, rfl, by rw [List.length_append, hn6]; rfl⟩
  rw [← eT7] at hC
  refine zC_putF (pc := 57) (ci := 6) (v := .ref (o + 7)) (ty := .array .long) (C := R_Mo) (T := T_Mo) (N := 23) hx hb hta hin_Mo ty_Mo tyok_Mo nm_Mo hown hK hC hS rfl 10 (by decide) (hta _ wd737) (fun _ h9 => h9) rfl hin rfl (by decide +kernel) rfl rfl (Nat.le_of_ble_eq_true rfl) d_Mo_init_57 (fun H locs hC hS => ?_)
  have hC : zC G o (.inr (6, [.int 0, .ref (o + 1), .int 0, .int 0, .ref (o + 2), .ref (o + 3), .int 0, .ref (o + 4), .ref (o + 5), .ref (o + 6), .ref (o + 7), .null, .null, .null, .null, .null, .null, .null, .null, .null, .null, .null, .null]) :: _) H := hC
  refine lv_aload_n (pc := 60) hx hb d_Mo_init_60 rfl (lv_at hl 0 rfl) ?_
  refine lv_bipush (pc := 61) (v := 16) hx hb d_Mo_init_61 (by decide) ?_
  refine zC_newl (pc := 63) (K := 16) (k := 8) hx hb (hta _ wd62) hK hC hS (by rw [List.length_cons, hn7]) (by decide +kernel) (by decide +kernel) (by decide +kernel) (Nat.le_of_ble_eq_true rfl) (Nat.le_of_ble_eq_true rfl) d_Mo_init_63 (fun H hC hS => ?_)
  rw [List.cons_append] at hC
  obtain ⟨T8, eT8, hn8⟩ : ∃ T : List va_E, T = T7 ++ [.inl (G.2.1, 16, .inr (.inl (fun _ => 0)))] ∧ T.length = 8 := ⟨_, rfl, by rw [List.length_append, hn7]; rfl⟩
  rw [← eT8] at hC
  refine zC_putF (pc := 65) (ci := 6) (v := .ref (o + 8)) (ty := .array .long) (C := R_Mo) (T := T_Mo) (N := 23) hx hb hta hin_Mo ty_Mo tyok_Mo nm_Mo hown hK hC hS rfl 11 (by decide) (hta _ wd738) (fun _ h9 => h9) rfl hin rfl (by decide +kernel) rfl rfl (Nat.le_of_ble_eq_true rfl) d_Mo_init_65 (fun H locs hC hS => ?_)
  have hC : zC G o (.inr (6, [.int 0, .ref (o + 1), .int 0, .int 0, .ref (o + 2), .ref (o + 3), .int 0, .ref (o + 4), .ref (o + 5), .ref (o + 6), .ref (o + 7), .ref (o + 8), .null, .null, .null, .null, .null, .null, .null, .null, .null, .null, .null]) :: _) H := hC
  refine lv_aload_n (pc := 68) hx hb d_Mo_init_68 rfl (lv_at hl 0 rfl) ?_
  refine lv_bipush (pc := 69) (v := 16) hx hb d_Mo_init_69 (by decide) ?_
  refine zC_newl (pc := 71) (K := 16) (k := 9) hx hb (hta _ wd62) hK hC hS (by rw [List.length_cons, hn8]) (by decide +kernel) (by decide +kernel) (by decide +kernel) (Nat.le_of_ble_eq_true rfl) (Nat.le_of_ble_eq_true rfl) d_Mo_init_71 (fun H hC hS => ?_)
  rw [List.cons_append] at hC
  obtain ⟨T9, eT9, hn9⟩ : ∃ T : List va_E, T = T8 ++ [.inl (G.2.1, 16, .inr (.inl (fun _ => 0)))] ∧ T.length = 9 := ⟨_, rfl, by rw [List.length_append, hn8]; rfl⟩
  rw [← eT9] at hC
  refine zC_putF (pc := 73) (ci := 6) (v := .ref (o + 9)) (ty := .array .long) (C := R_Mo) (T := T_Mo) (N := 23) hx hb hta hin_Mo ty_Mo tyok_Mo nm_Mo hown hK hC hS rfl 12 (by decide) (hta _ wd739) (fun _ h9 => h9) rfl hin rfl (by decide +kernel) rfl rfl (Nat.le_of_ble_eq_true rfl) d_Mo_init_73 (fun H locs hC hS => ?_)
  have hC : zC G o (.inr (6, [.int 0, .ref (o + 1), .int 0, .int 0, .ref (o + 2), .ref (o + 3), .int 0, .ref (o + 4), .ref (o + 5), .ref (o + 6), .ref (o + 7), .ref (o + 8), .ref (o + 9), .null, .null, .null, .null, .null, .null, .null, .null, .null, .null]) :: _) H := hC
  refine lv_aload_n (pc := 76) hx hb d_Mo_init_76 rfl (lv_at hl 0 rfl) ?_
  refine lv_bipush (pc := 77) (v := 16) hx hb d_Mo_init_77 (by decide) ?_
  refine zC_newl (pc := 79) (K := 16) (k := 10) hx hb (hta _ wd62) hK hC hS (by rw [List.length_cons, hn9]) (by decide +kernel) (by decide +kernel) (by decide +kernel) (Nat.le_of_ble_eq_true rfl) (Nat.le_of_ble_eq_true rfl) d_Mo_init_79 (fun H hC hS => ?_)
  rw [List.cons_append] at hC
  obtain ⟨T10, eT10, hn10⟩ : ∃ T : List va_E, T = T9 ++ [.inl (G.2.1, 16, .inr (.inl (fun _ => 0)))] ∧ T.length = 10 := ⟨_, rfl, by rw [List.length_append, hn9]; rfl⟩
  rw [← eT10] at hC
  refine zC_putF (pc := 81) (ci := 6) (v := .ref (o + 10)) (ty := .array .long) (C := R_Mo) (T := T_Mo) (N := 23) hx hb hta hin_Mo ty_Mo tyok_Mo nm_Mo hown hK hC hS rfl 13 (by decide) (hta _ wd740) (fun _ h9 => h9) rfl hin rfl (by decide +kernel) rfl rfl (Nat.le_of_ble_eq_true rfl) d_Mo_init_81 (fun H locs hC hS => ?_)
  have hC : zC G o (.inr (6, [.int 0, .ref (o + 1), .int 0, .int 0, .ref (o + 2), .ref (o + 3), .int 0, .ref (o + 4), .ref (o + 5), .ref (o + 6), .ref (o + 7), .ref (o + 8), .ref (o + 9), .ref (o + 10), .null, .null, .null, .null, .null, .null, .null, .null, .null]) :: _) H := hC
  refine lv_aload_n (pc := 84) hx hb d_Mo_init_84 rfl (lv_at hl 0 rfl) ?_
  refine lv_bipush (pc := 85) (v := 16) hx hb d_Mo_init_85 (by decide) ?_
  refine zC_newl (pc := 87) (K := 16) (k := 11) hx hb (hta _ wd62) hK hC hS (by rw [List.length_cons, hn10]) (by decide +kernel) (by decide +kernel) (by decide +kernel) (Nat.le_of_ble_eq_true rfl) (Nat.le_of_ble_eq_true rfl) d_Mo_init_87 (fun H hC hS => ?_)
  rw [List.cons_append] at hC
  obtain ⟨T11, eT11, hn11⟩ : ∃ T : List va_E, T = T10 ++ [.inl (G.2.1, 16, .inr (.inl (fun _ => 0)))] ∧ T.length = 11 := ⟨_, rfl, by rw [List.length_append, hn10]; rfl⟩
  rw [← eT11] at hC
  refine zC_putF (pc := 89) (ci := 6) (v := .ref (o + 11)) (ty := .array .long) (C := R_Mo) (T := T_Mo) (N := 23) hx hb hta hin_Mo ty_Mo tyok_Mo nm_Mo hown hK hC hS rfl 14 (by decide) (hta _ wd741) (fun _ h9 => h9) rfl hin rfl (by decide +kernel) rfl rfl (Nat.le_of_ble_eq_true rfl) d_Mo_init_89 (fun H locs hC hS => ?_)
  have hC : zC G o (.inr (6, [.int 0, .ref (o + 1), .int 0, .int 0, .ref (o + 2), .ref (o + 3), .int 0, .ref (o + 4), .ref (o + 5), .ref (o + 6), .ref (o + 7), .ref (o + 8), .ref (o + 9), .ref (o + 10), .ref (o + 11), .null, .null, .null, .null, .null, .null, .null, .null]) :: _) H := hC
  refine lv_aload_n (pc := 92) hx hb d_Mo_init_92 rfl (lv_at hl 0 rfl) ?_
  refine lv_bipush (pc := 93) (v := 16) hx hb d_Mo_init_93 (by decide) ?_
  refine zC_newl (pc := 95) (K := 16) (k := 12) hx hb (hta _ wd62) hK hC hS (by rw [List.length_cons, hn11]) (by decide +kernel) (by decide +kernel) (by decide +kernel) (Nat.le_of_ble_eq_true rfl) (Nat.le_of_ble_eq_true rfl) d_Mo_init_95 (fun H hC hS => ?_)
  rw [List.cons_append] at hC
  obtain ⟨T12, eT12, hn12⟩ : ∃ T : List va_E, T = T11 ++ [.inl (G.2.1, 16, .inr (.inl (fun _ => 0)))] ∧ T.length = 12 := ⟨_, rfl, by rw [List.length_append, hn11]; rfl⟩
  rw [← eT12] at hC
  refine zC_putF (pc := 97) (ci := 6) (v := .ref (o + 12)) (ty := .array .long) (C := R_Mo) (T := T_Mo) (N := 23) hx hb hta hin_Mo ty_Mo tyok_Mo nm_Mo hown hK hC hS rfl 15 (by decide) (hta _ wd742) (fun _ h9 => h9) rfl hin rfl (by decide +kernel) rfl rfl (Nat.le_of_ble_eq_true rfl) d_Mo_init_97 (fun H locs hC hS => ?_)
  have hC : zC G o (.inr (6, [.int 0, .ref (o + 1), .int 0, .int 0, .ref (o + 2), .ref (o + 3), .int 0, .ref (o + 4), .ref (o + 5), .ref (o + 6), .ref (o + 7), .ref (o + 8), .ref (o + 9), .ref (o + 10), .ref (o + 11), .ref (o + 12), .null, .null, .null, .null, .null, .null, .null]) :: _) H := hC
  refine lv_aload_n (pc := 100) hx hb d_Mo_init_100 rfl (lv_at hl 0 rfl) ?_
  refine lv_bipush (pc := 101) (v := 16) hx hb d_Mo_init_101 (by decide) ?_
  refine zC_newl (pc := 103) (K := 16) (k := 13) hx hb (hta _ wd62) hK hC hS (by rw [List.length_cons, hn12]) (by decide +kernel) (by decide +kernel) (by decide +kernel) (Nat.le_of_ble_eq_true rfl) (Nat.le_of_ble_eq_true rfl) d_Mo_init_103 (fun H hC hS => ?_)
  rw [List.cons_append] at hC
  obtain ⟨T13, eT13, hn13⟩ : ∃ T : List va_E, T = T12 ++ [.inl (G.2.1, 16, .inr (.inl (fun _ => 0)))] ∧ T.length = 13 := ⟨_, rfl, by rw [List.length_append, hn12]; rfl⟩
  rw [← eT13] at hC
  refine zC_putF (pc := 105) (ci := 6) (v := .ref (o + 13)) (ty := .array .long) (C := R_Mo) (T := T_Mo) (N := 23) hx hb hta hin_Mo ty_Mo tyok_Mo nm_Mo hown hK hC hS rfl 16 (by decide) (hta _ wd743) (fun _ h9 => h9) rfl hin rfl (by decide +kernel) rfl rfl (Nat.le_of_ble_eq_true rfl) d_Mo_init_105 (fun H locs hC hS => ?_)
  have hC : zC G o (.inr (6, [.int 0, .ref (o + 1), .int 0, .int 0, .ref (o + 2), .ref (o + 3), .int 0, .ref (o + 4), .ref (o + 5), .ref (o + 6), .ref (o + 7), .ref (o + 8), .ref (o + 9), .ref (o + 10), .ref (o + 11), .ref (o + 12), .ref (o + 13), .null, .null, .null, .null, .null, .null]) :: _) H := hC
  refine lv_aload_n (pc := 108) hx hb d_Mo_init_108 rfl (lv_at hl 0 rfl) ?_
  refine lv_bipush (pc := 109) (v := 16) hx hb d_Mo_init_109 (by decide) ?_
  refine zC_newl (pc := 111) (K := 16) (k := 14) hx hb (hta _ wd62) hK hC hS (by rw [List.length_cons, hn13]) (by decide +kernel) (by decide +kernel) (by decide +kernel) (Nat.le_of_ble_eq_true rfl) (Nat.le_of_ble_eq_true rfl) d_Mo_init_111 (fun H hC hS => ?_)
  rw [List.cons_append] at hC
  obtain ⟨T14, eT14, hn14⟩ : ∃ T : List va_E, T = T13 ++ [.inl (G.2.1, 16, .inr (.inl (fun _ => 0)))] ∧ T.length = 14 := ⟨_, rfl, by rw [List.length_append, hn13]; rfl⟩
  rw [← eT14] at hC
  refine zC_putF (pc := 113) (ci := 6) (v := .ref (o + 14)) (ty := .array .long) (C := R_Mo) (T := T_Mo) (N := 23) hx hb hta hin_Mo ty_Mo tyok_Mo nm_Mo hown hK hC hS rfl 17 (by decide) (hta _ wd744) (fun _ h9 => h9) rfl hin rfl (by decide +kernel) rfl rfl (Nat.le_of_ble_eq_true rfl) d_Mo_init_113 (fun H locs hC hS => ?_)
  have hC : zC G o (.inr (6, [.int 0, .ref (o + 1), .int 0, .int 0, .ref (o + 2), .ref (o + 3), .int 0, .ref (o + 4), .ref (o + 5), .ref (o + 6), .ref (o + 7), .ref (o + 8), .ref (o + 9), .ref (o + 10), .ref (o + 11), .ref (o + 12), .ref (o + 13), .ref (o + 14), .null, .null, .null, .null, .null]) :: _) H := hC
  refine lv_aload_n (pc := 116) hx hb d_Mo_init_116 rfl (lv_at hl 0 rfl) ?_
  refine lv_bipush (pc := 117) (v := 16) hx hb d_Mo_init_117 (by decide) ?_
  refine zC_newl (pc := 119) (K := 16) (k := 15) hx hb (hta _ wd62) hK hC hS (by rw [List.length_cons, hn14]) (by decide +kernel) (by decide +kernel) (by decide +kernel) (Nat.le_of_ble_eq_true rfl) (Nat.le_of_ble_eq_true rfl) d_Mo_init_119 (fun H hC hS => ?_)
  rw [List.cons_append] at hC
  obtain ⟨T15, eT15, hn15⟩ : ∃ T : List va_E, T = T14 ++ [.inl (G.2.1, 16, .inr (.inl (fun _ => 0)))] ∧ T.length = 15 := ⟨_, rfl, by rw [List.length_append, hn14]; rfl⟩
  rw [← eT15] at hC
  refine zC_putF (pc := 121) (ci := 6) (v := .ref (o + 15)) (ty := .array .long) (C := R_Mo) (T := T_Mo) (N := 23) hx hb hta hin_Mo ty_Mo tyok_Mo nm_Mo hown hK hC hS rfl 18 (by decide) (hta _ wd745) (fun _ h9 => h9) rfl hin rfl (by decide +kernel) rfl rfl (Nat.le_of_ble_eq_true rfl) d_Mo_init_121 (fun H locs hC hS => ?_)
  have hC : zC G o (.inr (6, [.int 0, .ref (o + 1), .int 0, .int 0, .ref (o + 2), .ref (o + 3), .int 0, .ref (o + 4), .ref (o + 5), .ref (o + 6), .ref (o + 7), .ref (o + 8), .ref (o + 9), .ref (o + 10), .ref (o + 11), .ref (o + 12), .ref (o + 13), .ref (o + 14), .ref (o + 15), .null, .null, .null, .null]) :: _) H := hC
  refine lv_aload_n (pc := 124) hx hb d_Mo_init_124 rfl (lv_at hl 0 rfl) ?_
  refine lv_bipush (pc := 125) (v := 16) hx hb d_Mo_init_125 (by decide) ?_
  refine zC_newl (pc := 127) (K := 16) (k := 16) hx hb (hta _ wd62) hK hC hS (by rw [List.length_cons, hn15]) (by decide +kernel) (by decide +kernel) (by decide +kernel) (Nat.le_of_ble_eq_true rfl) (Nat.le_of_ble_eq_true rfl) d_Mo_init_127 (fun H hC hS => ?_)
  rw [List.cons_append] at hC
  obtain ⟨T16, eT16, hn16⟩ : ∃ T : List va_E, T = T15 ++ [.inl (G.2.1, 16, .inr (.inl (fun _ => 0)))] ∧ T.length = 16 := ⟨_, rfl, by rw [List.length_append, hn15]; rfl⟩
  rw [← eT16] at hC
  refine zC_putF (pc := 129) (ci := 6) (v := .ref (o + 16)) (ty := .array .long) (C := R_Mo) (T := T_Mo) (N := 23) hx hb hta hin_Mo ty_Mo tyok_Mo nm_Mo hown hK hC hS rfl 19 (by decide) (hta _ wd746) (fun _ h9 => h9) rfl hin rfl (by decide +kernel) rfl rfl (Nat.le_of_ble_eq_true rfl) d_Mo_init_129 (fun H locs hC hS => ?_)
  have hC : zC G o (.inr (6, [.int 0, .ref (o + 1), .int 0, .int 0, .ref (o + 2), .ref (o + 3), .int 0, .ref (o + 4), .ref (o + 5), .ref (o + 6), .ref (o + 7), .ref (o + 8), .ref (o + 9), .ref (o + 10), .ref (o + 11), .ref (o + 12), .ref (o + 13), .ref (o + 14), .ref (o + 15), .ref (o + 16), .null, .null, .null]) :: _) H := hC
  refine lv_aload_n (pc := 132) hx hb d_Mo_init_132 rfl (lv_at hl 0 rfl) ?_
  refine lv_bipush (pc := 133) (v := 16) hx hb d_Mo_init_133 (by decide) ?_
  refine zC_newl (pc := 135) (K := 16) (k := 17) hx hb (hta _ wd62) hK hC hS (by rw [List.length_cons, hn16]) (by decide +kernel) (by decide +kernel) (by decide +kernel) (Nat.le_of_ble_eq_true rfl) (Nat.le_of_ble_eq_true rfl) d_Mo_init_135 (fun H hC hS => ?_)
  rw [List.cons_append] at hC
  obtain ⟨T17, eT17, hn17⟩ : ∃ T : List va_E, T = T16 ++ [.inl (G.2.1, 16, .inr (.inl (fun _ => 0)))] ∧ T.length = 17 := ⟨_, rfl, by rw [List.length_append, hn16]; rfl⟩
  rw [← eT17] at hC
  refine zC_putF (pc := 137) (ci := 6) (v := .ref (o + 17)) (ty := .array .long) (C := R_Mo) (T := T_Mo) (N := 23) hx hb hta hin_Mo ty_Mo tyok_Mo nm_Mo hown hK hC hS rfl 20 (by decide) (hta _ wd747) (fun _ h9 => h9) rfl hin rfl (by decide +kernel) rfl rfl (Nat.le_of_ble_eq_true rfl) d_Mo_init_137 (fun H locs hC hS => ?_)
  have hC : zC G o (.inr (6, [.int 0, .ref (o + 1), .int 0, .int 0, .ref (o + 2), .ref (o + 3), .int 0, .ref (o + 4), .ref (o + 5), .ref (o + 6), .ref (o + 7), .ref (o + 8), .ref (o + 9), .ref (o + 10), .ref (o + 11), .ref (o + 12), .ref (o + 13), .ref (o + 14), .ref (o + 15), .ref (o + 16), .ref (o + 17), .null, .null]) :: _) H := hC
  refine lv_aload_n (pc := 140) hx hb d_Mo_init_140 rfl (lv_at hl 0 rfl) ?_
  refine lv_bipush (pc := 141) (v := 16) hx hb d_Mo_init_141 (by decide) ?_
  refine zC_newl (pc := 143) (K := 16) (k := 18) hx hb (hta _ wd62) hK hC hS (by rw [List.length_cons, hn17]) (by decide +kernel) (by decide +kernel) (by decide +kernel) (Nat.le_of_ble_eq_true rfl) (Nat.le_of_ble_eq_true rfl) d_Mo_init_143 (fun H hC hS => ?_)
  rw [List.cons_append] at hC
  obtain ⟨T18, eT18, hn18⟩ : ∃ T : List va_E, T = T17 ++ [.inl (G.2.1, 16, .inr (.inl (fun _ => 0)))] ∧ T.length = 18 := ⟨_, rfl, by rw [List.length_append, hn17]; rfl⟩
  rw [← eT18] at hC
  refine zC_putF (pc := 145) (ci := 6) (v := .ref (o + 18)) (ty := .array .long) (C := R_Mo) (T := T_Mo) (N := 23) hx hb hta hin_Mo ty_Mo tyok_Mo nm_Mo hown hK hC hS rfl 21 (by decide) (hta _ wd748) (fun _ h9 => h9) rfl hin rfl (by decide +kernel) rfl rfl (Nat.le_of_ble_eq_true rfl) d_Mo_init_145 (fun H locs hC hS => ?_)
  have hC : zC G o (.inr (6, [.int 0, .ref (o + 1), .int 0, .int 0, .ref (o + 2), .ref (o + 3), .int 0, .ref (o + 4), .ref (o + 5), .ref (o + 6), .ref (o + 7), .ref (o + 8), .ref (o + 9), .ref (o + 10), .ref (o + 11), .ref (o + 12), .ref (o + 13), .ref (o + 14), .ref (o + 15), .ref (o + 16), .ref (o + 17), .ref (o + 18), .null]) :: _) H := hC
  refine lv_aload_n (pc := 148) hx hb d_Mo_init_148 rfl (lv_at hl 0 rfl) ?_
  refine lv_bipush (pc := 149) (v := 10) hx hb d_Mo_init_149 (by decide) ?_
  refine zC_newi (pc := 151) (K := 10) (k := 19) hx hb (hta _ wd105) hK hC hS (by rw [List.length_cons, hn18]) (by decide +kernel) (by decide +kernel) (by decide +kernel) (Nat.le_of_ble_eq_true rfl) (Nat.le_of_ble_eq_true rfl) d_Mo_init_151 (fun H hC hS => ?_)
  refine lv_dup (pc := 153) hx hb d_Mo_init_153 rfl ?_
  refine lv_iconst (pc := 154) (v := 0) hx hb d_Mo_init_154 (by decide) ?_
  refine lv_ldc (pc := 155) (v := 1000000007) hx hb hown (hta _ wd717) d_Mo_init_155 ?_
  refine zC_iast (pc := 157) (es := .inr (6, [.int 0, .ref (o + 1), .int 0, .int 0, .ref (o + 2), .ref (o + 3), .int 0, .ref (o + 4), .ref (o + 5), .ref (o + 6), .ref (o + 7), .ref (o + 8), .ref (o + 9), .ref (o + 10), .ref (o + 11), .ref (o + 12), .ref (o + 13), .ref (o + 14), .ref (o + 15), .ref (o + 16), .ref (o + 17), .ref (o + 18), .null]) :: (T18)) (k := 19) hx hb hK hC hS (by rw [List.length_cons, hn18]) (by unfold vp_in; decide +kernel) d_Mo_init_157 (fun H locs hC hS => ?_)
  refine lv_dup (pc := 158) hx hb d_Mo_init_158 rfl ?_
  refine lv_iconst (pc := 159) (v := 1) hx hb d_Mo_init_159 (by decide) ?_
  refine lv_ldc (pc := 160) (v := 1000000009) hx hb hown (hta _ wd718) d_Mo_init_160 ?_
  refine zC_iast (pc := 162) (es := .inr (6, [.int 0, .ref (o + 1), .int 0, .int 0, .ref (o + 2), .ref (o + 3), .int 0, .ref (o + 4), .ref (o + 5), .ref (o + 6), .ref (o + 7), .ref (o + 8), .ref (o + 9), .ref (o + 10), .ref (o + 11), .ref (o + 12), .ref (o + 13), .ref (o + 14), .ref (o + 15), .ref (o + 16), .ref (o + 17), .ref (o + 18), .null]) :: (T18)) (k := 19) hx hb hK hC hS (by rw [List.length_cons, hn18]) (by unfold vp_in; decide +kernel) d_Mo_init_162 (fun H locs hC hS => ?_)
  refine lv_dup (pc := 163) hx hb d_Mo_init_163 rfl ?_
  refine lv_iconst (pc := 164) (v := 2) hx hb d_Mo_init_164 (by decide) ?_
  refine lv_ldc (pc := 165) (v := 1000000021) hx hb hown (hta _ wd719) d_Mo_init_165 ?_
  refine zC_iast (pc := 167) (es := .inr (6, [.int 0, .ref (o + 1), .int 0, .int 0, .ref (o + 2), .ref (o + 3), .int 0, .ref (o + 4), .ref (o + 5), .ref (o + 6), .ref (o + 7), .ref (o + 8), .ref (o + 9), .ref (o + 10), .ref (o + 11), .ref (o + 12), .ref (o + 13), .ref (o + 14), .ref (o + 15), .ref (o + 16), .ref (o + 17), .ref (o + 18), .null]) :: (T18)) (k := 19) hx hb hK hC hS (by rw [List.length_cons, hn18]) (by unfold vp_in; decide +kernel) d_Mo_init_167 (fun H locs hC hS => ?_)
  refine lv_dup (pc := 168) hx hb d_Mo_init_168 rfl ?_
  refine lv_iconst (pc := 169) (v := 3) hx hb d_Mo_init_169 (by decide) ?_
  refine lv_ldc (pc := 170) (v := 1000000033) hx hb hown (hta _ wd720) d_Mo_init_170 ?_
  refine zC_iast (pc := 172) (es := .inr (6, [.int 0, .ref (o + 1), .int 0, .int 0, .ref (o + 2), .ref (o + 3), .int 0, .ref (o + 4), .ref (o + 5), .ref (o + 6), .ref (o + 7), .ref (o + 8), .ref (o + 9), .ref (o + 10), .ref (o + 11), .ref (o + 12), .ref (o + 13), .ref (o + 14), .ref (o + 15), .ref (o + 16), .ref (o + 17), .ref (o + 18), .null]) :: (T18)) (k := 19) hx hb hK hC hS (by rw [List.length_cons, hn18]) (by unfold vp_in; decide +kernel) d_Mo_init_172 (fun H locs hC hS => ?_)
  refine lv_dup (pc := 173) hx hb d_Mo_init_173 rfl ?_
  refine lv_iconst (pc := 174) (v := 4) hx hb d_Mo_init_174 (by decide) ?_
  refine lv_ldc (pc := 175) (v := 1000000087) hx hb hown (hta _ wd721) d_Mo_init_175 ?_
  refine zC_iast (pc := 177) (es := .inr (6, [.int 0, .ref (o + 1), .int 0, .int 0, .ref (o + 2), .ref (o + 3), .int 0, .ref (o + 4), .ref (o + 5), .ref (o + 6), .ref (o + 7), .ref (o + 8), .ref (o + 9), .ref (o + 10), .ref (o + 11), .ref (o + 12), .ref (o + 13), .ref (o + 14), .ref (o + 15), .ref (o + 16), .ref (o + 17), .ref (o + 18), .null]) :: (T18)) (k := 19) hx hb hK hC hS (by rw [List.length_cons, hn18]) (by unfold vp_in; decide +kernel) d_Mo_init_177 (fun H locs hC hS => ?_)
  refine lv_dup (pc := 178) hx hb d_Mo_init_178 rfl ?_
  refine lv_iconst (pc := 179) (v := 5) hx hb d_Mo_init_179 (by decide) ?_
  refine lv_ldc (pc := 180) (v := 1000000093) hx hb hown (hta _ wd722) d_Mo_init_180 ?_
  refine zC_iast (pc := 182) (es := .inr (6, [.int 0, .ref (o + 1), .int 0, .int 0, .ref (o + 2), .ref (o + 3), .int 0, .ref (o + 4), .ref (o + 5), .ref (o + 6), .ref (o + 7), .ref (o + 8), .ref (o + 9), .ref (o + 10), .ref (o + 11), .ref (o + 12), .ref (o + 13), .ref (o + 14), .ref (o + 15), .ref (o + 16), .ref (o + 17), .ref (o + 18), .null]) :: (T18)) (k := 19) hx hb hK hC hS (by rw [List.length_cons, hn18]) (by unfold vp_in; decide +kernel) d_Mo_init_182 (fun H locs hC hS => ?_)
  refine lv_dup (pc := 183) hx hb d_Mo_init_183 rfl ?_
  refine lv_bipush (pc := 184) (v := 6) hx hb d_Mo_init_184 (by decide) ?_
  refine lv_ldc (pc := 186) (v := 1000000097) hx hb hown (hta _ wd723) d_Mo_init_186 ?_
  refine zC_iast (pc := 188) (es := .inr (6, [.int 0, .ref (o + 1), .int 0, .int 0, .ref (o + 2), .ref (o + 3), .int 0, .ref (o + 4), .ref (o + 5), .ref (o + 6), .ref (o + 7), .ref (o + 8), .ref (o + 9), .ref (o + 10), .ref (o + 11), .ref (o + 12), .ref (o + 13), .ref (o + 14), .ref (o + 15), .ref (o + 16), .ref (o + 17), .ref (o + 18), .null]) :: (T18)) (k := 19) hx hb hK hC hS (by rw [List.length_cons, hn18]) (by unfold vp_in; decide +kernel) d_Mo_init_188 (fun H locs hC hS => ?_)
  refine lv_dup (pc := 189) hx hb d_Mo_init_189 rfl ?_
  refine lv_bipush (pc := 190) (v := 7) hx hb d_Mo_init_190 (by decide) ?_
  refine lv_ldc (pc := 192) (v := 1000000103) hx hb hown (hta _ wd724) d_Mo_init_192 ?_
  refine zC_iast (pc := 194) (es := .inr (6, [.int 0, .ref (o + 1), .int 0, .int 0, .ref (o + 2), .ref (o + 3), .int 0, .ref (o + 4), .ref (o + 5), .ref (o + 6), .ref (o + 7), .ref (o + 8), .ref (o + 9), .ref (o + 10), .ref (o + 11), .ref (o + 12), .ref (o + 13), .ref (o + 14), .ref (o + 15), .ref (o + 16), .ref (o + 17), .ref (o + 18), .null]) :: (T18)) (k := 19) hx hb hK hC hS (by rw [List.length_cons, hn18]) (by unfold vp_in; decide +kernel) d_Mo_init_194 (fun H locs hC hS => ?_)
  refine lv_dup (pc := 195) hx hb d_Mo_init_195 rfl ?_
  refine lv_bipush (pc := 196) (v := 8) hx hb d_Mo_init_196 (by decide) ?_
  refine lv_ldc (pc := 198) (v := 1000000123) hx hb hown (hta _ wd725) d_Mo_init_198 ?_
  refine zC_iast (pc := 200) (es := .inr (6, [.int 0, .ref (o + 1), .int 0, .int 0, .ref (o + 2), .ref (o + 3), .int 0, .ref (o + 4), .ref (o + 5), .ref (o + 6), .ref (o + 7), .ref (o + 8), .ref (o + 9), .ref (o + 10), .ref (o + 11), .ref (o + 12), .ref (o + 13), .ref (o + 14), .ref (o + 15), .ref (o + 16), .ref (o + 17), .ref (o + 18), .null]) :: (T18)) (k := 19) hx hb hK hC hS (by rw [List.length_cons, hn18]) (by unfold vp_in; decide +kernel) d_Mo_init_200 (fun H locs hC hS => ?_)
  refine lv_dup (pc := 201) hx hb d_Mo_init_201 rfl ?_
  refine lv_bipush (pc := 202) (v := 9) hx hb d_Mo_init_202 (by decide) ?_
  refine lv_ldc (pc := 204) (v := 1000000181) hx hb hown (hta _ wd726) d_Mo_init_204 ?_
  refine zC_iast (pc := 206) (es := .inr (6, [.int 0, .ref (o + 1), .int 0, .int 0, .ref (o + 2), .ref (o + 3), .int 0, .ref (o + 4), .ref (o + 5), .ref (o + 6), .ref (o + 7), .ref (o + 8), .ref (o + 9), .ref (o + 10), .ref (o + 11), .ref (o + 12), .ref (o + 13), .ref (o + 14), .ref (o + 15), .ref (o + 16), .ref (o + 17), .ref (o + 18), .null]) :: (T18)) (k := 19) hx hb hK hC hS (by rw [List.length_cons, hn18]) (by unfold vp_in; decide +kernel) d_Mo_init_206 (fun H locs hC hS => ?_)
  rw [List.cons_append] at hC
  refine zC_putF (pc := 207) (ci := 6) (v := .ref (o + 19)) (ty := .array .int) (C := R_Mo) (T := T_Mo) (N := 23) hx hb hta hin_Mo ty_Mo tyok_Mo nm_Mo hown hK hC hS rfl 22 (by decide) (hta _ wd749) (fun _ h9 => h9) rfl hin rfl (by decide +kernel) rfl rfl (Nat.le_of_ble_eq_true rfl) d_Mo_init_207 (fun H locs hC hS => ?_)
  have hC : zC G o (.inr (6, [.int 0, .ref (o + 1), .int 0, .int 0, .ref (o + 2), .ref (o + 3), .int 0, .ref (o + 4), .ref (o + 5), .ref (o + 6), .ref (o + 7), .ref (o + 8), .ref (o + 9), .ref (o + 10), .ref (o + 11), .ref (o + 12), .ref (o + 13), .ref (o + 14), .ref (o + 15), .ref (o + 16), .ref (o + 17), .ref (o + 18), .ref (o + 19)]) :: _) H := hC
  subst eT18 eT17 eT16 eT15 eT14 eT13 eT12 eT11 eT10 eT9 eT8 eT7 eT6 eT5 eT4 eT3 eT2 eT1
  have hC : zC G o (es_Mo G o) H := hC
  exact zC_vret hx hb hr hlocks hC hS d_Mo_init_210
