theorem d_Mo_isSmall_0 : decode prog_10_method_56_code 0 = .ok (.iload_n 0, 1) := by decide +kernel
theorem d_Mo_isSmall_1 : decode prog_10_method_56_code 1 = .ok (.iconst 2, 1) := by decide +kernel
theorem d_Mo_isSmall_2 : decode prog_10_method_56_code 2 = .ok (.if_icmp .eq 31, 3) := by decide +kernel
theorem d_Mo_isSmall_5 : decode prog_10_method_56_code 5 = .ok (.iload_n 0, 1) := by decide +kernel
theorem d_Mo_isSmall_6 : decode prog_10_method_56_code 6 = .ok (.iconst 3, 1) := by decide +kernel
theorem d_Mo_isSmall_7 : decode prog_10_method_56_code 7 = .ok (.if_icmp .eq 26, 3) := by decide +kernel
theorem d_Mo_isSmall_10 : decode prog_10_method_56_code 10 = .ok (.iload_n 0, 1) := by decide +kernel
theorem d_Mo_isSmall_11 : decode prog_10_method_56_code 11 = .ok (.iconst 5, 1) := by decide +kernel
theorem d_Mo_isSmall_12 : decode prog_10_method_56_code 12 = .ok (.if_icmp .eq 21, 3) := by decide +kernel
theorem d_Mo_isSmall_15 : decode prog_10_method_56_code 15 = .ok (.iload_n 0, 1) := by decide +kernel
theorem d_Mo_isSmall_16 : decode prog_10_method_56_code 16 = .ok (.bipush 7, 2) := by decide +kernel
theorem d_Mo_isSmall_18 : decode prog_10_method_56_code 18 = .ok (.if_icmp .eq 15, 3) := by decide +kernel
theorem d_Mo_isSmall_21 : decode prog_10_method_56_code 21 = .ok (.iload_n 0, 1) := by decide +kernel
theorem d_Mo_isSmall_22 : decode prog_10_method_56_code 22 = .ok (.bipush 11, 2) := by decide +kernel
theorem d_Mo_isSmall_24 : decode prog_10_method_56_code 24 = .ok (.if_icmp .eq 9, 3) := by decide +kernel
theorem d_Mo_isSmall_27 : decode prog_10_method_56_code 27 = .ok (.iload_n 0, 1) := by decide +kernel
theorem d_Mo_isSmall_28 : decode prog_10_method_56_code 28 = .ok (.bipush 13, 2) := by decide +kernel
theorem d_Mo_isSmall_30 : decode prog_10_method_56_code 30 = .ok (.if_icmp .ne 7, 3) := by decide +kernel
theorem d_Mo_isSmall_33 : decode prog_10_method_56_code 33 = .ok (.iconst 1, 1) := by decide +kernel
theorem d_Mo_isSmall_34 : decode prog_10_method_56_code 34 = .ok (.goto 4, 3) := by decide +kernel
theorem d_Mo_isSmall_37 : decode prog_10_method_56_code 37 = .ok (.iconst 0, 1) := by decide +kernel
theorem d_Mo_isSmall_38 : decode prog_10_method_56_code 38 = .ok (.ireturn, 1) := by decide +kernel
def w_Mo_isSmall (a0 : Int32) (P : Int32 → Prop) : Prop := (a0 = (2 : Int32) → narrow .boolean (.int (1 : Int32)) = .int (1 : Int32) ∧ P (1 : Int32)) ∧ (¬ a0 = (2 : Int32) → (a0 = (3 : Int32) → narrow .boolean (.int (1 : Int32)) = .int (1 : Int32) ∧ P (1 : Int32)) ∧ (¬ a0 = (3 : Int32) → (a0 = (5 : Int32) → narrow .boolean (.int (1 : Int32)) = .int (1 : Int32) ∧ P (1 : Int32)) ∧ (¬ a0 = (5 : Int32) → (a0 = (7 : Int32) → narrow .boolean (.int (1 : Int32)) = .int (1 : Int32) ∧ P (1 : Int32)) ∧ (¬ a0 = (7 : Int32) → (a0 = (11 : Int32) → narrow .boolean (.int (1 : Int32)) = .int (1 : Int32) ∧ P (1 : Int32)) ∧ (¬ a0 = (11 : Int32) → (¬ a0 = (13 : Int32) → narrow .boolean (.int (0 : Int32)) = .int (0 : Int32) ∧ P (0 : Int32)) ∧ (a0 = (13 : Int32) → narrow .boolean (.int (1 : Int32)) = .int (1 : Int32) ∧ P (1 : Int32)))))))
def ws_Mo_isSmall : List Cond := .code y_Mo_isSmall prog_10_method_56_code 1 (Option.some Jvm.ClassFile.FieldType.boolean) :: zall
def rm_Mo_isSmall : Room := { frames := 0, cells := 0, slots := 0, locals := 0 }
theorem hd_Mo_isSmall : y_Mo_isSmall.cls ≠ "java/lang/invoke/MethodHandle" ∧ y_Mo_isSmall.cls ≠ "java/lang/invoke/VarHandle" ∧ (parseMethodDescriptor y_Mo_isSmall.desc).map (fun d => d.parameters.length) = some 1 := by decide +kernel
set_option maxHeartbeats 4000000 in
set_option maxRecDepth 100000 in
theorem c_Mo_isSmall (l : Launch) (G : zG) (b : Nat) (a0 : Int32) (M : zM) (N : zN) {P : Int32 → Prop} (hw : w_Mo_isSmall a0  P) : Met l y_Mo_isSmall ws_Mo_isSmall rm_Mo_isSmall (zPc G b M N [.int a0]) (zQi G b (fun r M' N' => P r ∧ M' = M ∧ N' = N)) 0 0 (zA b) := by
  refine Met.ofW (cc := prog_10_method_56_code) (maxL := 1) (ret := (Option.some Jvm.ClassFile.FieldType.boolean)) (by decide) rfl ?_
  intro p e s m args below meth c s₁ B hml hv
  obtain ⟨rfl, hZ, hK, hT⟩ := hv
  have hx := B.exec
  have hb := B.bytes
  have hr := B.returns
  have hts := atoms_spec (ws := ws_Mo_isSmall) B.pre
  have hta : ∀ w ∈ zall, w.before ([.int a0] : List Value).toArray s = true := fun w h => hts w (List.mem_cons_of_mem _ h)
  have hown : s.vm.findClass R_Mo = some m.cls := findClass_of_methodNamed B.named
  have hlocks := B.notSynchronized
  have hS : va_S (zA b) s.heap s.heap [] := va_S.rf
  have hl := lv_entry ([.int a0]) (n := 1) (Nat.le_of_ble_eq_true rfl)
  rw [lg_entry_eq]
  generalize (lg_sl ([.int a0]) ++ List.replicate (1 - (lg_sl ([.int a0])).length) Slot.unset).toArray = ls at hl ⊢
  have hl : lv_has ls 1 [(0, .int a0)] := hl
  unfold w_Mo_isSmall at hw
  refine lv_iload_n (pc := 0) hx hb d_Mo_isSmall_0 rfl (lv_at hl 0 rfl) ?_
  refine lv_iconst (pc := 1) (v := 2) hx hb d_Mo_isSmall_1 (by decide) ?_
  refine lv_icmp_eq (pc := 2) (tgt := 33) hx hb d_Mo_isSmall_2 (by decide) (fun hc => ?_) (fun hc => ?_)
  · have hw := hw.1 hc
    refine lv_iconst (pc := 33) (v := 1) hx hb d_Mo_isSmall_33 (by decide) ?_
    refine lv_goto (pc := 34) (tgt := 38) hx hb d_Mo_isSmall_34 (by decide) ?_
    exact z_zret hx hb hr hlocks hK hT hZ hS ⟨hw.1, ⟨hw.2, rfl, rfl⟩⟩ d_Mo_isSmall_38
  · have hw := hw.2 hc
    refine lv_iload_n (pc := 5) hx hb d_Mo_isSmall_5 rfl (lv_at hl 0 rfl) ?_
    refine lv_iconst (pc := 6) (v := 3) hx hb d_Mo_isSmall_6 (by decide) ?_
    refine lv_icmp_eq (pc := 7) (tgt := 33) hx hb d_Mo_isSmall_7 (by decide) (fun hc => ?_) (fun hc => ?_)
    · have hw := hw.1 hc
      refine lv_iconst (pc := 33) (v := 1) hx hb d_Mo_isSmall_33 (by decide) ?_
      refine lv_goto (pc := 34) (tgt := 38) hx hb d_Mo_isSmall_34 (by decide) ?_
      exact z_zret hx hb hr hlocks hK hT hZ hS ⟨hw.1, ⟨hw.2, rfl, rfl⟩⟩ d_Mo_isSmall_38
    · have hw := hw.2 hc
      refine lv_iload_n (pc := 10) hx hb d_Mo_isSmall_10 rfl (lv_at hl 0 rfl) ?_
      refine lv_iconst (pc := 11) (v := 5) hx hb d_Mo_isSmall_11 (by decide) ?_
      refine lv_icmp_eq (pc := 12) (tgt := 33) hx hb d_Mo_isSmall_12 (by decide) (fun hc => ?_) (fun hc => ?_)
      · have hw := hw.1 hc
        refine lv_iconst (pc := 33) (v := 1) hx hb d_Mo_isSmall_33 (by decide) ?_
        refine lv_goto (pc := 34) (tgt := 38) hx hb d_Mo_isSmall_34 (by decide) ?_
        exact z_zret hx hb hr hlocks hK hT hZ hS ⟨hw.1, ⟨hw.2, rfl, rfl⟩⟩ d_Mo_isSmall_38
      · have hw := hw.2 hc
        refine lv_iload_n (pc := 15) hx hb d_Mo_isSmall_15 rfl (lv_at hl 0 rfl) ?_
        refine lv_bipush (pc := 16) (v := 7) hx hb d_Mo_isSmall_16 (by decide) ?_
        refine lv_icmp_eq (pc := 18) (tgt := 33) hx hb d_Mo_isSmall_18 (by decide) (fun hc => ?_) (fun hc => ?_)
        · have hw := hw.1 hc
          refine lv_iconst (pc := 33) (v := 1) hx hb d_Mo_isSmall_33 (by decide) ?_
          refine lv_goto (pc := 34) (tgt := 38) hx hb d_Mo_isSmall_34 (by decide) ?_
          exact z_zret hx hb hr hlocks hK hT hZ hS ⟨hw.1, ⟨hw.2, rfl, rfl⟩⟩ d_Mo_isSmall_38
        · have hw := hw.2 hc
          refine lv_iload_n (pc := 21) hx hb d_Mo_isSmall_21 rfl (lv_at hl 0 rfl) ?_
          refine lv_bipush (pc := 22) (v := 11) hx hb d_Mo_isSmall_22 (by decide) ?_
          refine lv_icmp_eq (pc := 24) (tgt := 33) hx hb d_Mo_isSmall_24 (by decide) (fun hc => ?_) (fun hc => ?_)
          · have hw := hw.1 hc
            refine lv_iconst (pc := 33) (v := 1) hx hb d_Mo_isSmall_33 (by decide) ?_
            refine lv_goto (pc := 34) (tgt := 38) hx hb d_Mo_isSmall_34 (by decide) ?_
            exact z_zret hx hb hr hlocks hK hT hZ hS ⟨hw.1, ⟨hw.2, rfl, rfl⟩⟩ d_Mo_isSmall_38
          · have hw := hw.2 hc
            refine lv_iload_n (pc := 27) hx hb d_Mo_isSmall_27 rfl (lv_at hl 0 rfl) ?_
            refine lv_bipush (pc := 28) (v := 13) hx hb d_Mo_isSmall_28 (by decide) ?_
            refine lv_icmp_ne (pc := 30) (tgt := 37) hx hb d_Mo_isSmall_30 (by decide) (fun hc => ?_) (fun hc => ?_)
            · have hw := hw.1 hc
              refine lv_iconst (pc := 37) (v := 0) hx hb d_Mo_isSmall_37 (by decide) ?_
              exact z_zret hx hb hr hlocks hK hT hZ hS ⟨hw.1, ⟨hw.2, rfl, rfl⟩⟩ d_Mo_isSmall_38
            · have hw := hw.2 hc
              refine lv_iconst (pc := 33) (v := 1) hx hb d_Mo_isSmall_33 (by decide) ?_
              refine lv_goto (pc := 34) (tgt := 38) hx hb d_Mo_isSmall_34 (by decide) ?_
              exact z_zret hx hb hr hlocks hK hT hZ hS ⟨hw.1, ⟨hw.2, rfl, rfl⟩⟩ d_Mo_isSmall_38
theorem d_Mo_modular_0 : decode prog_10_method_57_code 0 = .ok (.aload_n 0, 1) := by decide +kernel
theorem d_Mo_modular_1 : decode prog_10_method_57_code 1 = .ok (.iload_n 1, 1) := by decide +kernel
theorem d_Mo_modular_2 : decode prog_10_method_57_code 2 = .ok (.invokestatic 98, 3) := by decide +kernel
theorem d_Mo_modular_5 : decode prog_10_method_57_code 5 = .ok (.ifCond .ne 7, 3) := by decide +kernel
theorem d_Mo_modular_8 : decode prog_10_method_57_code 8 = .ok (.iconst 1, 1) := by decide +kernel
theorem d_Mo_modular_9 : decode prog_10_method_57_code 9 = .ok (.goto 15, 3) := by decide +kernel
theorem d_Mo_modular_12 : decode prog_10_method_57_code 12 = .ok (.iload_n 2, 1) := by decide +kernel
theorem d_Mo_modular_13 : decode prog_10_method_57_code 13 = .ok (.invokestatic 240, 3) := by decide +kernel
theorem d_Mo_modular_16 : decode prog_10_method_57_code 16 = .ok (.ifCond .eq 7, 3) := by decide +kernel
theorem d_Mo_modular_19 : decode prog_10_method_57_code 19 = .ok (.iconst 0, 1) := by decide +kernel
theorem d_Mo_modular_20 : decode prog_10_method_57_code 20 = .ok (.goto 4, 3) := by decide +kernel
theorem d_Mo_modular_23 : decode prog_10_method_57_code 23 = .ok (.iconst 2, 1) := by decide +kernel
theorem d_Mo_modular_24 : decode prog_10_method_57_code 24 = .ok (.putfield 78, 3) := by decide +kernel
theorem d_Mo_modular_27 : decode prog_10_method_57_code 27 = .ok (.aload_n 0, 1) := by decide +kernel
theorem d_Mo_modular_28 : decode prog_10_method_57_code 28 = .ok (.getfield 78, 3) := by decide +kernel
theorem d_Mo_modular_31 : decode prog_10_method_57_code 31 = .ok (.ifCond .le 5, 3) := by decide +kernel
theorem d_Mo_modular_34 : decode prog_10_method_57_code 34 = .ok (.iconst 0, 1) := by decide +kernel
theorem d_Mo_modular_35 : decode prog_10_method_57_code 35 = .ok (.ireturn, 1) := by decide +kernel
theorem d_Mo_modular_36 : decode prog_10_method_57_code 36 = .ok (.aload_n 0, 1) := by decide +kernel
theorem d_Mo_modular_37 : decode prog_10_method_57_code 37 = .ok (.iload_n 1, 1) := by decide +kernel
theorem d_Mo_modular_38 : decode prog_10_method_57_code 38 = .ok (.aload_n 0, 1) := by decide +kernel
theorem d_Mo_modular_39 : decode prog_10_method_57_code 39 = .ok (.getfield 26, 3) := by decide +kernel
theorem d_Mo_modular_42 : decode prog_10_method_57_code 42 = .ok (.invokevirtual 104, 3) := by decide +kernel
theorem d_Mo_modular_45 : decode prog_10_method_57_code 45 = .ok (.iconst 0, 1) := by decide +kernel
theorem d_Mo_modular_46 : decode prog_10_method_57_code 46 = .ok (.istore_n 3, 1) := by decide +kernel
theorem d_Mo_modular_47 : decode prog_10_method_57_code 47 = .ok (.iload_n 3, 1) := by decide +kernel
theorem d_Mo_modular_48 : decode prog_10_method_57_code 48 = .ok (.bipush 16, 2) := by decide +kernel
theorem d_Mo_modular_50 : decode prog_10_method_57_code 50 = .ok (.if_icmp .ge 26, 3) := by decide +kernel
theorem d_Mo_modular_53 : decode prog_10_method_57_code 53 = .ok (.aload_n 0, 1) := by decide +kernel
theorem d_Mo_modular_54 : decode prog_10_method_57_code 54 = .ok (.getfield 26, 3) := by decide +kernel
theorem d_Mo_modular_57 : decode prog_10_method_57_code 57 = .ok (.iload_n 3, 1) := by decide +kernel
theorem d_Mo_modular_58 : decode prog_10_method_57_code 58 = .ok (.aload_n 0, 1) := by decide +kernel
theorem d_Mo_modular_59 : decode prog_10_method_57_code 59 = .ok (.getfield 26, 3) := by decide +kernel
theorem d_Mo_modular_62 : decode prog_10_method_57_code 62 = .ok (.iload_n 3, 1) := by decide +kernel
theorem d_Mo_modular_63 : decode prog_10_method_57_code 63 = .ok (.laload, 1) := by decide +kernel
theorem d_Mo_modular_64 : decode prog_10_method_57_code 64 = .ok (.iload_n 2, 1) := by decide +kernel
theorem d_Mo_modular_65 : decode prog_10_method_57_code 65 = .ok (.i2l, 1) := by decide +kernel
theorem d_Mo_modular_66 : decode prog_10_method_57_code 66 = .ok (.invokestatic 137, 3) := by decide +kernel
theorem d_Mo_modular_69 : decode prog_10_method_57_code 69 = .ok (.lastore, 1) := by decide +kernel
theorem d_Mo_modular_70 : decode prog_10_method_57_code 70 = .ok (.iinc 3 1, 3) := by decide +kernel
theorem d_Mo_modular_73 : decode prog_10_method_57_code 73 = .ok (.goto (-26), 3) := by decide +kernel
theorem d_Mo_modular_76 : decode prog_10_method_57_code 76 = .ok (.aload_n 0, 1) := by decide +kernel
theorem d_Mo_modular_77 : decode prog_10_method_57_code 77 = .ok (.getfield 26, 3) := by decide +kernel
theorem d_Mo_modular_80 : decode prog_10_method_57_code 80 = .ok (.invokestatic 82, 3) := by decide +kernel
theorem d_Mo_modular_83 : decode prog_10_method_57_code 83 = .ok (.istore_n 3, 1) := by decide +kernel
theorem d_Mo_modular_84 : decode prog_10_method_57_code 84 = .ok (.iload_n 3, 1) := by decide +kernel
theorem d_Mo_modular_85 : decode prog_10_method_57_code 85 = .ok (.ifCond .ge 7, 3) := by decide +kernel
theorem d_Mo_modular_88 : decode prog_10_method_57_code 88 = .ok (.iconst (-1), 1) := by decide +kernel
theorem d_Mo_modular_89 : decode prog_10_method_57_code 89 = .ok (.goto 4, 3) := by decide +kernel
theorem d_Mo_modular_92 : decode prog_10_method_57_code 92 = .ok (.iconst 0, 1) := by decide +kernel
theorem d_Mo_modular_93 : decode prog_10_method_57_code 93 = .ok (.istore 4, 2) := by decide +kernel
theorem d_Mo_modular_95 : decode prog_10_method_57_code 95 = .ok (.iconst 1, 1) := by decide +kernel
theorem d_Mo_modular_96 : decode prog_10_method_57_code 96 = .ok (.istore 5, 2) := by decide +kernel
theorem d_Mo_modular_98 : decode prog_10_method_57_code 98 = .ok (.iload 5, 2) := by decide +kernel
theorem d_Mo_modular_100 : decode prog_10_method_57_code 100 = .ok (.iconst 3, 1) := by decide +kernel
theorem d_Mo_modular_101 : decode prog_10_method_57_code 101 = .ok (.if_icmp .gt 152, 3) := by decide +kernel
theorem d_Mo_modular_104 : decode prog_10_method_57_code 104 = .ok (.iload 5, 2) := by decide +kernel
theorem d_Mo_modular_106 : decode prog_10_method_57_code 106 = .ok (.iload_n 3, 1) := by decide +kernel
theorem d_Mo_modular_107 : decode prog_10_method_57_code 107 = .ok (.if_icmp .gt 146, 3) := by decide +kernel
theorem d_Mo_modular_110 : decode prog_10_method_57_code 110 = .ok (.iload_n 2, 1) := by decide +kernel
theorem d_Mo_modular_111 : decode prog_10_method_57_code 111 = .ok (.i2l, 1) := by decide +kernel
theorem d_Mo_modular_112 : decode prog_10_method_57_code 112 = .ok (.iload 5, 2) := by decide +kernel
theorem d_Mo_modular_114 : decode prog_10_method_57_code 114 = .ok (.invokestatic 174, 3) := by decide +kernel
theorem d_Mo_modular_117 : decode prog_10_method_57_code 117 = .ok (.lstore 6, 2) := by decide +kernel
theorem d_Mo_modular_119 : decode prog_10_method_57_code 119 = .ok (.lconst 0, 1) := by decide +kernel
theorem d_Mo_modular_120 : decode prog_10_method_57_code 120 = .ok (.lstore 8, 2) := by decide +kernel
theorem d_Mo_modular_122 : decode prog_10_method_57_code 122 = .ok (.lload 8, 2) := by decide +kernel
theorem d_Mo_modular_124 : decode prog_10_method_57_code 124 = .ok (.lload 6, 2) := by decide +kernel
theorem d_Mo_modular_126 : decode prog_10_method_57_code 126 = .ok (.lcmp, 1) := by decide +kernel
theorem d_Mo_modular_127 : decode prog_10_method_57_code 127 = .ok (.ifCond .ge 120, 3) := by decide +kernel
theorem d_Mo_modular_130 : decode prog_10_method_57_code 130 = .ok (.iload 5, 2) := by decide +kernel
theorem d_Mo_modular_132 : decode prog_10_method_57_code 132 = .ok (.iload_n 3, 1) := by decide +kernel
theorem d_Mo_modular_133 : decode prog_10_method_57_code 133 = .ok (.if_icmp .gt 114, 3) := by decide +kernel
theorem d_Mo_modular_136 : decode prog_10_method_57_code 136 = .ok (.aload_n 0, 1) := by decide +kernel
theorem d_Mo_modular_137 : decode prog_10_method_57_code 137 = .ok (.lload 8, 2) := by decide +kernel
theorem d_Mo_modular_139 : decode prog_10_method_57_code 139 = .ok (.iload 5, 2) := by decide +kernel
theorem d_Mo_modular_141 : decode prog_10_method_57_code 141 = .ok (.iload_n 2, 1) := by decide +kernel
theorem d_Mo_modular_142 : decode prog_10_method_57_code 142 = .ok (.i2l, 1) := by decide +kernel
theorem d_Mo_modular_143 : decode prog_10_method_57_code 143 = .ok (.invokevirtual 178, 3) := by decide +kernel
theorem d_Mo_modular_146 : decode prog_10_method_57_code 146 = .ok (.aload_n 0, 1) := by decide +kernel
theorem d_Mo_modular_147 : decode prog_10_method_57_code 147 = .ok (.aload_n 0, 1) := by decide +kernel
theorem d_Mo_modular_148 : decode prog_10_method_57_code 148 = .ok (.getfield 53, 3) := by decide +kernel
theorem d_Mo_modular_151 : decode prog_10_method_57_code 151 = .ok (.iload 5, 2) := by decide +kernel
theorem d_Mo_modular_153 : decode prog_10_method_57_code 153 = .ok (.aload_n 0, 1) := by decide +kernel
theorem d_Mo_modular_154 : decode prog_10_method_57_code 154 = .ok (.getfield 26, 3) := by decide +kernel
theorem d_Mo_modular_157 : decode prog_10_method_57_code 157 = .ok (.iload_n 3, 1) := by decide +kernel
theorem d_Mo_modular_158 : decode prog_10_method_57_code 158 = .ok (.iload_n 2, 1) := by decide +kernel
theorem d_Mo_modular_159 : decode prog_10_method_57_code 159 = .ok (.i2l, 1) := by decide +kernel
theorem d_Mo_modular_160 : decode prog_10_method_57_code 160 = .ok (.invokevirtual 182, 3) := by decide +kernel
theorem d_Mo_modular_163 : decode prog_10_method_57_code 163 = .ok (.istore 10, 2) := by decide +kernel
theorem d_Mo_modular_165 : decode prog_10_method_57_code 165 = .ok (.iload 10, 2) := by decide +kernel
theorem d_Mo_modular_167 : decode prog_10_method_57_code 167 = .ok (.ifCond .eq 10, 3) := by decide +kernel
theorem d_Mo_modular_170 : decode prog_10_method_57_code 170 = .ok (.iload 4, 2) := by decide +kernel
theorem d_Mo_modular_172 : decode prog_10_method_57_code 172 = .ok (.iconst 1, 1) := by decide +kernel
theorem d_Mo_modular_173 : decode prog_10_method_57_code 173 = .ok (.iadd, 1) := by decide +kernel
theorem d_Mo_modular_174 : decode prog_10_method_57_code 174 = .ok (.goto 5, 3) := by decide +kernel
theorem d_Mo_modular_177 : decode prog_10_method_57_code 177 = .ok (.iload 4, 2) := by decide +kernel
theorem d_Mo_modular_179 : decode prog_10_method_57_code 179 = .ok (.istore 4, 2) := by decide +kernel
theorem d_Mo_modular_181 : decode prog_10_method_57_code 181 = .ok (.iload 10, 2) := by decide +kernel
theorem d_Mo_modular_183 : decode prog_10_method_57_code 183 = .ok (.ifCond .eq 55, 3) := by decide +kernel
theorem d_Mo_modular_186 : decode prog_10_method_57_code 186 = .ok (.aload_n 0, 1) := by decide +kernel
theorem d_Mo_modular_187 : decode prog_10_method_57_code 187 = .ok (.getfield 41, 3) := by decide +kernel
theorem d_Mo_modular_190 : decode prog_10_method_57_code 190 = .ok (.aload_n 0, 1) := by decide +kernel
theorem d_Mo_modular_191 : decode prog_10_method_57_code 191 = .ok (.getfield 26, 3) := by decide +kernel
theorem d_Mo_modular_194 : decode prog_10_method_57_code 194 = .ok (.invokestatic 124, 3) := by decide +kernel
theorem d_Mo_modular_197 : decode prog_10_method_57_code 197 = .ok (.iload_n 3, 1) := by decide +kernel
theorem d_Mo_modular_198 : decode prog_10_method_57_code 198 = .ok (.iload 5, 2) := by decide +kernel
theorem d_Mo_modular_200 : decode prog_10_method_57_code 200 = .ok (.isub, 1) := by decide +kernel
theorem d_Mo_modular_201 : decode prog_10_method_57_code 201 = .ok (.istore_n 3, 1) := by decide +kernel
theorem d_Mo_modular_202 : decode prog_10_method_57_code 202 = .ok (.iload_n 3, 1) := by decide +kernel
theorem d_Mo_modular_203 : decode prog_10_method_57_code 203 = .ok (.iload 5, 2) := by decide +kernel
theorem d_Mo_modular_205 : decode prog_10_method_57_code 205 = .ok (.if_icmp .lt 27, 3) := by decide +kernel
theorem d_Mo_modular_208 : decode prog_10_method_57_code 208 = .ok (.aload_n 0, 1) := by decide +kernel
theorem d_Mo_modular_209 : decode prog_10_method_57_code 209 = .ok (.aload_n 0, 1) := by decide +kernel
theorem d_Mo_modular_210 : decode prog_10_method_57_code 210 = .ok (.getfield 53, 3) := by decide +kernel
theorem d_Mo_modular_213 : decode prog_10_method_57_code 213 = .ok (.iload 5, 2) := by decide +kernel
theorem d_Mo_modular_215 : decode prog_10_method_57_code 215 = .ok (.aload_n 0, 1) := by decide +kernel
theorem d_Mo_modular_216 : decode prog_10_method_57_code 216 = .ok (.getfield 26, 3) := by decide +kernel
theorem d_Mo_modular_219 : decode prog_10_method_57_code 219 = .ok (.iload_n 3, 1) := by decide +kernel
theorem d_Mo_modular_220 : decode prog_10_method_57_code 220 = .ok (.iload_n 2, 1) := by decide +kernel
theorem d_Mo_modular_221 : decode prog_10_method_57_code 221 = .ok (.i2l, 1) := by decide +kernel
theorem d_Mo_modular_222 : decode prog_10_method_57_code 222 = .ok (.invokevirtual 182, 3) := by decide +kernel
theorem d_Mo_modular_225 : decode prog_10_method_57_code 225 = .ok (.ifCond .eq 7, 3) := by decide +kernel
theorem d_Mo_modular_228 : decode prog_10_method_57_code 228 = .ok (.iconst 1, 1) := by decide +kernel
theorem d_Mo_modular_229 : decode prog_10_method_57_code 229 = .ok (.goto 4, 3) := by decide +kernel
theorem d_Mo_modular_232 : decode prog_10_method_57_code 232 = .ok (.iconst 0, 1) := by decide +kernel
theorem d_Mo_modular_233 : decode prog_10_method_57_code 233 = .ok (.istore 10, 2) := by decide +kernel
theorem d_Mo_modular_235 : decode prog_10_method_57_code 235 = .ok (.goto (-54), 3) := by decide +kernel
theorem d_Mo_modular_238 : decode prog_10_method_57_code 238 = .ok (.lload 8, 2) := by decide +kernel
theorem d_Mo_modular_240 : decode prog_10_method_57_code 240 = .ok (.lconst 1, 1) := by decide +kernel
theorem d_Mo_modular_241 : decode prog_10_method_57_code 241 = .ok (.ladd, 1) := by decide +kernel
theorem d_Mo_modular_242 : decode prog_10_method_57_code 242 = .ok (.lstore 8, 2) := by decide +kernel
theorem d_Mo_modular_244 : decode prog_10_method_57_code 244 = .ok (.goto (-122), 3) := by decide +kernel
theorem d_Mo_modular_247 : decode prog_10_method_57_code 247 = .ok (.iinc 5 1, 3) := by decide +kernel
theorem d_Mo_modular_250 : decode prog_10_method_57_code 250 = .ok (.goto (-152), 3) := by decide +kernel
theorem d_Mo_modular_253 : decode prog_10_method_57_code 253 = .ok (.iload_n 3, 1) := by decide +kernel
theorem d_Mo_modular_254 : decode prog_10_method_57_code 254 = .ok (.ifCond .le 10, 3) := by decide +kernel
theorem d_Mo_modular_257 : decode prog_10_method_57_code 257 = .ok (.iload 4, 2) := by decide +kernel
theorem d_Mo_modular_259 : decode prog_10_method_57_code 259 = .ok (.iconst 1, 1) := by decide +kernel
theorem d_Mo_modular_260 : decode prog_10_method_57_code 260 = .ok (.iadd, 1) := by decide +kernel
theorem d_Mo_modular_261 : decode prog_10_method_57_code 261 = .ok (.goto 5, 3) := by decide +kernel
theorem d_Mo_modular_264 : decode prog_10_method_57_code 264 = .ok (.iload 4, 2) := by decide +kernel
theorem d_Mo_modular_266 : decode prog_10_method_57_code 266 = .ok (.ireturn, 1) := by decide +kernel
def J_Mo_modular_253 (P : Int32 → zM → zN → Prop) (v3 : Int32) (v4 : Int32) (M : zM) (N : zN) : Prop := (v3 ≤ 0 → P v4 M N) ∧ (¬ v3 ≤ 0 → P (v4 + (1 : Int32)) M N)
def B_Mo_modular_181 (P : Int32 → zM → zN → Prop) (k122 : Int32 → Int32 → Int64 → zM → Prop) (a2 : Int32) (v4 : Int32) (v5 : Int32) (v6 : Int64) (v8 : Int64) (N : zN) (k181 : Int32 → Int32 → zM → Prop) (v3 : Int32) (v10 : Int32) (M : zM) : Prop := (v10 = 0 → ∀ x28 : Int64, x28 = v8 + (1 : Int64) → k122 v3 v4 x28 M) ∧ (¬ v10 = 0 → w_Mo_copy 110 105 M (fun M30 => ∀ x32 : Int32, x32 = v3 - v5 → (x32 < v5 → k181 x32 (0 : Int32) M30) ∧ (¬ x32 < v5 → w_Mo_dividesModulo 114 v5 105 x32 a2.toInt64 M30 (fun r33 M34 => (r33 = 0 → k181 x32 (0 : Int32) M34) ∧ (¬ r33 = 0 → k181 x32 (1 : Int32) M34)))))
def L_Mo_modular_181 (P : Int32 → zM → zN → Prop) (k122 : Int32 → Int32 → Int64 → zM → Prop) (a2 : Int32) (v4 : Int32) (v5 : Int32) (v6 : Int64) (v8 : Int64) (N : zN) (n : Nat) : Int32 → Int32 → zM → Prop := Nat.rec (fun _ _ _ => False) (fun _ k => B_Mo_modular_181 P k122 a2 v4 v5 v6 v8 N k) n
def B_Mo_modular_122 (P : Int32 → zM → zN → Prop) (k98 : Int32 → Int32 → Int32 → zM → Prop) (a2 : Int32) (v5 : Int32) (v6 : Int64) (N : zN) (k122 : Int32 → Int32 → Int64 → zM → Prop) (v3 : Int32) (v4 : Int32) (v8 : Int64) (M : zM) : Prop := (v6 ≤ v8 → k98 v3 v4 (v5 + (1 : Int32)) M) ∧ (¬ v6 ≤ v8 → (v3 < v5 → k98 v3 v4 (v5 + (1 : Int32)) M) ∧ (¬ v3 < v5 → w_Mo_lay v8 v5 a2.toInt64 M (fun M22 => w_Mo_dividesModulo 114 v5 105 v3 a2.toInt64 M22 (fun r24 M25 => (r24 = 0 → ∃ n, L_Mo_modular_181 P k122 a2 v4 v5 v6 v8 N n v3 r24 M25) ∧ (¬ r24 = 0 → ∀ x27 : Int32, x27 = v4 + (1 : Int32) → ∃ n, L_Mo_modular_181 P k122 a2 x27 v5 v6 v8 N n v3 r24 M25)))))
def L_Mo_modular_122 (P : Int32 → zM → zN → Prop) (k98 : Int32 → Int32 → Int32 → zM → Prop) (a2 : Int32) (v5 : Int32) (v6 : Int64) (N : zN) (n : Nat) : Int32 → Int32 → Int64 → zM → Prop := Nat.rec (fun _ _ _ _ => False) (fun _ k => B_Mo_modular_122 P k98 a2 v5 v6 N k) n
def B_Mo_modular_98 (P : Int32 → zM → zN → Prop) (a2 : Int32) (N : zN) (k98 : Int32 → Int32 → Int32 → zM → Prop) (v3 : Int32) (v4 : Int32) (v5 : Int32) (M : zM) : Prop := ((3 : Int32) < v5 → J_Mo_modular_253 P v3 v4 M N) ∧ (¬ (3 : Int32) < v5 → (v3 < v5 → J_Mo_modular_253 P v3 v4 M N) ∧ (¬ v3 < v5 → w_Mo_power a2.toInt64 v5  (fun r18 => ∃ n, L_Mo_modular_122 P k98 a2 v5 r18 N n v3 v4 (0 : Int64) M)))
def L_Mo_modular_98 (P : Int32 → zM → zN → Prop) (a2 : Int32) (N : zN) (n : Nat) : Int32 → Int32 → Int32 → zM → Prop := Nat.rec (fun _ _ _ _ => False) (fun _ k => B_Mo_modular_98 P a2 N k) n
def B_Mo_modular_47 (P : Int32 → zM → zN → Prop) (a2 : Int32) (N : zN) (k47 : Int32 → zM → Prop) (v3 : Int32) (M : zM) : Prop := ((16 : Int32) ≤ v3 → w_Mo_degreeOf 105 M (fun r11 => (0 ≤ r11 → ∃ n, L_Mo_modular_98 P a2 N n r11 (0 : Int32) (1 : Int32) M) ∧ (¬ 0 ≤ r11 → ∃ n, L_Mo_modular_98 P a2 N n r11 (-1 : Int32) (1 : Int32) M))) ∧ (¬ (16 : Int32) ≤ v3 → vp_in v3 (zlong 105) ∧ w_Mo_left (M 105 v3.toNatClampNeg) a2.toInt64  (fun r14 => vp_in v3 (zlong 105) ∧ ∀ M17 : zM, M17 = zput M 105 v3.toNatClampNeg r14 → k47 (v3 + (1 : Int32)) M17))
def L_Mo_modular_47 (P : Int32 → zM → zN → Prop) (a2 : Int32) (N : zN) (n : Nat) : Int32 → zM → Prop := Nat.rec (fun _ _ => False) (fun _ k => B_Mo_modular_47 P a2 N k) n
def J_Mo_modular_24 (P : Int32 → zM → zN → Prop) (a1 : Int32) (a2 : Int32) (t0 : Int32) (M : zM) (N : zN) : Prop := ∀ N7 : zN, N7 = zpui N 99 0 t0 → ((N7 99 0) ≤ 0 → w_Mo_load a1 105 M N7 (fun M9 => ∃ n, L_Mo_modular_47 P a2 N7 n (0 : Int32) M9)) ∧ (¬ (N7 99 0) ≤ 0 → P (0 : Int32) M N7)
def w_Mo_modular (a1 : Int32) (a2 : Int32) (M : zM) (N : zN) (P : Int32 → zM → zN → Prop) : Prop := w_Mo_isRegister a1  (fun r1 => (¬ r1 = 0 → w_Mo_isSmall a2  (fun r4 => (r4 = 0 → J_Mo_modular_24 P a1 a2 (2 : Int32) M N) ∧ (¬ r4 = 0 → J_Mo_modular_24 P a1 a2 (0 : Int32) M N))) ∧ (r1 = 0 → J_Mo_modular_24 P a1 a2 (1 : Int32) M N))
def ws_Mo_modular : List Cond := .code y_Mo_modular prog_10_method_57_code 11 (Option.some Jvm.ClassFile.FieldType.int) :: zall
def rm_Mo_modular : Room := { frames := 2, cells := 0, slots := 0, locals := 55 }
theorem hd_Mo_modular : y_Mo_modular.cls ≠ "java/lang/invoke/MethodHandle" ∧ y_Mo_modular.cls ≠ "java/lang/invoke/VarHandle" ∧ (parseMethodDescriptor y_Mo_modular.desc).map (fun d => d.parameters.length) = some 2 := by decide +kernel
set_option maxHeartbeats 4000000 in
set_option maxRecDepth 100000 in
theorem c_Mo_modular (l : Launch) (G : zG) (b : Nat) (a1 : Int32) (a2 : Int32) (M : zM) (N : zN) {P : Int32 → zM → zN → Prop} (hw : w_Mo_modular a1 a2 M N P) : Met l y_Mo_modular ws_Mo_modular rm_Mo_modular (zPc G b M N [.ref (b + 99), .int a1, .int a2]) (zQi G b (fun r M' N' => P r M' N')) 0 0 (zA b) := by
  refine Met.ofW (cc := prog_10_method_57_code) (maxL := 11) (ret := (Option.some Jvm.ClassFile.FieldType.int)) (by decide) rfl ?_
  intro p e s m args below meth c s₁ B hml hv
  obtain ⟨rfl, hZ, hK, hT⟩ := hv
  have hx := B.exec
  have hb := B.bytes
  have hr := B.returns
  have hts := atoms_spec (ws := ws_Mo_modular) B.pre
  have hta : ∀ w ∈ zall, w.before ([.ref (b + 99), .int a1, .int a2] : List Value).toArray s = true := fun w h => hts w (List.mem_cons_of_mem _ h)
  have hown : s.vm.findClass R_Mo = some m.cls := findClass_of_methodNamed B.named
  have hlocks := B.notSynchronized
  have hS : va_S (zA b) s.heap s.heap [] := va_S.rf
  have hl := lv_entry ([.ref (b + 99), .int a1, .int a2]) (n := 11) (Nat.le_of_ble_eq_true rfl)
  rw [lg_entry_eq]
  generalize (lg_sl ([.ref (b + 99), .int a1, .int a2]) ++ List.replicate (11 - (lg_sl ([.ref (b + 99), .int a1, .int a2])).length) Slot.unset).toArray = ls at hl ⊢
  have hl : lv_has ls 11 [(0, .ref (b + 99)), (1, .int a1), (2, .int a2)] := hl
  have j253 : ∀ (v3 : Int32) (v4 : Int32) (M : zM) (N : zN) (H : Heap) (ls : Array Slot) (locs : List Loc), va_P G.1 zCl (zws G b M N) H → va_S (zA b) s.heap H locs → lv_has ls 11 [(3, .int v3), (4, .int v4)] → J_Mo_modular_253 P v3 v4 M N → W p l e (headSpec ws_Mo_modular rm_Mo_modular).room s m ([.ref (b + 99), .int a1, .int a2] : List Value).toArray below meth c H locs 0 0 (MQ below (zQi G b (fun r M' N' => P r M' N')) ([.ref (b + 99), .int a1, .int a2] : List Value).toArray s 0 0 (zA b)) (F0 m 253 ls []) := by
    intro v3 v4 M N H ls locs hZ hS hl hw
    unfold J_Mo_modular_253 at hw
    refine lv_iload_n (pc := 253) hx hb d_Mo_modular_253 rfl (lv_at hl 0 rfl) ?_
    refine lv_if_le (pc := 254) (tgt := 264) hx hb d_Mo_modular_254 (by decide) (fun hc => ?_) (fun hc => ?_)
    · have hw := hw.1 hc
      refine lv_iload (pc := 264) hx hb d_Mo_modular_264 (lv_at hl 1 rfl) ?_
      exact z_iret hx hb hr hlocks hK hT hZ hS hw d_Mo_modular_266
    · have hw := hw.2 hc
      refine lv_iload (pc := 257) hx hb d_Mo_modular_257 (lv_at hl 1 rfl) ?_
      refine lv_iconst (pc := 259) (v := 1) hx hb d_Mo_modular_259 (by decide) ?_
      refine lv_iadd (pc := 260) hx hb d_Mo_modular_260 ?_
      refine lv_goto (pc := 261) (tgt := 266) hx hb d_Mo_modular_261 (by decide) ?_
      exact z_iret hx hb hr hlocks hK hT hZ hS hw d_Mo_modular_266
  have lp98 : ∀ (N : zN) (n : Nat) (v3 : Int32) (v4 : Int32) (v5 : Int32) (M : zM) (H : Heap) (ls : Array Slot) (locs : List Loc), va_P G.1 zCl (zws G b M N) H → va_S (zA b) s.heap H locs → lv_has ls 11 [(0, .ref (b + 99)), (2, .int a2), (3, .int v3), (4, .int v4), (5, .int v5)] → L_Mo_modular_98 P a2 N n v3 v4 v5 M → W p l e (headSpec ws_Mo_modular rm_Mo_modular).room s m ([.ref (b + 99), .int a1, .int a2] : List Value).toArray below meth c H locs 0 0 (MQ below (zQi G b (fun r M' N' => P r M' N')) ([.ref (b + 99), .int a1, .int a2] : List Value).toArray s 0 0 (zA b)) (F0 m 98 ls []) := by
    intro N n
    induction n with
    | zero => intro v3 v4 v5 M H ls locs hZ hS hl hw; exact False.elim hw
    | succ n98 ih98 =>
      have lp122 : ∀ (v5 : Int32) (v6 : Int64) (n : Nat) (v3 : Int32) (v4 : Int32) (v8 : Int64) (M : zM) (H : Heap) (ls : Array Slot) (locs : List Loc), va_P G.1 zCl (zws G b M N) H → va_S (zA b) s.heap H locs → lv_has ls 11 [(0, .ref (b + 99)), (2, .int a2), (3, .int v3), (4, .int v4), (5, .int v5), (6, .long v6), (8, .long v8)] → L_Mo_modular_122 P (L_Mo_modular_98 P a2 N n98) a2 v5 v6 N n v3 v4 v8 M → W p l e (headSpec ws_Mo_modular rm_Mo_modular).room s m ([.ref (b + 99), .int a1, .int a2] : List Value).toArray below meth c H locs 0 0 (MQ below (zQi G b (fun r M' N' => P r M' N')) ([.ref (b + 99), .int a1, .int a2] : List Value).toArray s 0 0 (zA b)) (F0 m 122 ls []) := by
        intro v5 v6 n
        induction n with
        | zero => intro v3 v4 v8 M H ls locs hZ hS hl hw; exact False.elim hw
        | succ n122 ih122 =>
          have lp181 : ∀ (v4 : Int32) (v8 : Int64) (n : Nat) (v3 : Int32) (v10 : Int32) (M : zM) (H : Heap) (ls : Array Slot) (locs : List Loc), va_P G.1 zCl (zws G b M N) H → va_S (zA b) s.heap H locs → lv_has ls 11 [(0, .ref (b + 99)), (2, .int a2), (3, .int v3), (4, .int v4), (5, .int v5), (6, .long v6), (8, .long v8), (10, .int v10)] → L_Mo_modular_181 P (L_Mo_modular_122 P (L_Mo_modular_98 P a2 N n98) a2 v5 v6 N n122) a2 v4 v5 v6 v8 N n v3 v10 M → W p l e (headSpec ws_Mo_modular rm_Mo_modular).room s m ([.ref (b + 99), .int a1, .int a2] : List Value).toArray below meth c H locs 0 0 (MQ below (zQi G b (fun r M' N' => P r M' N')) ([.ref (b + 99), .int a1, .int a2] : List Value).toArray s 0 0 (zA b)) (F0 m 181 ls []) := by
            intro v4 v8 n
            induction n with
            | zero => intro v3 v10 M H ls locs hZ hS hl hw; exact False.elim hw
            | succ n181 ih181 =>
              intro v3 v10 M H ls locs hZ hS hl hw
              have hw : B_Mo_modular_181 P (L_Mo_modular_122 P (L_Mo_modular_98 P a2 N n98) a2 v5 v6 N n122) a2 v4 v5 v6 v8 N (L_Mo_modular_181 P (L_Mo_modular_122 P (L_Mo_modular_98 P a2 N n98) a2 v5 v6 N n122) a2 v4 v5 v6 v8 N n181) v3 v10 M := hw
              unfold B_Mo_modular_181 at hw
              refine lv_iload (pc := 181) hx hb d_Mo_modular_181 (lv_at hl 7 rfl) ?_
              refine lv_if_eq (pc := 183) (tgt := 238) hx hb d_Mo_modular_183 (by decide) (fun hc => ?_) (fun hc => ?_)
              · have hw := hw.1 hc
                refine lv_lload (pc := 238) hx hb d_Mo_modular_238 (lv_at hl 6 rfl) ?_
                refine lv_lconst (pc := 240) (v := 1) hx hb d_Mo_modular_240 (by decide) ?_
                refine lv_ladd (pc := 241) hx hb d_Mo_modular_241 ?_
                refine lv_topl (fun x28 hx28 => ?_)
                have hw := hw x28 hx28
                refine lv_lstore (pc := 242) (lv' := [(8, .long x28), (0, .ref (b + 99)), (2, .int a2), (3, .int v3), (4, .int v4), (5, .int v5), (6, .long v6), (10, .int v10)]) hx hb d_Mo_modular_242 hl (by decide) rfl (fun ls hl => ?_)
                refine lv_goto (pc := 244) (tgt := 122) hx hb d_Mo_modular_244 (by decide) ?_
                exact ih122 v3 v4 x28 M _ _ _ hZ hS (lv_sub hl [1, 2, 3, 4, 5, 6, 0] rfl) hw
              · have hw := hw.2 hc
                refine lv_aload_n (pc := 186) hx hb d_Mo_modular_186 rfl (lv_at hl 0 rfl) ?_
                refine zg_Mo_41 (pc := 187) hx hb hta hown hK hZ d_Mo_modular_187 ?_
                refine lv_aload_n (pc := 190) hx hb d_Mo_modular_190 rfl (lv_at hl 0 rfl) ?_
                refine zg_Mo_26 (pc := 191) hx hb hta hown hK hZ d_Mo_modular_191 ?_
                refine z_callv (pc := 194) (va_runS (As := [.ref (b + 110), .ref (b + 105)]) (rest := []) ⟨hx, hb, hml, hown, hts⟩ (c_Mo_copy l G b 110 105 M N hw) (va_cwS 2 hts (z_good (zgS wd865 wd866 wd7 wd867)) rfl rfl rfl hd_Mo_copy ⟨Nat.le_of_ble_eq_true rfl, Nat.le_of_ble_eq_true rfl⟩) (z_preS hZ hK hT hS) rfl rfl hl.1 rfl (lv_room (Nat.le_of_ble_eq_true rfl)) d_Mo_modular_194 ⟨Nat.le_of_ble_eq_true rfl, Nat.le_of_ble_eq_true rfl⟩) hS (fun M30 N31 H locs hw hZ hS => ?_)
                obtain ⟨hw, eN31⟩ := hw
                rw [eN31] at hZ
                refine lv_iload_n (pc := 197) hx hb d_Mo_modular_197 rfl (lv_at hl 2 rfl) ?_
                refine lv_iload (pc := 198) hx hb d_Mo_modular_198 (lv_at hl 4 rfl) ?_
                refine lv_isub (pc := 200) hx hb d_Mo_modular_200 ?_
                refine lv_topi (fun x32 hx32 => ?_)
                have hw := hw x32 hx32
                refine lv_istore_n (pc := 201) (lv' := [(3, .int x32), (0, .ref (b + 99)), (2, .int a2), (4, .int v4), (5, .int v5), (6, .long v6), (8, .long v8), (10, .int v10)]) hx hb d_Mo_modular_201 rfl hl (by decide) rfl (fun ls hl => ?_)
                refine lv_iload_n (pc := 202) hx hb d_Mo_modular_202 rfl (lv_at hl 0 rfl) ?_
                refine lv_iload (pc := 203) hx hb d_Mo_modular_203 (lv_at hl 4 rfl) ?_
                refine lv_icmp_lt (pc := 205) (tgt := 232) hx hb d_Mo_modular_205 (by decide) (fun hc => ?_) (fun hc => ?_)
                · have hw := hw.1 hc
                  refine lv_iconst (pc := 232) (v := 0) hx hb d_Mo_modular_232 (by decide) ?_
                  refine lv_istore (pc := 233) (lv' := [(10, .int (0 : Int32)), (3, .int x32), (0, .ref (b + 99)), (2, .int a2), (4, .int v4), (5, .int v5), (6, .long v6), (8, .long v8)]) hx hb d_Mo_modular_233 hl (by decide) rfl (fun ls hl => ?_)
                  refine lv_goto (pc := 235) (tgt := 181) hx hb d_Mo_modular_235 (by decide) ?_
                  exact ih181 x32 (0 : Int32) M30 _ _ _ hZ hS (lv_sub hl [2, 3, 1, 4, 5, 6, 7, 0] rfl) hw
                · have hw := hw.2 hc
                  refine lv_aload_n (pc := 208) hx hb d_Mo_modular_208 rfl (lv_at hl 1 rfl) ?_
                  refine lv_aload_n (pc := 209) hx hb d_Mo_modular_209 rfl (lv_at hl 1 rfl) ?_
                  refine zg_Mo_53 (pc := 210) hx hb hta hown hK hZ d_Mo_modular_210 ?_
                  refine lv_iload (pc := 213) hx hb d_Mo_modular_213 (lv_at hl 4 rfl) ?_
                  refine lv_aload_n (pc := 215) hx hb d_Mo_modular_215 rfl (lv_at hl 1 rfl) ?_
                  refine zg_Mo_26 (pc := 216) hx hb hta hown hK hZ d_Mo_modular_216 ?_
                  refine lv_iload_n (pc := 219) hx hb d_Mo_modular_219 rfl (lv_at hl 0 rfl) ?_
                  refine lv_iload_n (pc := 220) hx hb d_Mo_modular_220 rfl (lv_at hl 2 rfl) ?_
                  refine lv_i2l (pc := 221) (v := a2.toInt64) hx hb d_Mo_modular_221 rfl ?_
                  refine z_calli (pc := 222) (va_runV (C := R_Mo) (b := b + 99) (As := [.ref (b + 114), .int v5, .ref (b + 105), .int x32, .long a2.toInt64]) (rest := []) ⟨hx, hb, hml, hown, hts⟩ (c_Mo_dividesModulo l G b 114 v5 105 x32 a2.toInt64 M30 N hw) (cwV 5 hts (z_good (zgV wd950 wd952 wsel31 wd7 wd953)) rfl rfl rfl ⟨rfl, hd_Mo_dividesModulo⟩ ⟨Nat.le_of_ble_eq_true rfl, Nat.le_of_ble_eq_true rfl⟩) (z_preV zo_Mo rfl rfl hZ hK hT hS) rfl rfl hl.1 rfl (lv_room (Nat.le_of_ble_eq_true rfl)) d_Mo_modular_222 ⟨Nat.le_of_ble_eq_true rfl, Nat.le_of_ble_eq_true rfl⟩) hS (fun r33 M34 N35 H locs hw hZ hS => ?_)
                  obtain ⟨hw, eN35⟩ := hw
                  rw [eN35] at hZ
                  refine lv_if_eq (pc := 225) (tgt := 232) hx hb d_Mo_modular_225 (by decide) (fun hc => ?_) (fun hc => ?_)
                  · have hw := hw.1 hc
                    refine lv_iconst (pc := 232) (v := 0) hx hb d_Mo_modular_232 (by decide) ?_
                    refine lv_istore (pc := 233) (lv' := [(10, .int (0 : Int32)), (3, .int x32), (0, .ref (b + 99)), (2, .int a2), (4, .int v4), (5, .int v5), (6, .long v6), (8, .long v8)]) hx hb d_Mo_modular_233 hl (by decide) rfl (fun ls hl => ?_)
                    refine lv_goto (pc := 235) (tgt := 181) hx hb d_Mo_modular_235 (by decide) ?_
                    exact ih181 x32 (0 : Int32) M34 _ _ _ hZ hS (lv_sub hl [2, 3, 1, 4, 5, 6, 7, 0] rfl) hw
                  · have hw := hw.2 hc
                    refine lv_iconst (pc := 228) (v := 1) hx hb d_Mo_modular_228 (by decide) ?_
                    refine lv_goto (pc := 229) (tgt := 233) hx hb d_Mo_modular_229 (by decide) ?_
                    refine lv_istore (pc := 233) (lv' := [(10, .int (1 : Int32)), (3, .int x32), (0, .ref (b + 99)), (2, .int a2), (4, .int v4), (5, .int v5), (6, .long v6), (8, .long v8)]) hx hb d_Mo_modular_233 hl (by decide) rfl (fun ls hl => ?_)
                    refine lv_goto (pc := 235) (tgt := 181) hx hb d_Mo_modular_235 (by decide) ?_
                    exact ih181 x32 (1 : Int32) M34 _ _ _ hZ hS (lv_sub hl [2, 3, 1, 4, 5, 6, 7, 0] rfl) hw
          intro v3 v4 v8 M H ls locs hZ hS hl hw
          have hw : B_Mo_modular_122 P (L_Mo_modular_98 P a2 N n98) a2 v5 v6 N (L_Mo_modular_122 P (L_Mo_modular_98 P a2 N n98) a2 v5 v6 N n122) v3 v4 v8 M := hw
          unfold B_Mo_modular_122 at hw
          refine lv_lload (pc := 122) hx hb d_Mo_modular_122 (lv_at hl 6 rfl) ?_
          refine lv_lload (pc := 124) hx hb d_Mo_modular_124 (lv_at hl 5 rfl) ?_
          refine z_lc_ge (pc := 126) (tgt := 247) hx hb d_Mo_modular_126 d_Mo_modular_127 (by decide) (fun hc => ?_) (fun hc => ?_)
          · have hw := hw.1 hc
            refine lv_iinc (pc := 247) (k := 4) (v := v5 + (1 : Int32)) (lv' := [(5, .int (v5 + (1 : Int32))), (0, .ref (b + 99)), (2, .int a2), (3, .int v3), (4, .int v4), (6, .long v6), (8, .long v8)]) hx hb d_Mo_modular_247 hl rfl (by rfl) (by decide) rfl (fun ls hl => ?_)
            refine lv_goto (pc := 250) (tgt := 98) hx hb d_Mo_modular_250 (by decide) ?_
            exact ih98 v3 v4 (v5 + (1 : Int32)) M _ _ _ hZ hS (lv_sub hl [1, 2, 3, 4, 0] rfl) hw
          · have hw := hw.2 hc
            refine lv_iload (pc := 130) hx hb d_Mo_modular_130 (lv_at hl 4 rfl) ?_
            refine lv_iload_n (pc := 132) hx hb d_Mo_modular_132 rfl (lv_at hl 2 rfl) ?_
            refine lv_icmp_gt (pc := 133) (tgt := 247) hx hb d_Mo_modular_133 (by decide) (fun hc => ?_) (fun hc => ?_)
            · have hw := hw.1 hc
              refine lv_iinc (pc := 247) (k := 4) (v := v5 + (1 : Int32)) (lv' := [(5, .int (v5 + (1 : Int32))), (0, .ref (b + 99)), (2, .int a2), (3, .int v3), (4, .int v4), (6, .long v6), (8, .long v8)]) hx hb d_Mo_modular_247 hl rfl (by rfl) (by decide) rfl (fun ls hl => ?_)
              refine lv_goto (pc := 250) (tgt := 98) hx hb d_Mo_modular_250 (by decide) ?_
              exact ih98 v3 v4 (v5 + (1 : Int32)) M _ _ _ hZ hS (lv_sub hl [1, 2, 3, 4, 0] rfl) hw
            · have hw := hw.2 hc
              refine lv_aload_n (pc := 136) hx hb d_Mo_modular_136 rfl (lv_at hl 0 rfl) ?_
              refine lv_lload (pc := 137) hx hb d_Mo_modular_137 (lv_at hl 6 rfl) ?_
              refine lv_iload (pc := 139) hx hb d_Mo_modular_139 (lv_at hl 4 rfl) ?_
              refine lv_iload_n (pc := 141) hx hb d_Mo_modular_141 rfl (lv_at hl 1 rfl) ?_
              refine lv_i2l (pc := 142) (v := a2.toInt64) hx hb d_Mo_modular_142 rfl ?_
              refine z_callv (pc := 143) (va_runV (C := R_Mo) (b := b + 99) (As := [.long v8, .int v5, .long a2.toInt64]) (rest := []) ⟨hx, hb, hml, hown, hts⟩ (c_Mo_lay l G b v8 v5 a2.toInt64 M N hw) (cwV 3 hts (z_good (zgV wd946 wd948 wsel30 wd7 wd949)) rfl rfl rfl ⟨rfl, hd_Mo_lay⟩ ⟨Nat.le_of_ble_eq_true rfl, Nat.le_of_ble_eq_true rfl⟩) (z_preV zo_Mo rfl rfl hZ hK hT hS) rfl rfl hl.1 rfl (lv_room (Nat.le_of_ble_eq_true rfl)) d_Mo_modular_143 ⟨Nat.le_of_ble_eq_true rfl, Nat.le_of_ble_eq_true rfl⟩) hS (fun M22 N23 H locs hw hZ hS => ?_)
              obtain ⟨hw, eN23⟩ := hw
              rw [eN23] at hZ
              refine lv_aload_n (pc := 146) hx hb d_Mo_modular_146 rfl (lv_at hl 0 rfl) ?_
              refine lv_aload_n (pc := 147) hx hb d_Mo_modular_147 rfl (lv_at hl 0 rfl) ?_
              refine zg_Mo_53 (pc := 148) hx hb hta hown hK hZ d_Mo_modular_148 ?_
              refine lv_iload (pc := 151) hx hb d_Mo_modular_151 (lv_at hl 4 rfl) ?_
              refine lv_aload_n (pc := 153) hx hb d_Mo_modular_153 rfl (lv_at hl 0 rfl) ?_
              refine zg_Mo_26 (pc := 154) hx hb hta hown hK hZ d_Mo_modular_154 ?_
              refine lv_iload_n (pc := 157) hx hb d_Mo_modular_157 rfl (lv_at hl 2 rfl) ?_
              refine lv_iload_n (pc := 158) hx hb d_Mo_modular_158 rfl (lv_at hl 1 rfl) ?_
              refine lv_i2l (pc := 159) (v := a2.toInt64) hx hb d_Mo_modular_159 rfl ?_
              refine z_calli (pc := 160) (va_runV (C := R_Mo) (b := b + 99) (As := [.ref (b + 114), .int v5, .ref (b + 105), .int v3, .long a2.toInt64]) (rest := []) ⟨hx, hb, hml, hown, hts⟩ (c_Mo_dividesModulo l G b 114 v5 105 v3 a2.toInt64 M22 N hw) (cwV 5 hts (z_good (zgV wd950 wd952 wsel31 wd7 wd953)) rfl rfl rfl ⟨rfl, hd_Mo_dividesModulo⟩ ⟨Nat.le_of_ble_eq_true rfl, Nat.le_of_ble_eq_true rfl⟩) (z_preV zo_Mo rfl rfl hZ hK hT hS) rfl rfl hl.1 rfl (lv_room (Nat.le_of_ble_eq_true rfl)) d_Mo_modular_160 ⟨Nat.le_of_ble_eq_true rfl, Nat.le_of_ble_eq_true rfl⟩) hS (fun r24 M25 N26 H locs hw hZ hS => ?_)
              obtain ⟨hw, eN26⟩ := hw
              rw [eN26] at hZ
              refine lv_istore (pc := 163) (lv' := [(10, .int r24), (0, .ref (b + 99)), (2, .int a2), (3, .int v3), (4, .int v4), (5, .int v5), (6, .long v6), (8, .long v8)]) hx hb d_Mo_modular_163 hl (by decide) rfl (fun ls hl => ?_)
              refine lv_iload (pc := 165) hx hb d_Mo_modular_165 (lv_at hl 0 rfl) ?_
              refine lv_if_eq (pc := 167) (tgt := 177) hx hb d_Mo_modular_167 (by decide) (fun hc => ?_) (fun hc => ?_)
              · have hw := hw.1 hc
                refine lv_iload (pc := 177) hx hb d_Mo_modular_177 (lv_at hl 4 rfl) ?_
                refine lv_istore (pc := 179) (lv' := [(4, .int v4), (10, .int r24), (0, .ref (b + 99)), (2, .int a2), (3, .int v3), (5, .int v5), (6, .long v6), (8, .long v8)]) hx hb d_Mo_modular_179 hl (by decide) rfl (fun ls hl => ?_)
                obtain ⟨n, hw⟩ := hw
                exact lp181 v4 v8 n v3 r24 M25 _ _ _ hZ hS (lv_sub hl [2, 3, 4, 0, 5, 6, 7, 1] rfl) hw
              · have hw := hw.2 hc
                refine lv_iload (pc := 170) hx hb d_Mo_modular_170 (lv_at hl 4 rfl) ?_
                refine lv_iconst (pc := 172) (v := 1) hx hb d_Mo_modular_172 (by decide) ?_
                refine lv_iadd (pc := 173) hx hb d_Mo_modular_173 ?_
                refine lv_goto (pc := 174) (tgt := 179) hx hb d_Mo_modular_174 (by decide) ?_
                refine lv_topi (fun x27 hx27 => ?_)
                have hw := hw x27 hx27
                refine lv_istore (pc := 179) (lv' := [(4, .int x27), (10, .int r24), (0, .ref (b + 99)), (2, .int a2), (3, .int v3), (5, .int v5), (6, .long v6), (8, .long v8)]) hx hb d_Mo_modular_179 hl (by decide) rfl (fun ls hl => ?_)
                obtain ⟨n, hw⟩ := hw
                exact lp181 x27 v8 n v3 r24 M25 _ _ _ hZ hS (lv_sub hl [2, 3, 4, 0, 5, 6, 7, 1] rfl) hw
      intro v3 v4 v5 M H ls locs hZ hS hl hw
      have hw : B_Mo_modular_98 P a2 N (L_Mo_modular_98 P a2 N n98) v3 v4 v5 M := hw
      unfold B_Mo_modular_98 at hw
      refine lv_iload (pc := 98) hx hb d_Mo_modular_98 (lv_at hl 4 rfl) ?_
      refine lv_iconst (pc := 100) (v := 3) hx hb d_Mo_modular_100 (by decide) ?_
      refine lv_icmp_gt (pc := 101) (tgt := 253) hx hb d_Mo_modular_101 (by decide) (fun hc => ?_) (fun hc => ?_)
      · have hw := hw.1 hc
        exact j253 v3 v4 M N _ _ _ hZ hS (lv_sub hl [2, 3] rfl) hw
      · have hw := hw.2 hc
        refine lv_iload (pc := 104) hx hb d_Mo_modular_104 (lv_at hl 4 rfl) ?_
        refine lv_iload_n (pc := 106) hx hb d_Mo_modular_106 rfl (lv_at hl 2 rfl) ?_
        refine lv_icmp_gt (pc := 107) (tgt := 253) hx hb d_Mo_modular_107 (by decide) (fun hc => ?_) (fun hc => ?_)
        · have hw := hw.1 hc
          exact j253 v3 v4 M N _ _ _ hZ hS (lv_sub hl [2, 3] rfl) hw
        · have hw := hw.2 hc
          refine lv_iload_n (pc := 110) hx hb d_Mo_modular_110 rfl (lv_at hl 1 rfl) ?_
          refine lv_i2l (pc := 111) (v := a2.toInt64) hx hb d_Mo_modular_111 rfl ?_
          refine lv_iload (pc := 112) hx hb d_Mo_modular_112 (lv_at hl 4 rfl) ?_
          refine z_calll (pc := 114) (va_runS (As := [.long a2.toInt64, .int v5]) (rest := []) ⟨hx, hb, hml, hown, hts⟩ (c_Mo_power l G b a2.toInt64 v5 M N hw) (va_cwS 2 hts (z_good (zgS wd943 wd944 wd7 wd945)) rfl rfl rfl hd_Mo_power ⟨Nat.le_of_ble_eq_true rfl, Nat.le_of_ble_eq_true rfl⟩) (z_preS hZ hK hT hS) rfl rfl hl.1 rfl (lv_room (Nat.le_of_ble_eq_true rfl)) d_Mo_modular_114 ⟨Nat.le_of_ble_eq_true rfl, Nat.le_of_ble_eq_true rfl⟩) hS (fun r18 M19 N20 H locs hw hZ hS => ?_)
          obtain ⟨hw, eM19, eN20⟩ := hw
          rw [eM19, eN20] at hZ
          refine lv_lstore (pc := 117) (lv' := [(6, .long r18), (0, .ref (b + 99)), (2, .int a2), (3, .int v3), (4, .int v4), (5, .int v5)]) hx hb d_Mo_modular_117 hl (by decide) rfl (fun ls hl => ?_)
          refine lv_lconst (pc := 119) (v := 0) hx hb d_Mo_modular_119 (by decide) ?_
          refine lv_lstore (pc := 120) (lv' := [(8, .long (0 : Int64)), (6, .long r18), (0, .ref (b + 99)), (2, .int a2), (3, .int v3), (4, .int v4), (5, .int v5)]) hx hb d_Mo_modular_120 hl (by decide) rfl (fun ls hl => ?_)
          obtain ⟨n, hw⟩ := hw
          exact lp122 v5 r18 n v3 v4 (0 : Int64) M _ _ _ hZ hS (lv_sub hl [2, 3, 4, 5, 6, 1, 0] rfl) hw
  have lp47 : ∀ (N : zN) (n : Nat) (v3 : Int32) (M : zM) (H : Heap) (ls : Array Slot) (locs : List Loc), va_P G.1 zCl (zws G b M N) H → va_S (zA b) s.heap H locs → lv_has ls 11 [(0, .ref (b + 99)), (2, .int a2), (3, .int v3)] → L_Mo_modular_47 P a2 N n v3 M → W p l e (headSpec ws_Mo_modular rm_Mo_modular).room s m ([.ref (b + 99), .int a1, .int a2] : List Value).toArray below meth c H locs 0 0 (MQ below (zQi G b (fun r M' N' => P r M' N')) ([.ref (b + 99), .int a1, .int a2] : List Value).toArray s 0 0 (zA b)) (F0 m 47 ls []) := by
    intro N n
    induction n with
    | zero => intro v3 M H ls locs hZ hS hl hw; exact False.elim hw
    | succ n47 ih47 =>
      intro v3 M H ls locs hZ hS hl hw
      have hw : B_Mo_modular_47 P a2 N (L_Mo_modular_47 P a2 N n47) v3 M := hw
      unfold B_Mo_modular_47 at hw
      refine lv_iload_n (pc := 47) hx hb d_Mo_modular_47 rfl (lv_at hl 2 rfl) ?_
      refine lv_bipush (pc := 48) (v := 16) hx hb d_Mo_modular_48 (by decide) ?_
      refine lv_icmp_ge (pc := 50) (tgt := 76) hx hb d_Mo_modular_50 (by decide) (fun hc => ?_) (fun hc => ?_)
      · have hw := hw.1 hc
        refine lv_aload_n (pc := 76) hx hb d_Mo_modular_76 rfl (lv_at hl 0 rfl) ?_
        refine zg_Mo_26 (pc := 77) hx hb hta hown hK hZ d_Mo_modular_77 ?_
        refine z_calli (pc := 80) (va_runS (As := [.ref (b + 105)]) (rest := []) ⟨hx, hb, hml, hown, hts⟩ (c_Mo_degreeOf l G b 105 M N hw) (va_cwS 1 hts (z_good (zgS wd814 wd815 wd7 wd816)) rfl rfl rfl hd_Mo_degreeOf ⟨Nat.le_of_ble_eq_true rfl, Nat.le_of_ble_eq_true rfl⟩) (z_preS hZ hK hT hS) rfl rfl hl.1 rfl (lv_room (Nat.le_of_ble_eq_true rfl)) d_Mo_modular_80 ⟨Nat.le_of_ble_eq_true rfl, Nat.le_of_ble_eq_true rfl⟩) hS (fun r11 M12 N13 H locs hw hZ hS => ?_)
        obtain ⟨hw, eM12, eN13⟩ := hw
        rw [eM12, eN13] at hZ
        refine lv_istore_n (pc := 83) (lv' := [(3, .int r11), (0, .ref (b + 99)), (2, .int a2)]) hx hb d_Mo_modular_83 rfl hl (by decide) rfl (fun ls hl => ?_)
        refine lv_iload_n (pc := 84) hx hb d_Mo_modular_84 rfl (lv_at hl 0 rfl) ?_
        refine lv_if_ge (pc := 85) (tgt := 92) hx hb d_Mo_modular_85 (by decide) (fun hc => ?_) (fun hc => ?_)
        · have hw := hw.1 hc
          refine lv_iconst (pc := 92) (v := 0) hx hb d_Mo_modular_92 (by decide) ?_
          refine lv_istore (pc := 93) (lv' := [(4, .int (0 : Int32)), (3, .int r11), (0, .ref (b + 99)), (2, .int a2)]) hx hb d_Mo_modular_93 hl (by decide) rfl (fun ls hl => ?_)
          refine lv_iconst (pc := 95) (v := 1) hx hb d_Mo_modular_95 (by decide) ?_
          refine lv_istore (pc := 96) (lv' := [(5, .int (1 : Int32)), (4, .int (0 : Int32)), (3, .int r11), (0, .ref (b + 99)), (2, .int a2)]) hx hb d_Mo_modular_96 hl (by decide) rfl (fun ls hl => ?_)
          obtain ⟨n, hw⟩ := hw
          exact lp98 N n r11 (0 : Int32) (1 : Int32) M _ _ _ hZ hS (lv_sub hl [3, 4, 2, 1, 0] rfl) hw
        · have hw := hw.2 hc
          refine lv_iconst (pc := 88) (v := -1) hx hb d_Mo_modular_88 (by decide) ?_
          refine lv_goto (pc := 89) (tgt := 93) hx hb d_Mo_modular_89 (by decide) ?_
          refine lv_istore (pc := 93) (lv' := [(4, .int (-1 : Int32)), (3, .int r11), (0, .ref (b + 99)), (2, .int a2)]) hx hb d_Mo_modular_93 hl (by decide) rfl (fun ls hl => ?_)
          refine lv_iconst (pc := 95) (v := 1) hx hb d_Mo_modular_95 (by decide) ?_
          refine lv_istore (pc := 96) (lv' := [(5, .int (1 : Int32)), (4, .int (-1 : Int32)), (3, .int r11), (0, .ref (b + 99)), (2, .int a2)]) hx hb d_Mo_modular_96 hl (by decide) rfl (fun ls hl => ?_)
          obtain ⟨n, hw⟩ := hw
          exact lp98 N n r11 (-1 : Int32) (1 : Int32) M _ _ _ hZ hS (lv_sub hl [3, 4, 2, 1, 0] rfl) hw
      · have hw := hw.2 hc
        refine lv_aload_n (pc := 53) hx hb d_Mo_modular_53 rfl (lv_at hl 0 rfl) ?_
        refine zg_Mo_26 (pc := 54) hx hb hta hown hK hZ d_Mo_modular_54 ?_
        refine lv_iload_n (pc := 57) hx hb d_Mo_modular_57 rfl (lv_at hl 2 rfl) ?_
        refine lv_aload_n (pc := 58) hx hb d_Mo_modular_58 rfl (lv_at hl 0 rfl) ?_
        refine zg_Mo_26 (pc := 59) hx hb hta hown hK hZ d_Mo_modular_59 ?_
        refine lv_iload_n (pc := 62) hx hb d_Mo_modular_62 rfl (lv_at hl 2 rfl) ?_
        obtain ⟨hc, hw⟩ := hw
        refine z_lald (pc := 63) hx hb hK hZ hc d_Mo_modular_63 ?_
        refine lv_iload_n (pc := 64) hx hb d_Mo_modular_64 rfl (lv_at hl 1 rfl) ?_
        refine lv_i2l (pc := 65) (v := a2.toInt64) hx hb d_Mo_modular_65 rfl ?_
        refine z_calll (pc := 66) (va_runS (As := [.long (M 105 v3.toNatClampNeg), .long a2.toInt64]) (rest := [.int v3, .ref (b + 105)]) ⟨hx, hb, hml, hown, hts⟩ (c_Mo_left l G b (M 105 v3.toNatClampNeg) a2.toInt64 M N hw) (va_cwS 2 hts (z_good (zgS wd902 wd903 wd7 wd904)) rfl rfl rfl hd_Mo_left ⟨Nat.le_of_ble_eq_true rfl, Nat.le_of_ble_eq_true rfl⟩) (z_preS hZ hK hT hS) rfl rfl hl.1 rfl (lv_room (Nat.le_of_ble_eq_true rfl)) d_Mo_modular_66 ⟨Nat.le_of_ble_eq_true rfl, Nat.le_of_ble_eq_true rfl⟩) hS (fun r14 M15 N16 H locs hw hZ hS => ?_)
        obtain ⟨hw, eM15, eN16⟩ := hw
        rw [eM15, eN16] at hZ
        obtain ⟨hc, hw⟩ := hw
        refine z_last (pc := 69) hx hb hK hZ hS hc d_Mo_modular_69 (fun M17 H locs hM17 hZ hS => ?_)
        have hw := hw M17 hM17
        refine lv_iinc (pc := 70) (k := 2) (v := v3 + (1 : Int32)) (lv' := [(3, .int (v3 + (1 : Int32))), (0, .ref (b + 99)), (2, .int a2)]) hx hb d_Mo_modular_70 hl rfl (by rfl) (by decide) rfl (fun ls hl => ?_)
        refine lv_goto (pc := 73) (tgt := 47) hx hb d_Mo_modular_73 (by decide) ?_
        exact ih47 (v3 + (1 : Int32)) M17 _ _ _ hZ hS (lv_sub hl [1, 2, 0] rfl) hw
  have j24 : ∀ (t0 : Int32) (M : zM) (N : zN) (H : Heap) (ls : Array Slot) (locs : List Loc), va_P G.1 zCl (zws G b M N) H → va_S (zA b) s.heap H locs → lv_has ls 11 [(0, .ref (b + 99)), (1, .int a1), (2, .int a2)] → J_Mo_modular_24 P a1 a2 t0 M N → W p l e (headSpec ws_Mo_modular rm_Mo_modular).room s m ([.ref (b + 99), .int a1, .int a2] : List Value).toArray below meth c H locs 0 0 (MQ below (zQi G b (fun r M' N' => P r M' N')) ([.ref (b + 99), .int a1, .int a2] : List Value).toArray s 0 0 (zA b)) (F0 m 24 ls [.int t0, .ref (b + 99)]) := by
    intro t0 M N H ls locs hZ hS hl hw
    unfold J_Mo_modular_24 at hw
    refine zp_Mo_78 (pc := 24) hx hb hta hown hK hZ hS d_Mo_modular_24 (fun N7 H locs hN7 hZ hS => ?_)
    have hw := hw N7 hN7
    refine lv_aload_n (pc := 27) hx hb d_Mo_modular_27 rfl (lv_at hl 0 rfl) ?_
    refine zg_Mo_78 (pc := 28) hx hb hta hown hK hZ d_Mo_modular_28 ?_
    refine lv_if_le (pc := 31) (tgt := 36) hx hb d_Mo_modular_31 (by decide) (fun hc => ?_) (fun hc => ?_)
    · have hw := hw.1 hc
      refine lv_aload_n (pc := 36) hx hb d_Mo_modular_36 rfl (lv_at hl 0 rfl) ?_
      refine lv_iload_n (pc := 37) hx hb d_Mo_modular_37 rfl (lv_at hl 1 rfl) ?_
      refine lv_aload_n (pc := 38) hx hb d_Mo_modular_38 rfl (lv_at hl 0 rfl) ?_
      refine zg_Mo_26 (pc := 39) hx hb hta hown hK hZ d_Mo_modular_39 ?_
      refine z_callv (pc := 42) (va_runV (C := R_Mo) (b := b + 99) (As := [.int a1, .ref (b + 105)]) (rest := []) ⟨hx, hb, hml, hown, hts⟩ (c_Mo_load l G b a1 105 M N7 hw) (cwV 2 hts (z_good (zgV wd810 wd812 wsel18 wd7 wd813)) rfl rfl rfl ⟨rfl, hd_Mo_load⟩ ⟨Nat.le_of_ble_eq_true rfl, Nat.le_of_ble_eq_true rfl⟩) (z_preV zo_Mo rfl rfl hZ hK hT hS) rfl rfl hl.1 rfl (lv_room (Nat.le_of_ble_eq_true rfl)) d_Mo_modular_42 ⟨Nat.le_of_ble_eq_true rfl, Nat.le_of_ble_eq_true rfl⟩) hS (fun M9 N10 H locs hw hZ hS => ?_)
      obtain ⟨hw, eN10⟩ := hw
      rw [eN10] at hZ
      refine lv_iconst (pc := 45) (v := 0) hx hb d_Mo_modular_45 (by decide) ?_
      refine lv_istore_n (pc := 46) (lv' := [(3, .int (0 : Int32)), (0, .ref (b + 99)), (1, .int a1), (2, .int a2)]) hx hb d_Mo_modular_46 rfl hl (by decide) rfl (fun ls hl => ?_)
      obtain ⟨n, hw⟩ := hw
      exact lp47 N7 n (0 : Int32) M9 _ _ _ hZ hS (lv_sub hl [1, 3, 0] rfl) hw
    · have hw := hw.2 hc
      refine lv_iconst (pc := 34) (v := 0) hx hb d_Mo_modular_34 (by decide) ?_
      exact z_iret hx hb hr hlocks hK hT hZ hS hw d_Mo_modular_35
  unfold w_Mo_modular at hw
  refine lv_aload_n (pc := 0) hx hb d_Mo_modular_0 rfl (lv_at hl 0 rfl) ?_
  refine lv_iload_n (pc := 1) hx hb d_Mo_modular_1 rfl (lv_at hl 1 rfl) ?_
  refine z_calli (pc := 2) (va_runS (As := [.int a1]) (rest := [.ref (b + 99)]) ⟨hx, hb, hml, hown, hts⟩ (c_Mo_isRegister l G b a1 M N hw) (va_cwS 1 hts (z_good (zgS wd805 wd806 wd7 wd807)) rfl rfl rfl hd_Mo_isRegister ⟨Nat.le_of_ble_eq_true rfl, Nat.le_of_ble_eq_true rfl⟩) (z_preS hZ hK hT hS) rfl rfl hl.1 rfl (lv_room (Nat.le_of_ble_eq_true rfl)) d_Mo_modular_2 ⟨Nat.le_of_ble_eq_true rfl, Nat.le_of_ble_eq_true rfl⟩) hS (fun r1 M2 N3 H locs hw hZ hS => ?_)
  obtain ⟨hw, eM2, eN3⟩ := hw
  rw [eM2, eN3] at hZ
  refine lv_if_ne (pc := 5) (tgt := 12) hx hb d_Mo_modular_5 (by decide) (fun hc => ?_) (fun hc => ?_)
  · have hw := hw.1 hc
    refine lv_iload_n (pc := 12) hx hb d_Mo_modular_12 rfl (lv_at hl 2 rfl) ?_
    refine z_calli (pc := 13) (va_runS (As := [.int a2]) (rest := [.ref (b + 99)]) ⟨hx, hb, hml, hown, hts⟩ (c_Mo_isSmall l G b a2 M N hw) (va_cwS 1 hts (z_good (zgS wd1011 wd1012 wd7 wd1013)) rfl rfl rfl hd_Mo_isSmall ⟨Nat.le_of_ble_eq_true rfl, Nat.le_of_ble_eq_true rfl⟩) (z_preS hZ hK hT hS) rfl rfl hl.1 rfl (lv_room (Nat.le_of_ble_eq_true rfl)) d_Mo_modular_13 ⟨Nat.le_of_ble_eq_true rfl, Nat.le_of_ble_eq_true rfl⟩) hS (fun r4 M5 N6 H locs hw hZ hS => ?_)
    obtain ⟨hw, eM5, eN6⟩ := hw
    rw [eM5, eN6] at hZ
    refine lv_if_eq (pc := 16) (tgt := 23) hx hb d_Mo_modular_16 (by decide) (fun hc => ?_) (fun hc => ?_)
    · have hw := hw.1 hc
      refine lv_iconst (pc := 23) (v := 2) hx hb d_Mo_modular_23 (by decide) ?_
      exact j24 (2 : Int32) M N _ _ _ hZ hS hl hw
    · have hw := hw.2 hc
      refine lv_iconst (pc := 19) (v := 0) hx hb d_Mo_modular_19 (by decide) ?_
      refine lv_goto (pc := 20) (tgt := 24) hx hb d_Mo_modular_20 (by decide) ?_
      exact j24 (0 : Int32) M N _ _ _ hZ hS hl hw
  · have hw := hw.2 hc
    refine lv_iconst (pc := 8) (v := 1) hx hb d_Mo_modular_8 (by decide) ?_
    refine lv_goto (pc := 9) (tgt := 24) hx hb d_Mo_modular_9 (by decide) ?_
    exact j24 (1 : Int32) M N _ _ _ hZ hS hl hw
theorem d_Mo_roots_0 : decode prog_10_method_58_code 0 = .ok (.aload_n 0, 1) := by decide +kernel
theorem d_Mo_roots_1 : decode prog_10_method_58_code 1 = .ok (.iload_n 1, 1) := by decide +kernel
theorem d_Mo_roots_2 : decode prog_10_method_58_code 2 = .ok (.invokestatic 98, 3) := by decide +kernel
theorem d_Mo_roots_5 : decode prog_10_method_58_code 5 = .ok (.ifCond .ne 7, 3) := by decide +kernel
theorem d_Mo_roots_8 : decode prog_10_method_58_code 8 = .ok (.iconst 1, 1) := by decide +kernel
theorem d_Mo_roots_9 : decode prog_10_method_58_code 9 = .ok (.goto 15, 3) := by decide +kernel
theorem d_Mo_roots_12 : decode prog_10_method_58_code 12 = .ok (.iload_n 2, 1) := by decide +kernel
theorem d_Mo_roots_13 : decode prog_10_method_58_code 13 = .ok (.invokestatic 240, 3) := by decide +kernel
theorem d_Mo_roots_16 : decode prog_10_method_58_code 16 = .ok (.ifCond .eq 7, 3) := by decide +kernel
theorem d_Mo_roots_19 : decode prog_10_method_58_code 19 = .ok (.iconst 0, 1) := by decide +kernel
theorem d_Mo_roots_20 : decode prog_10_method_58_code 20 = .ok (.goto 4, 3) := by decide +kernel
theorem d_Mo_roots_23 : decode prog_10_method_58_code 23 = .ok (.iconst 2, 1) := by decide +kernel
theorem d_Mo_roots_24 : decode prog_10_method_58_code 24 = .ok (.putfield 78, 3) := by decide +kernel
theorem d_Mo_roots_27 : decode prog_10_method_58_code 27 = .ok (.iconst 0, 1) := by decide +kernel
theorem d_Mo_roots_28 : decode prog_10_method_58_code 28 = .ok (.istore_n 3, 1) := by decide +kernel
theorem d_Mo_roots_29 : decode prog_10_method_58_code 29 = .ok (.iconst 0, 1) := by decide +kernel
theorem d_Mo_roots_30 : decode prog_10_method_58_code 30 = .ok (.istore 4, 2) := by decide +kernel
theorem d_Mo_roots_32 : decode prog_10_method_58_code 32 = .ok (.iload 4, 2) := by decide +kernel
theorem d_Mo_roots_34 : decode prog_10_method_58_code 34 = .ok (.iload_n 2, 1) := by decide +kernel
theorem d_Mo_roots_35 : decode prog_10_method_58_code 35 = .ok (.if_icmp .ge 76, 3) := by decide +kernel
theorem d_Mo_roots_38 : decode prog_10_method_58_code 38 = .ok (.aload_n 0, 1) := by decide +kernel
theorem d_Mo_roots_39 : decode prog_10_method_58_code 39 = .ok (.getfield 78, 3) := by decide +kernel
theorem d_Mo_roots_42 : decode prog_10_method_58_code 42 = .ok (.ifCond .ne 69, 3) := by decide +kernel
theorem d_Mo_roots_45 : decode prog_10_method_58_code 45 = .ok (.lconst 0, 1) := by decide +kernel
theorem d_Mo_roots_46 : decode prog_10_method_58_code 46 = .ok (.lstore 5, 2) := by decide +kernel
theorem d_Mo_roots_48 : decode prog_10_method_58_code 48 = .ok (.bipush 7, 2) := by decide +kernel
theorem d_Mo_roots_50 : decode prog_10_method_58_code 50 = .ok (.istore 7, 2) := by decide +kernel
theorem d_Mo_roots_52 : decode prog_10_method_58_code 52 = .ok (.iload 7, 2) := by decide +kernel
theorem d_Mo_roots_54 : decode prog_10_method_58_code 54 = .ok (.ifCond .lt 36, 3) := by decide +kernel
theorem d_Mo_roots_57 : decode prog_10_method_58_code 57 = .ok (.lload 5, 2) := by decide +kernel
theorem d_Mo_roots_59 : decode prog_10_method_58_code 59 = .ok (.iload 4, 2) := by decide +kernel
theorem d_Mo_roots_61 : decode prog_10_method_58_code 61 = .ok (.i2l, 1) := by decide +kernel
theorem d_Mo_roots_62 : decode prog_10_method_58_code 62 = .ok (.lmul, 1) := by decide +kernel
theorem d_Mo_roots_63 : decode prog_10_method_58_code 63 = .ok (.aload_n 0, 1) := by decide +kernel
theorem d_Mo_roots_64 : decode prog_10_method_58_code 64 = .ok (.getfield 7, 3) := by decide +kernel
theorem d_Mo_roots_67 : decode prog_10_method_58_code 67 = .ok (.bipush 8, 2) := by decide +kernel
theorem d_Mo_roots_69 : decode prog_10_method_58_code 69 = .ok (.iload_n 1, 1) := by decide +kernel
theorem d_Mo_roots_70 : decode prog_10_method_58_code 70 = .ok (.imul, 1) := by decide +kernel
theorem d_Mo_roots_71 : decode prog_10_method_58_code 71 = .ok (.iload 7, 2) := by decide +kernel
theorem d_Mo_roots_73 : decode prog_10_method_58_code 73 = .ok (.iadd, 1) := by decide +kernel
theorem d_Mo_roots_74 : decode prog_10_method_58_code 74 = .ok (.iaload, 1) := by decide +kernel
theorem d_Mo_roots_75 : decode prog_10_method_58_code 75 = .ok (.i2l, 1) := by decide +kernel
theorem d_Mo_roots_76 : decode prog_10_method_58_code 76 = .ok (.ladd, 1) := by decide +kernel
theorem d_Mo_roots_77 : decode prog_10_method_58_code 77 = .ok (.iload_n 2, 1) := by decide +kernel
theorem d_Mo_roots_78 : decode prog_10_method_58_code 78 = .ok (.i2l, 1) := by decide +kernel
theorem d_Mo_roots_79 : decode prog_10_method_58_code 79 = .ok (.invokestatic 137, 3) := by decide +kernel
theorem d_Mo_roots_82 : decode prog_10_method_58_code 82 = .ok (.lstore 5, 2) := by decide +kernel
theorem d_Mo_roots_84 : decode prog_10_method_58_code 84 = .ok (.iinc 7 (-1), 3) := by decide +kernel
theorem d_Mo_roots_87 : decode prog_10_method_58_code 87 = .ok (.goto (-35), 3) := by decide +kernel
theorem d_Mo_roots_90 : decode prog_10_method_58_code 90 = .ok (.lload 5, 2) := by decide +kernel
theorem d_Mo_roots_92 : decode prog_10_method_58_code 92 = .ok (.lconst 0, 1) := by decide +kernel
theorem d_Mo_roots_93 : decode prog_10_method_58_code 93 = .ok (.lcmp, 1) := by decide +kernel
theorem d_Mo_roots_94 : decode prog_10_method_58_code 94 = .ok (.ifCond .ne 9, 3) := by decide +kernel
theorem d_Mo_roots_97 : decode prog_10_method_58_code 97 = .ok (.iload_n 3, 1) := by decide +kernel
theorem d_Mo_roots_98 : decode prog_10_method_58_code 98 = .ok (.iconst 1, 1) := by decide +kernel
theorem d_Mo_roots_99 : decode prog_10_method_58_code 99 = .ok (.iadd, 1) := by decide +kernel
theorem d_Mo_roots_100 : decode prog_10_method_58_code 100 = .ok (.goto 4, 3) := by decide +kernel
theorem d_Mo_roots_103 : decode prog_10_method_58_code 103 = .ok (.iload_n 3, 1) := by decide +kernel
theorem d_Mo_roots_104 : decode prog_10_method_58_code 104 = .ok (.istore_n 3, 1) := by decide +kernel
theorem d_Mo_roots_105 : decode prog_10_method_58_code 105 = .ok (.iinc 4 1, 3) := by decide +kernel
theorem d_Mo_roots_108 : decode prog_10_method_58_code 108 = .ok (.goto (-76), 3) := by decide +kernel
theorem d_Mo_roots_111 : decode prog_10_method_58_code 111 = .ok (.iload_n 3, 1) := by decide +kernel
theorem d_Mo_roots_112 : decode prog_10_method_58_code 112 = .ok (.ireturn, 1) := by decide +kernel
def B_Mo_roots_52 (P : Int32 → zN → Prop) (k32 : Int32 → Int32 → Prop) (a1 : Int32) (a2 : Int32) (v3 : Int32) (v4 : Int32) (N : zN) (k52 : Int64 → Int32 → Prop) (v5 : Int64) (v7 : Int32) : Prop := (v7 < 0 → (¬ v5 = (0 : Int64) → k32 v3 (v4 + (1 : Int32))) ∧ (v5 = (0 : Int64) → ∀ x10 : Int32, x10 = v3 + (1 : Int32) → k32 x10 (v4 + (1 : Int32)))) ∧ (¬ v7 < 0 → vp_in (((8 : Int32) * a1) + v7) (zint 100) ∧ w_Mo_left ((v5 * v4.toInt64) + ((N 100 (((8 : Int32) * a1) + v7).toNatClampNeg).toInt64)) a2.toInt64  (fun r11 => k52 r11 (v7 + (-1 : Int32))))
def L_Mo_roots_52 (P : Int32 → zN → Prop) (k32 : Int32 → Int32 → Prop) (a1 : Int32) (a2 : Int32) (v3 : Int32) (v4 : Int32) (N : zN) (n : Nat) : Int64 → Int32 → Prop := Nat.rec (fun _ _ => False) (fun _ k => B_Mo_roots_52 P k32 a1 a2 v3 v4 N k) n
def B_Mo_roots_32 (P : Int32 → zN → Prop) (a1 : Int32) (a2 : Int32) (N : zN) (k32 : Int32 → Int32 → Prop) (v3 : Int32) (v4 : Int32) : Prop := (a2 ≤ v4 → P v3 N) ∧ (¬ a2 ≤ v4 → (¬ (N 99 0) = 0 → P v3 N) ∧ ((N 99 0) = 0 → ∃ n, L_Mo_roots_52 P k32 a1 a2 v3 v4 N n (0 : Int64) (7 : Int32)))
def L_Mo_roots_32 (P : Int32 → zN → Prop) (a1 : Int32) (a2 : Int32) (N : zN) (n : Nat) : Int32 → Int32 → Prop := Nat.rec (fun _ _ => False) (fun _ k => B_Mo_roots_32 P a1 a2 N k) n
def w_Mo_roots (a1 : Int32) (a2 : Int32) (N : zN) (P : Int32 → zN → Prop) : Prop := w_Mo_isRegister a1  (fun r1 => (¬ r1 = 0 → w_Mo_isSmall a2  (fun r4 => (r4 = 0 → ∀ N7 : zN, N7 = zpui N 99 0 (2 : Int32) → ∃ n, L_Mo_roots_32 P a1 a2 N7 n (0 : Int32) (0 : Int32)) ∧ (¬ r4 = 0 → ∀ N8 : zN, N8 = zpui N 99 0 (0 : Int32) → ∃ n, L_Mo_roots_32 P a1 a2 N8 n (0 : Int32) (0 : Int32)))) ∧ (r1 = 0 → ∀ N9 : zN, N9 = zpui N 99 0 (1 : Int32) → ∃ n, L_Mo_roots_32 P a1 a2 N9 n (0 : Int32) (0 : Int32)))
def ws_Mo_roots : List Cond := .code y_Mo_roots prog_10_method_58_code 8 (Option.some Jvm.ClassFile.FieldType.int) :: zall
def rm_Mo_roots : Room := { frames := 1, cells := 0, slots := 0, locals := 25 }
theorem hd_Mo_roots : y_Mo_roots.cls ≠ "java/lang/invoke/MethodHandle" ∧ y_Mo_roots.cls ≠ "java/lang/invoke/VarHandle" ∧ (parseMethodDescriptor y_Mo_roots.desc).map (fun d => d.parameters.length) = some 2 := by decide +kernel
set_option maxHeartbeats 4000000 in
set_option maxRecDepth 100000 in
theorem c_Mo_roots (l : Launch) (G : zG) (b : Nat) (a1 : Int32) (a2 : Int32) (M : zM) (N : zN) {P : Int32 → zN → Prop} (hw : w_Mo_roots a1 a2 N P) : Met l y_Mo_roots ws_Mo_roots rm_Mo_roots (zPc G b M N [.ref (b + 99), .int a1, .int a2]) (zQi G b (fun r M' N' => P r N' ∧ M' = M)) 0 0 (zA b) := by
  refine Met.ofW (cc := prog_10_method_58_code) (maxL := 8) (ret := (Option.some Jvm.ClassFile.FieldType.int)) (by decide) rfl ?_
  intro p e s m args below meth c s₁ B hml hv
  obtain ⟨rfl, hZ, hK, hT⟩ := hv
  have hx := B.exec
  have hb := B.bytes
  have hr := B.returns
  have hts := atoms_spec (ws := ws_Mo_roots) B.pre
  have hta : ∀ w ∈ zall, w.before ([.ref (b + 99), .int a1, .int a2] : List Value).toArray s = true := fun w h => hts w (List.mem_cons_of_mem _ h)
  have hown : s.vm.findClass R_Mo = some m.cls := findClass_of_methodNamed B.named
  have hlocks := B.notSynchronized
  have hS : va_S (zA b) s.heap s.heap [] := va_S.rf
  have hl := lv_entry ([.ref (b + 99), .int a1, .int a2]) (n := 8) (Nat.le_of_ble_eq_true rfl)
  rw [lg_entry_eq]
  generalize (lg_sl ([.ref (b + 99), .int a1, .int a2]) ++ List.replicate (8 - (lg_sl ([.ref (b + 99), .int a1, .int a2])).length) Slot.unset).toArray = ls at hl ⊢
  have hl : lv_has ls 8 [(0, .ref (b + 99)), (1, .int a1), (2, .int a2)] := hl
  have lp32 : ∀ (N : zN) (n : Nat) (v3 : Int32) (v4 : Int32) (H : Heap) (ls : Array Slot) (locs : List Loc), va_P G.1 zCl (zws G b M N) H → va_S (zA b) s.heap H locs → lv_has ls 8 [(0, .ref (b + 99)), (1, .int a1), (2, .int a2), (3, .int v3), (4, .int v4)] → L_Mo_roots_32 P a1 a2 N n v3 v4 → W p l e (headSpec ws_Mo_roots rm_Mo_roots).room s m ([.ref (b + 99), .int a1, .int a2] : List Value).toArray below meth c H locs 0 0 (MQ below (zQi G b (fun r M' N' => P r N' ∧ M' = M)) ([.ref (b + 99), .int a1, .int a2] : List Value).toArray s 0 0 (zA b)) (F0 m 32 ls []) := by
    intro N n
    induction n with
    | zero => intro v3 v4 H ls locs hZ hS hl hw; exact False.elim hw
    | succ n32 ih32 =>
      have lp52 : ∀ (v3 : Int32) (v4 : Int32) (n : Nat) (v5 : Int64) (v7 : Int32) (H : Heap) (ls : Array Slot) (locs : List Loc), va_P G.1 zCl (zws G b M N) H → va_S (zA b) s.heap H locs → lv_has ls 8 [(0, .ref (b + 99)), (1, .int a1), (2, .int a2), (3, .int v3), (4, .int v4), (5, .long v5), (7, .int v7)] → L_Mo_roots_52 P (L_Mo_roots_32 P a1 a2 N n32) a1 a2 v3 v4 N n v5 v7 → W p l e (headSpec ws_Mo_roots rm_Mo_roots).room s m ([.ref (b + 99), .int a1, .int a2] : List Value).toArray below meth c H locs 0 0 (MQ below (zQi G b (fun r M' N' => P r N' ∧ M' = M)) ([.ref (b + 99), .int a1, .int a2] : List Value).toArray s 0 0 (zA b)) (F0 m 52 ls []) := by
        intro v3 v4 n
        induction n with
        | zero => intro v5 v7 H ls locs hZ hS hl hw; exact False.elim hw
        | succ n52 ih52 =>
          intro v5 v7 H ls locs hZ hS hl hw
          have hw : B_Mo_roots_52 P (L_Mo_roots_32 P a1 a2 N n32) a1 a2 v3 v4 N (L_Mo_roots_52 P (L_Mo_roots_32 P a1 a2 N n32) a1 a2 v3 v4 N n52) v5 v7 := hw
          unfold B_Mo_roots_52 at hw
          refine lv_iload (pc := 52) hx hb d_Mo_roots_52 (lv_at hl 6 rfl) ?_
          refine lv_if_lt (pc := 54) (tgt := 90) hx hb d_Mo_roots_54 (by decide) (fun hc => ?_) (fun hc => ?_)
          · have hw := hw.1 hc
            refine lv_lload (pc := 90) hx hb d_Mo_roots_90 (lv_at hl 5 rfl) ?_
            refine lv_lconst (pc := 92) (v := 0) hx hb d_Mo_roots_92 (by decide) ?_
            refine z_lc_ne (pc := 93) (tgt := 103) hx hb d_Mo_roots_93 d_Mo_roots_94 (by decide) (fun hc => ?_) (fun hc => ?_)
            · have hw := hw.1 hc
              refine lv_iload_n (pc := 103) hx hb d_Mo_roots_103 rfl (lv_at hl 3 rfl) ?_
              refine lv_istore_n (pc := 104) (lv' := [(3, .int v3), (0, .ref (b + 99)), (1, .int a1), (2, .int a2), (4, .int v4), (5, .long v5), (7, .int v7)]) hx hb d_Mo_roots_104 rfl hl (by decide) rfl (fun ls hl => ?_)
              refine lv_iinc (pc := 105) (k := 4) (v := v4 + (1 : Int32)) (lv' := [(4, .int (v4 + (1 : Int32))), (3, .int v3), (0, .ref (b + 99)), (1, .int a1), (2, .int a2), (5, .long v5), (7, .int v7)]) hx hb d_Mo_roots_105 hl rfl (by rfl) (by decide) rfl (fun ls hl => ?_)
              refine lv_goto (pc := 108) (tgt := 32) hx hb d_Mo_roots_108 (by decide) ?_
              exact ih32 v3 (v4 + (1 : Int32)) _ _ _ hZ hS (lv_sub hl [2, 3, 4, 1, 0] rfl) hw
            · have hw := hw.2 hc
              refine lv_iload_n (pc := 97) hx hb d_Mo_roots_97 rfl (lv_at hl 3 rfl) ?_
              refine lv_iconst (pc := 98) (v := 1) hx hb d_Mo_roots_98 (by decide) ?_
              refine lv_iadd (pc := 99) hx hb d_Mo_roots_99 ?_
              refine lv_goto (pc := 100) (tgt := 104) hx hb d_Mo_roots_100 (by decide) ?_
              refine lv_topi (fun x10 hx10 => ?_)
              have hw := hw x10 hx10
              refine lv_istore_n (pc := 104) (lv' := [(3, .int x10), (0, .ref (b + 99)), (1, .int a1), (2, .int a2), (4, .int v4), (5, .long v5), (7, .int v7)]) hx hb d_Mo_roots_104 rfl hl (by decide) rfl (fun ls hl => ?_)
              refine lv_iinc (pc := 105) (k := 4) (v := v4 + (1 : Int32)) (lv' := [(4, .int (v4 + (1 : Int32))), (3, .int x10), (0, .ref (b + 99)), (1, .int a1), (2, .int a2), (5, .long v5), (7, .int v7)]) hx hb d_Mo_roots_105 hl rfl (by rfl) (by decide) rfl (fun ls hl => ?_)
              refine lv_goto (pc := 108) (tgt := 32) hx hb d_Mo_roots_108 (by decide) ?_
              exact ih32 x10 (v4 + (1 : Int32)) _ _ _ hZ hS (lv_sub hl [2, 3, 4, 1, 0] rfl) hw
          · have hw := hw.2 hc
            refine lv_lload (pc := 57) hx hb d_Mo_roots_57 (lv_at hl 5 rfl) ?_
            refine lv_iload (pc := 59) hx hb d_Mo_roots_59 (lv_at hl 4 rfl) ?_
            refine lv_i2l (pc := 61) (v := v4.toInt64) hx hb d_Mo_roots_61 rfl ?_
            refine lv_lmul (pc := 62) hx hb d_Mo_roots_62 ?_
            refine lv_aload_n (pc := 63) hx hb d_Mo_roots_63 rfl (lv_at hl 0 rfl) ?_
            refine zg_Mo_7 (pc := 64) hx hb hta hown hK hZ d_Mo_roots_64 ?_
            refine lv_bipush (pc := 67) (v := 8) hx hb d_Mo_roots_67 (by decide) ?_
            refine lv_iload_n (pc := 69) hx hb d_Mo_roots_69 rfl (lv_at hl 1 rfl) ?_
            refine lv_imul (pc := 70) hx hb d_Mo_roots_70 ?_
            refine lv_iload (pc := 71) hx hb d_Mo_roots_71 (lv_at hl 6 rfl) ?_
            refine lv_iadd (pc := 73) hx hb d_Mo_roots_73 ?_
            obtain ⟨hc, hw⟩ := hw
            refine z_iald (pc := 74) hx hb hK hZ hc d_Mo_roots_74 ?_
            refine lv_i2l (pc := 75) (v := (N 100 (((8 : Int32) * a1) + v7).toNatClampNeg).toInt64) hx hb d_Mo_roots_75 rfl ?_
            refine lv_ladd (pc := 76) hx hb d_Mo_roots_76 ?_
            refine lv_iload_n (pc := 77) hx hb d_Mo_roots_77 rfl (lv_at hl 2 rfl) ?_
            refine lv_i2l (pc := 78) (v := a2.toInt64) hx hb d_Mo_roots_78 rfl ?_
            refine z_calll (pc := 79) (va_runS (As := [.long ((v5 * v4.toInt64) + ((N 100 (((8 : Int32) * a1) + v7).toNatClampNeg).toInt64)), .long a2.toInt64]) (rest := []) ⟨hx, hb, hml, hown, hts⟩ (c_Mo_left l G b ((v5 * v4.toInt64) + ((N 100 (((8 : Int32) * a1) + v7).toNatClampNeg).toInt64)) a2.toInt64 M N hw) (va_cwS 2 hts (z_good (zgS wd902 wd903 wd7 wd904)) rfl rfl rfl hd_Mo_left ⟨Nat.le_of_ble_eq_true rfl, Nat.le_of_ble_eq_true rfl⟩) (z_preS hZ hK hT hS) rfl rfl hl.1 rfl (lv_room (Nat.le_of_ble_eq_true rfl)) d_Mo_roots_79 ⟨Nat.le_of_ble_eq_true rfl, Nat.le_of_ble_eq_true rfl⟩) hS (fun r11 M12 N13 H locs hw hZ hS => ?_)
            obtain ⟨hw, eM12, eN13⟩ := hw
            rw [eM12, eN13] at hZ
            refine lv_lstore (pc := 82) (lv' := [(5, .long r11), (0, .ref (b + 99)), (1, .int a1), (2, .int a2), (3, .int v3), (4, .int v4), (7, .int v7)]) hx hb d_Mo_roots_82 hl (by decide) rfl (fun ls hl => ?_)
            refine lv_iinc (pc := 84) (k := 6) (v := v7 + (-1 : Int32)) (lv' := [(7, .int (v7 + (-1 : Int32))), (5, .long r11), (0, .ref (b + 99)), (1, .int a1), (2, .int a2), (3, .int v3), (4, .int v4)]) hx hb d_Mo_roots_84 hl rfl (by rfl) (by decide) rfl (fun ls hl => ?_)
            refine lv_goto (pc := 87) (tgt := 52) hx hb d_Mo_roots_87 (by decide) ?_
            exact ih52 r11 (v7 + (-1 : Int32)) _ _ _ hZ hS (lv_sub hl [2, 3, 4, 5, 6, 1, 0] rfl) hw
      intro v3 v4 H ls locs hZ hS hl hw
      have hw : B_Mo_roots_32 P a1 a2 N (L_Mo_roots_32 P a1 a2 N n32) v3 v4 := hw
      unfold B_Mo_roots_32 at hw
      refine lv_iload (pc := 32) hx hb d_Mo_roots_32 (lv_at hl 4 rfl) ?_
      refine lv_iload_n (pc := 34) hx hb d_Mo_roots_34 rfl (lv_at hl 2 rfl) ?_
      refine lv_icmp_ge (pc := 35) (tgt := 111) hx hb d_Mo_roots_35 (by decide) (fun hc => ?_) (fun hc => ?_)
      · have hw := hw.1 hc
        refine lv_iload_n (pc := 111) hx hb d_Mo_roots_111 rfl (lv_at hl 3 rfl) ?_
        exact z_iret hx hb hr hlocks hK hT hZ hS ⟨hw, rfl⟩ d_Mo_roots_112
      · have hw := hw.2 hc
        refine lv_aload_n (pc := 38) hx hb d_Mo_roots_38 rfl (lv_at hl 0 rfl) ?_
        refine zg_Mo_78 (pc := 39) hx hb hta hown hK hZ d_Mo_roots_39 ?_
        refine lv_if_ne (pc := 42) (tgt := 111) hx hb d_Mo_roots_42 (by decide) (fun hc => ?_) (fun hc => ?_)
        · have hw := hw.1 hc
          refine lv_iload_n (pc := 111) hx hb d_Mo_roots_111 rfl (lv_at hl 3 rfl) ?_
          exact z_iret hx hb hr hlocks hK hT hZ hS ⟨hw, rfl⟩ d_Mo_roots_112
        · have hw := hw.2 hc
          refine lv_lconst (pc := 45) (v := 0) hx hb d_Mo_roots_45 (by decide) ?_
          refine lv_lstore (pc := 46) (lv' := [(5, .long (0 : Int64)), (0, .ref (b + 99)), (1, .int a1), (2, .int a2), (3, .int v3), (4, .int v4)]) hx hb d_Mo_roots_46 hl (by decide) rfl (fun ls hl => ?_)
          refine lv_bipush (pc := 48) (v := 7) hx hb d_Mo_roots_48 (by decide) ?_
          refine lv_istore (pc := 50) (lv' := [(7, .int (7 : Int32)), (5, .long (0 : Int64)), (0, .ref (b + 99)), (1, .int a1), (2, .int a2), (3, .int v3), (4, .int v4)]) hx hb d_Mo_roots_50 hl (by decide) rfl (fun ls hl => ?_)
          obtain ⟨n, hw⟩ := hw
          exact lp52 v3 v4 n (0 : Int64) (7 : Int32) _ _ _ hZ hS (lv_sub hl [2, 3, 4, 5, 6, 1, 0] rfl) hw
  unfold w_Mo_roots at hw
  refine lv_aload_n (pc := 0) hx hb d_Mo_roots_0 rfl (lv_at hl 0 rfl) ?_
  refine lv_iload_n (pc := 1) hx hb d_Mo_roots_1 rfl (lv_at hl 1 rfl) ?_
  refine z_calli (pc := 2) (va_runS (As := [.int a1]) (rest := [.ref (b + 99)]) ⟨hx, hb, hml, hown, hts⟩ (c_Mo_isRegister l G b a1 M N hw) (va_cwS 1 hts (z_good (zgS wd805 wd806 wd7 wd807)) rfl rfl rfl hd_Mo_isRegister ⟨Nat.le_of_ble_eq_true rfl, Nat.le_of_ble_eq_true rfl⟩) (z_preS hZ hK hT hS) rfl rfl hl.1 rfl (lv_room (Nat.le_of_ble_eq_true rfl)) d_Mo_roots_2 ⟨Nat.le_of_ble_eq_true rfl, Nat.le_of_ble_eq_true rfl⟩) hS (fun r1 M2 N3 H locs hw hZ hS => ?_)
  obtain ⟨hw, eM2, eN3⟩ := hw
  rw [eM2, eN3] at hZ
  refine lv_if_ne (pc := 5) (tgt := 12) hx hb d_Mo_roots_5 (by decide) (fun hc => ?_) (fun hc => ?_)
  · have hw := hw.1 hc
    refine lv_iload_n (pc := 12) hx hb d_Mo_roots_12 rfl (lv_at hl 2 rfl) ?_
    refine z_calli (pc := 13) (va_runS (As := [.int a2]) (rest := [.ref (b + 99)]) ⟨hx, hb, hml, hown, hts⟩ (c_Mo_isSmall l G b a2 M N hw) (va_cwS 1 hts (z_good (zgS wd1011 wd1012 wd7 wd1013)) rfl rfl rfl hd_Mo_isSmall ⟨Nat.le_of_ble_eq_true rfl, Nat.le_of_ble_eq_true rfl⟩) (z_preS hZ hK hT hS) rfl rfl hl.1 rfl (lv_room (Nat.le_of_ble_eq_true rfl)) d_Mo_roots_13 ⟨Nat.le_of_ble_eq_true rfl, Nat.le_of_ble_eq_true rfl⟩) hS (fun r4 M5 N6 H locs hw hZ hS => ?_)
    obtain ⟨hw, eM5, eN6⟩ := hw
    rw [eM5, eN6] at hZ
    refine lv_if_eq (pc := 16) (tgt := 23) hx hb d_Mo_roots_16 (by decide) (fun hc => ?_) (fun hc => ?_)
    · have hw := hw.1 hc
      refine lv_iconst (pc := 23) (v := 2) hx hb d_Mo_roots_23 (by decide) ?_
      refine zp_Mo_78 (pc := 24) hx hb hta hown hK hZ hS d_Mo_roots_24 (fun N7 H locs hN7 hZ hS => ?_)
      have hw := hw N7 hN7
      refine lv_iconst (pc := 27) (v := 0) hx hb d_Mo_roots_27 (by decide) ?_
      refine lv_istore_n (pc := 28) (lv' := [(3, .int (0 : Int32)), (0, .ref (b + 99)), (1, .int a1), (2, .int a2)]) hx hb d_Mo_roots_28 rfl hl (by decide) rfl (fun ls hl => ?_)
      refine lv_iconst (pc := 29) (v := 0) hx hb d_Mo_roots_29 (by decide) ?_
      refine lv_istore (pc := 30) (lv' := [(4, .int (0 : Int32)), (3, .int (0 : Int32)), (0, .ref (b + 99)), (1, .int a1), (2, .int a2)]) hx hb d_Mo_roots_30 hl (by decide) rfl (fun ls hl => ?_)
      obtain ⟨n, hw⟩ := hw
      exact lp32 N7 n (0 : Int32) (0 : Int32) _ _ _ hZ hS (lv_sub hl [2, 3, 4, 1, 0] rfl) hw
    · have hw := hw.2 hc
      refine lv_iconst (pc := 19) (v := 0) hx hb d_Mo_roots_19 (by decide) ?_
      refine lv_goto (pc := 20) (tgt := 24) hx hb d_Mo_roots_20 (by decide) ?_
      refine zp_Mo_78 (pc := 24) hx hb hta hown hK hZ hS d_Mo_roots_24 (fun N8 H locs hN8 hZ hS => ?_)
      have hw := hw N8 hN8
      refine lv_iconst (pc := 27) (v := 0) hx hb d_Mo_roots_27 (by decide) ?_
      refine lv_istore_n (pc := 28) (lv' := [(3, .int (0 : Int32)), (0, .ref (b + 99)), (1, .int a1), (2, .int a2)]) hx hb d_Mo_roots_28 rfl hl (by decide) rfl (fun ls hl => ?_)
      refine lv_iconst (pc := 29) (v := 0) hx hb d_Mo_roots_29 (by decide) ?_
      refine lv_istore (pc := 30) (lv' := [(4, .int (0 : Int32)), (3, .int (0 : Int32)), (0, .ref (b + 99)), (1, .int a1), (2, .int a2)]) hx hb d_Mo_roots_30 hl (by decide) rfl (fun ls hl => ?_)
      obtain ⟨n, hw⟩ := hw
      exact lp32 N8 n (0 : Int32) (0 : Int32) _ _ _ hZ hS (lv_sub hl [2, 3, 4, 1, 0] rfl) hw
  · have hw := hw.2 hc
    refine lv_iconst (pc := 8) (v := 1) hx hb d_Mo_roots_8 (by decide) ?_
    refine lv_goto (pc := 9) (tgt := 24) hx hb d_Mo_roots_9 (by decide) ?_
    refine zp_Mo_78 (pc := 24) hx hb hta hown hK hZ hS d_Mo_roots_24 (fun N9 H locs hN9 hZ hS => ?_)
    have hw := hw N9 hN9
    refine lv_iconst (pc := 27) (v := 0) hx hb d_Mo_roots_27 (by decide) ?_
    refine lv_istore_n (pc := 28) (lv' := [(3, .int (0 : Int32)), (0, .ref (b + 99)), (1, .int a1), (2, .int a2)]) hx hb d_Mo_roots_28 rfl hl (by decide) rfl (fun ls hl => ?_)
    refine lv_iconst (pc := 29) (v := 0) hx hb d_Mo_roots_29 (by decide) ?_
    refine lv_istore (pc := 30) (lv' := [(4, .int (0 : Int32)), (3, .int (0 : Int32)), (0, .ref (b + 99)), (1, .int a1), (2, .int a2)]) hx hb d_Mo_roots_30 hl (by decide) rfl (fun ls hl => ?_)
    obtain ⟨n, hw⟩ := hw
    exact lp32 N9 n (0 : Int32) (0 : Int32) _ _ _ hZ hS (lv_sub hl [2, 3, 4, 1, 0] rfl) hw
