theorem d_Ro_isWide_0 : decode prog_7_method_10_code 0 = .ok (.iconst 0, 1) := by decide +kernel
theorem d_Ro_isWide_1 : decode prog_7_method_10_code 1 = .ok (.istore_n 1, 1) := by decide +kernel
theorem d_Ro_isWide_2 : decode prog_7_method_10_code 2 = .ok (.iload_n 1, 1) := by decide +kernel
theorem d_Ro_isWide_3 : decode prog_7_method_10_code 3 = .ok (.aload_n 0, 1) := by decide +kernel
theorem d_Ro_isWide_4 : decode prog_7_method_10_code 4 = .ok (.arraylength, 1) := by decide +kernel
theorem d_Ro_isWide_5 : decode prog_7_method_10_code 5 = .ok (.if_icmp .ge 31, 3) := by decide +kernel
theorem d_Ro_isWide_8 : decode prog_7_method_10_code 8 = .ok (.aload_n 0, 1) := by decide +kernel
theorem d_Ro_isWide_9 : decode prog_7_method_10_code 9 = .ok (.iload_n 1, 1) := by decide +kernel
theorem d_Ro_isWide_10 : decode prog_7_method_10_code 10 = .ok (.laload, 1) := by decide +kernel
theorem d_Ro_isWide_11 : decode prog_7_method_10_code 11 = .ok (.ldc2_w 46, 3) := by decide +kernel
theorem d_Ro_isWide_14 : decode prog_7_method_10_code 14 = .ok (.lcmp, 1) := by decide +kernel
theorem d_Ro_isWide_15 : decode prog_7_method_10_code 15 = .ok (.ifCond .lt 13, 3) := by decide +kernel
theorem d_Ro_isWide_18 : decode prog_7_method_10_code 18 = .ok (.aload_n 0, 1) := by decide +kernel
theorem d_Ro_isWide_19 : decode prog_7_method_10_code 19 = .ok (.iload_n 1, 1) := by decide +kernel
theorem d_Ro_isWide_20 : decode prog_7_method_10_code 20 = .ok (.laload, 1) := by decide +kernel
theorem d_Ro_isWide_21 : decode prog_7_method_10_code 21 = .ok (.ldc2_w 48, 3) := by decide +kernel
theorem d_Ro_isWide_24 : decode prog_7_method_10_code 24 = .ok (.lcmp, 1) := by decide +kernel
theorem d_Ro_isWide_25 : decode prog_7_method_10_code 25 = .ok (.ifCond .le 5, 3) := by decide +kernel
theorem d_Ro_isWide_28 : decode prog_7_method_10_code 28 = .ok (.iconst 1, 1) := by decide +kernel
theorem d_Ro_isWide_29 : decode prog_7_method_10_code 29 = .ok (.ireturn, 1) := by decide +kernel
theorem d_Ro_isWide_30 : decode prog_7_method_10_code 30 = .ok (.iinc 1 1, 3) := by decide +kernel
theorem d_Ro_isWide_33 : decode prog_7_method_10_code 33 = .ok (.goto (-31), 3) := by decide +kernel
theorem d_Ro_isWide_36 : decode prog_7_method_10_code 36 = .ok (.iconst 0, 1) := by decide +kernel
theorem d_Ro_isWide_37 : decode prog_7_method_10_code 37 = .ok (.ireturn, 1) := by decide +kernel
def B_Ro_isWide_2 (P : Int32 → Prop) (a0 : Nat) (M : zM) (k2 : Int32 → Prop) (v1 : Int32) : Prop := 0 < zlong a0 ∧ ((Int32.ofNat (zlong a0)) ≤ v1 → narrow .boolean (.int (0 : Int32)) = .int (0 : Int32) ∧ P (0 : Int32)) ∧ (¬ (Int32.ofNat (zlong a0)) ≤ v1 → vp_in v1 (zlong a0) ∧ ((M a0 v1.toNatClampNeg) < (-100000000 : Int64) → narrow .boolean (.int (1 : Int32)) = .int (1 : Int32) ∧ P (1 : Int32)) ∧ (¬ (M a0 v1.toNatClampNeg) < (-100000000 : Int64) → vp_in v1 (zlong a0) ∧ ((M a0 v1.toNatClampNeg) ≤ (100000000 : Int64) → k2 (v1 + (1 : Int32))) ∧ (¬ (M a0 v1.toNatClampNeg) ≤ (100000000 : Int64) → narrow .boolean (.int (1 : Int32)) = .int (1 : Int32) ∧ P (1 : Int32))))
def L_Ro_isWide_2 (P : Int32 → Prop) (a0 : Nat) (M : zM) (n : Nat) : Int32 → Prop := Nat.rec (fun _ => False) (fun _ k => B_Ro_isWide_2 P a0 M k) n
def w_Ro_isWide (a0 : Nat) (M : zM) (P : Int32 → Prop) : Prop := ∃ n, L_Ro_isWide_2 P a0 M n (0 : Int32)
def ws_Ro_isWide : List Cond := .code y_Ro_isWide prog_7_method_10_code 2 (Option.some Jvm.ClassFile.FieldType.boolean) :: zall
def rm_Ro_isWide : Room := { frames := 0, cells := 0, slots := 0, locals := 0 }
theorem hd_Ro_isWide : y_Ro_isWide.cls ≠ "java/lang/invoke/MethodHandle" ∧ y_Ro_isWide.cls ≠ "java/lang/invoke/VarHandle" ∧ (parseMethodDescriptor y_Ro_isWide.desc).map (fun d => d.parameters.length) = some 1 := by decide +kernel
set_option maxHeartbeats 4000000 in
set_option maxRecDepth 100000 in
theorem c_Ro_isWide (l : Launch) (G : zG) (b : Nat) (a0 : Nat) (M : zM) (N : zN) {P : Int32 → Prop} (hw : w_Ro_isWide a0 M P) : Met l y_Ro_isWide ws_Ro_isWide rm_Ro_isWide (zPc G b M N [.ref (b + a0)]) (zQi G b (fun r M' N' => P r ∧ M' = M ∧ N' = N)) 0 0 (zA b) := by
  refine Met.ofW (cc := prog_7_method_10_code) (maxL := 2) (ret := (Option.some Jvm.ClassFile.FieldType.boolean)) (by decide) rfl ?_
  intro p e s m args below meth c s₁ B hml hv
  obtain ⟨rfl, hZ, hK, hT⟩ := hv
  have hx := B.exec
  have hb := B.bytes
  have hr := B.returns
  have hts := atoms_spec (ws := ws_Ro_isWide) B.pre
  have hta : ∀ w ∈ zall, w.before ([.ref (b + a0)] : List Value).toArray s = true := fun w h => hts w (List.mem_cons_of_mem _ h)
  have hown : s.vm.findClass R_Ro = some m.cls := findClass_of_methodNamed B.named
  have hlocks := B.notSynchronized
  have hS : va_S (zA b) s.heap s.heap [] := va_S.rf
  have hl := lv_entry ([.ref (b + a0)]) (n := 2) (Nat.le_of_ble_eq_true rfl)
  rw [lg_entry_eq]
  generalize (lg_sl ([.ref (b + a0)]) ++ List.replicate (2 - (lg_sl ([.ref (b + a0)])).length) Slot.unset).toArray = ls at hl ⊢
  have hl : lv_has ls 2 [(0, .ref (b + a0))] := hl
  have lp2 : ∀ (n : Nat) (v1 : Int32) (H : Heap) (ls : Array Slot) (locs : List Loc), va_P G.1 zCl (zws G b M N) H → va_S (zA b) s.heap H locs → lv_has ls 2 [(0, .ref (b + a0)), (1, .int v1)] → L_Ro_isWide_2 P a0 M n v1 → W p l e (headSpec ws_Ro_isWide rm_Ro_isWide).room s m ([.ref (b + a0)] : List Value).toArray below meth c H locs 0 0 (MQ below (zQi G b (fun r M' N' => P r ∧ M' = M ∧ N' = N)) ([.ref (b + a0)] : List Value).toArray s 0 0 (zA b)) (F0 m 2 ls []) := by
    intro  n
    induction n with
    | zero => intro v1 H ls locs hZ hS hl hw; exact False.elim hw
    | succ n2 ih2 =>
      intro v1 H ls locs hZ hS hl hw
      have hw : B_Ro_isWide_2 P a0 M (L_Ro_isWide_2 P a0 M n2) v1 := hw
      unfold B_Ro_isWide_2 at hw
      refine lv_iload_n (pc := 2) hx hb d_Ro_isWide_2 rfl (lv_at hl 1 rfl) ?_
      refine lv_aload_n (pc := 3) hx hb d_Ro_isWide_3 rfl (lv_at hl 0 rfl) ?_
      obtain ⟨hc, hw⟩ := hw
      refine z_alen (pc := 4) hx hb hK hZ hc d_Ro_isWide_4 ?_
      refine lv_icmp_ge (pc := 5) (tgt := 36) hx hb d_Ro_isWide_5 (by decide) (fun hc => ?_) (fun hc => ?_)
      · have hw := hw.1 hc
        refine lv_iconst (pc := 36) (v := 0) hx hb d_Ro_isWide_36 (by decide) ?_
        exact z_zret hx hb hr hlocks hK hT hZ hS ⟨hw.1, ⟨hw.2, rfl, rfl⟩⟩ d_Ro_isWide_37
      · have hw := hw.2 hc
        refine lv_aload_n (pc := 8) hx hb d_Ro_isWide_8 rfl (lv_at hl 0 rfl) ?_
        refine lv_iload_n (pc := 9) hx hb d_Ro_isWide_9 rfl (lv_at hl 1 rfl) ?_
        obtain ⟨hc, hw⟩ := hw
        refine z_lald (pc := 10) hx hb hK hZ hc d_Ro_isWide_10 ?_
        refine lv_ldc2 (pc := 11) (v := -100000000) hx hb hown (hta _ wd410) d_Ro_isWide_11 ?_
        refine z_lc_lt (pc := 14) (tgt := 28) hx hb d_Ro_isWide_14 d_Ro_isWide_15 (by decide) (fun hc => ?_) (fun hc => ?_)
        · have hw := hw.1 hc
          refine lv_iconst (pc := 28) (v := 1) hx hb d_Ro_isWide_28 (by decide) ?_
          exact z_zret hx hb hr hlocks hK hT hZ hS ⟨hw.1, ⟨hw.2, rfl, rfl⟩⟩ d_Ro_isWide_29
        · have hw := hw.2 hc
          refine lv_aload_n (pc := 18) hx hb d_Ro_isWide_18 rfl (lv_at hl 0 rfl) ?_
          refine lv_iload_n (pc := 19) hx hb d_Ro_isWide_19 rfl (lv_at hl 1 rfl) ?_
          obtain ⟨hc, hw⟩ := hw
          refine z_lald (pc := 20) hx hb hK hZ hc d_Ro_isWide_20 ?_
          refine lv_ldc2 (pc := 21) (v := 100000000) hx hb hown (hta _ wd411) d_Ro_isWide_21 ?_
          refine z_lc_le (pc := 24) (tgt := 30) hx hb d_Ro_isWide_24 d_Ro_isWide_25 (by decide) (fun hc => ?_) (fun hc => ?_)
          · have hw := hw.1 hc
            refine lv_iinc (pc := 30) (k := 1) (v := v1 + (1 : Int32)) (lv' := [(1, .int (v1 + (1 : Int32))), (0, .ref (b + a0))]) hx hb d_Ro_isWide_30 hl rfl (by rfl) (by decide) rfl (fun ls hl => ?_)
            refine lv_goto (pc := 33) (tgt := 2) hx hb d_Ro_isWide_33 (by decide) ?_
            exact ih2 (v1 + (1 : Int32)) _ _ _ hZ hS (lv_sub hl [1, 0] rfl) hw
          · have hw := hw.2 hc
            refine lv_iconst (pc := 28) (v := 1) hx hb d_Ro_isWide_28 (by decide) ?_
            exact z_zret hx hb hr hlocks hK hT hZ hS ⟨hw.1, ⟨hw.2, rfl, rfl⟩⟩ d_Ro_isWide_29
  unfold w_Ro_isWide at hw
  refine lv_iconst (pc := 0) (v := 0) hx hb d_Ro_isWide_0 (by decide) ?_
  refine lv_istore_n (pc := 1) (lv' := [(1, .int (0 : Int32)), (0, .ref (b + a0))]) hx hb d_Ro_isWide_1 rfl hl (by decide) rfl (fun ls hl => ?_)
  obtain ⟨n, hw⟩ := hw
  exact lp2  n (0 : Int32) _ _ _ hZ hS (lv_sub hl [1, 0] rfl) hw
theorem d_Ro_findQuotient_0 : decode prog_7_method_9_code 0 = .ok (.aload_n 1, 1) := by decide +kernel
theorem d_Ro_findQuotient_1 : decode prog_7_method_9_code 1 = .ok (.invokestatic 9, 3) := by decide +kernel
theorem d_Ro_findQuotient_4 : decode prog_7_method_9_code 4 = .ok (.istore 4, 2) := by decide +kernel
theorem d_Ro_findQuotient_6 : decode prog_7_method_9_code 6 = .ok (.iload 4, 2) := by decide +kernel
theorem d_Ro_findQuotient_8 : decode prog_7_method_9_code 8 = .ok (.ifCond .lt 10, 3) := by decide +kernel
theorem d_Ro_findQuotient_11 : decode prog_7_method_9_code 11 = .ok (.aload_n 1, 1) := by decide +kernel
theorem d_Ro_findQuotient_12 : decode prog_7_method_9_code 12 = .ok (.invokestatic 32, 3) := by decide +kernel
theorem d_Ro_findQuotient_15 : decode prog_7_method_9_code 15 = .ok (.ifCond .eq 5, 3) := by decide +kernel
theorem d_Ro_findQuotient_18 : decode prog_7_method_9_code 18 = .ok (.iconst 0, 1) := by decide +kernel
theorem d_Ro_findQuotient_19 : decode prog_7_method_9_code 19 = .ok (.ireturn, 1) := by decide +kernel
theorem d_Ro_findQuotient_20 : decode prog_7_method_9_code 20 = .ok (.aload_n 2, 1) := by decide +kernel
theorem d_Ro_findQuotient_21 : decode prog_7_method_9_code 21 = .ok (.lconst 0, 1) := by decide +kernel
theorem d_Ro_findQuotient_22 : decode prog_7_method_9_code 22 = .ok (.invokestatic 36, 3) := by decide +kernel
theorem d_Ro_findQuotient_25 : decode prog_7_method_9_code 25 = .ok (.aload_n 0, 1) := by decide +kernel
theorem d_Ro_findQuotient_26 : decode prog_7_method_9_code 26 = .ok (.aload_n 3, 1) := by decide +kernel
theorem d_Ro_findQuotient_27 : decode prog_7_method_9_code 27 = .ok (.invokestatic 42, 3) := by decide +kernel
theorem d_Ro_findQuotient_30 : decode prog_7_method_9_code 30 = .ok (.bipush 7, 2) := by decide +kernel
theorem d_Ro_findQuotient_32 : decode prog_7_method_9_code 32 = .ok (.iload 4, 2) := by decide +kernel
theorem d_Ro_findQuotient_34 : decode prog_7_method_9_code 34 = .ok (.isub, 1) := by decide +kernel
theorem d_Ro_findQuotient_35 : decode prog_7_method_9_code 35 = .ok (.istore 5, 2) := by decide +kernel
theorem d_Ro_findQuotient_37 : decode prog_7_method_9_code 37 = .ok (.iload 5, 2) := by decide +kernel
theorem d_Ro_findQuotient_39 : decode prog_7_method_9_code 39 = .ok (.ifCond .lt 96, 3) := by decide +kernel
theorem d_Ro_findQuotient_42 : decode prog_7_method_9_code 42 = .ok (.aload_n 3, 1) := by decide +kernel
theorem d_Ro_findQuotient_43 : decode prog_7_method_9_code 43 = .ok (.iload 5, 2) := by decide +kernel
theorem d_Ro_findQuotient_45 : decode prog_7_method_9_code 45 = .ok (.iload 4, 2) := by decide +kernel
theorem d_Ro_findQuotient_47 : decode prog_7_method_9_code 47 = .ok (.iadd, 1) := by decide +kernel
theorem d_Ro_findQuotient_48 : decode prog_7_method_9_code 48 = .ok (.laload, 1) := by decide +kernel
theorem d_Ro_findQuotient_49 : decode prog_7_method_9_code 49 = .ok (.aload_n 1, 1) := by decide +kernel
theorem d_Ro_findQuotient_50 : decode prog_7_method_9_code 50 = .ok (.iload 4, 2) := by decide +kernel
theorem d_Ro_findQuotient_52 : decode prog_7_method_9_code 52 = .ok (.laload, 1) := by decide +kernel
theorem d_Ro_findQuotient_53 : decode prog_7_method_9_code 53 = .ok (.ldiv, 1) := by decide +kernel
theorem d_Ro_findQuotient_54 : decode prog_7_method_9_code 54 = .ok (.lstore 6, 2) := by decide +kernel
theorem d_Ro_findQuotient_56 : decode prog_7_method_9_code 56 = .ok (.lload 6, 2) := by decide +kernel
theorem d_Ro_findQuotient_58 : decode prog_7_method_9_code 58 = .ok (.ldc2_w 46, 3) := by decide +kernel
theorem d_Ro_findQuotient_61 : decode prog_7_method_9_code 61 = .ok (.lcmp, 1) := by decide +kernel
theorem d_Ro_findQuotient_62 : decode prog_7_method_9_code 62 = .ok (.ifCond .lt 12, 3) := by decide +kernel
theorem d_Ro_findQuotient_65 : decode prog_7_method_9_code 65 = .ok (.lload 6, 2) := by decide +kernel
theorem d_Ro_findQuotient_67 : decode prog_7_method_9_code 67 = .ok (.ldc2_w 48, 3) := by decide +kernel
theorem d_Ro_findQuotient_70 : decode prog_7_method_9_code 70 = .ok (.lcmp, 1) := by decide +kernel
theorem d_Ro_findQuotient_71 : decode prog_7_method_9_code 71 = .ok (.ifCond .le 5, 3) := by decide +kernel
theorem d_Ro_findQuotient_74 : decode prog_7_method_9_code 74 = .ok (.iconst 0, 1) := by decide +kernel
theorem d_Ro_findQuotient_75 : decode prog_7_method_9_code 75 = .ok (.ireturn, 1) := by decide +kernel
theorem d_Ro_findQuotient_76 : decode prog_7_method_9_code 76 = .ok (.iconst 0, 1) := by decide +kernel
theorem d_Ro_findQuotient_77 : decode prog_7_method_9_code 77 = .ok (.istore 8, 2) := by decide +kernel
theorem d_Ro_findQuotient_79 : decode prog_7_method_9_code 79 = .ok (.iload 8, 2) := by decide +kernel
theorem d_Ro_findQuotient_81 : decode prog_7_method_9_code 81 = .ok (.iload 4, 2) := by decide +kernel
theorem d_Ro_findQuotient_83 : decode prog_7_method_9_code 83 = .ok (.if_icmp .gt 26, 3) := by decide +kernel
theorem d_Ro_findQuotient_86 : decode prog_7_method_9_code 86 = .ok (.aload_n 3, 1) := by decide +kernel
theorem d_Ro_findQuotient_87 : decode prog_7_method_9_code 87 = .ok (.iload 5, 2) := by decide +kernel
theorem d_Ro_findQuotient_89 : decode prog_7_method_9_code 89 = .ok (.iload 8, 2) := by decide +kernel
theorem d_Ro_findQuotient_91 : decode prog_7_method_9_code 91 = .ok (.iadd, 1) := by decide +kernel
theorem d_Ro_findQuotient_92 : decode prog_7_method_9_code 92 = .ok (.dup2, 1) := by decide +kernel
theorem d_Ro_findQuotient_93 : decode prog_7_method_9_code 93 = .ok (.laload, 1) := by decide +kernel
theorem d_Ro_findQuotient_94 : decode prog_7_method_9_code 94 = .ok (.lload 6, 2) := by decide +kernel
theorem d_Ro_findQuotient_96 : decode prog_7_method_9_code 96 = .ok (.aload_n 1, 1) := by decide +kernel
theorem d_Ro_findQuotient_97 : decode prog_7_method_9_code 97 = .ok (.iload 8, 2) := by decide +kernel
theorem d_Ro_findQuotient_99 : decode prog_7_method_9_code 99 = .ok (.laload, 1) := by decide +kernel
theorem d_Ro_findQuotient_100 : decode prog_7_method_9_code 100 = .ok (.lmul, 1) := by decide +kernel
theorem d_Ro_findQuotient_101 : decode prog_7_method_9_code 101 = .ok (.lsub, 1) := by decide +kernel
theorem d_Ro_findQuotient_102 : decode prog_7_method_9_code 102 = .ok (.lastore, 1) := by decide +kernel
theorem d_Ro_findQuotient_103 : decode prog_7_method_9_code 103 = .ok (.iinc 8 1, 3) := by decide +kernel
theorem d_Ro_findQuotient_106 : decode prog_7_method_9_code 106 = .ok (.goto (-27), 3) := by decide +kernel
theorem d_Ro_findQuotient_109 : decode prog_7_method_9_code 109 = .ok (.aload_n 3, 1) := by decide +kernel
theorem d_Ro_findQuotient_110 : decode prog_7_method_9_code 110 = .ok (.iload 5, 2) := by decide +kernel
theorem d_Ro_findQuotient_112 : decode prog_7_method_9_code 112 = .ok (.iload 4, 2) := by decide +kernel
theorem d_Ro_findQuotient_114 : decode prog_7_method_9_code 114 = .ok (.iadd, 1) := by decide +kernel
theorem d_Ro_findQuotient_115 : decode prog_7_method_9_code 115 = .ok (.laload, 1) := by decide +kernel
theorem d_Ro_findQuotient_116 : decode prog_7_method_9_code 116 = .ok (.lconst 0, 1) := by decide +kernel
theorem d_Ro_findQuotient_117 : decode prog_7_method_9_code 117 = .ok (.lcmp, 1) := by decide +kernel
theorem d_Ro_findQuotient_118 : decode prog_7_method_9_code 118 = .ok (.ifCond .eq 5, 3) := by decide +kernel
theorem d_Ro_findQuotient_121 : decode prog_7_method_9_code 121 = .ok (.iconst 0, 1) := by decide +kernel
theorem d_Ro_findQuotient_122 : decode prog_7_method_9_code 122 = .ok (.ireturn, 1) := by decide +kernel
theorem d_Ro_findQuotient_123 : decode prog_7_method_9_code 123 = .ok (.aload_n 2, 1) := by decide +kernel
theorem d_Ro_findQuotient_124 : decode prog_7_method_9_code 124 = .ok (.iload 5, 2) := by decide +kernel
theorem d_Ro_findQuotient_126 : decode prog_7_method_9_code 126 = .ok (.lload 6, 2) := by decide +kernel
theorem d_Ro_findQuotient_128 : decode prog_7_method_9_code 128 = .ok (.lastore, 1) := by decide +kernel
theorem d_Ro_findQuotient_129 : decode prog_7_method_9_code 129 = .ok (.iinc 5 (-1), 3) := by decide +kernel
theorem d_Ro_findQuotient_132 : decode prog_7_method_9_code 132 = .ok (.goto (-95), 3) := by decide +kernel
theorem d_Ro_findQuotient_135 : decode prog_7_method_9_code 135 = .ok (.aload_n 3, 1) := by decide +kernel
theorem d_Ro_findQuotient_136 : decode prog_7_method_9_code 136 = .ok (.invokestatic 9, 3) := by decide +kernel
theorem d_Ro_findQuotient_139 : decode prog_7_method_9_code 139 = .ok (.ifCond .ge 7, 3) := by decide +kernel
theorem d_Ro_findQuotient_142 : decode prog_7_method_9_code 142 = .ok (.iconst 1, 1) := by decide +kernel
theorem d_Ro_findQuotient_143 : decode prog_7_method_9_code 143 = .ok (.goto 4, 3) := by decide +kernel
theorem d_Ro_findQuotient_146 : decode prog_7_method_9_code 146 = .ok (.iconst 0, 1) := by decide +kernel
theorem d_Ro_findQuotient_147 : decode prog_7_method_9_code 147 = .ok (.ireturn, 1) := by decide +kernel
def B_Ro_findQuotient_79 (P : Int32 → zM → Prop) (k37 : Int32 → zM → Prop) (a1 : Nat) (a2 : Nat) (a3 : Nat) (v4 : Int32) (v5 : Int32) (v6 : Int64) (k79 : Int32 → zM → Prop) (v8 : Int32) (M : zM) : Prop := (v4 < v8 → vp_in (v5 + v4) (zlong a3) ∧ ((M a3 (v5 + v4).toNatClampNeg) = (0 : Int64) → vp_in v5 (zlong a2) ∧ ∀ M18 : zM, M18 = zput M a2 v5.toNatClampNeg v6 → k37 (v5 + (-1 : Int32)) M18) ∧ (¬ (M a3 (v5 + v4).toNatClampNeg) = (0 : Int64) → narrow .boolean (.int (0 : Int32)) = .int (0 : Int32) ∧ P (0 : Int32) M)) ∧ (¬ v4 < v8 → vp_in (v5 + v8) (zlong a3) ∧ vp_in v8 (zlong a1) ∧ vp_in (v5 + v8) (zlong a3) ∧ ∀ M19 : zM, M19 = zput M a3 (v5 + v8).toNatClampNeg ((M a3 (v5 + v8).toNatClampNeg) - (v6 * (M a1 v8.toNatClampNeg))) → k79 (v8 + (1 : Int32)) M19)
def L_Ro_findQuotient_79 (P : Int32 → zM → Prop) (k37 : Int32 → zM → Prop) (a1 : Nat) (a2 : Nat) (a3 : Nat) (v4 : Int32) (v5 : Int32) (v6 : Int64) (n : Nat) : Int32 → zM → Prop := Nat.rec (fun _ _ => False) (fun _ k => B_Ro_findQuotient_79 P k37 a1 a2 a3 v4 v5 v6 k) n
def B_Ro_findQuotient_37 (P : Int32 → zM → Prop) (a1 : Nat) (a2 : Nat) (a3 : Nat) (v4 : Int32) (k37 : Int32 → zM → Prop) (v5 : Int32) (M : zM) : Prop := (v5 < 0 → w_Ro_degreeOf a3 M (fun r14 => (0 ≤ r14 → narrow .boolean (.int (0 : Int32)) = .int (0 : Int32) ∧ P (0 : Int32) M) ∧ (¬ 0 ≤ r14 → narrow .boolean (.int (1 : Int32)) = .int (1 : Int32) ∧ P (1 : Int32) M))) ∧ (¬ v5 < 0 → vp_in (v5 + v4) (zlong a3) ∧ vp_in v4 (zlong a1) ∧ ¬ (M a1 v4.toNatClampNeg) = 0 ∧ ∀ x17 : Int64, x17 = (M a3 (v5 + v4).toNatClampNeg) / (M a1 v4.toNatClampNeg) → (x17 < (-100000000 : Int64) → narrow .boolean (.int (0 : Int32)) = .int (0 : Int32) ∧ P (0 : Int32) M) ∧ (¬ x17 < (-100000000 : Int64) → (x17 ≤ (100000000 : Int64) → ∃ n, L_Ro_findQuotient_79 P k37 a1 a2 a3 v4 v5 x17 n (0 : Int32) M) ∧ (¬ x17 ≤ (100000000 : Int64) → narrow .boolean (.int (0 : Int32)) = .int (0 : Int32) ∧ P (0 : Int32) M)))
def L_Ro_findQuotient_37 (P : Int32 → zM → Prop) (a1 : Nat) (a2 : Nat) (a3 : Nat) (v4 : Int32) (n : Nat) : Int32 → zM → Prop := Nat.rec (fun _ _ => False) (fun _ k => B_Ro_findQuotient_37 P a1 a2 a3 v4 k) n
def w_Ro_findQuotient (a0 : Nat) (a1 : Nat) (a2 : Nat) (a3 : Nat) (M : zM) (P : Int32 → zM → Prop) : Prop := w_Ro_degreeOf a1 M (fun r1 => (r1 < 0 → narrow .boolean (.int (0 : Int32)) = .int (0 : Int32) ∧ P (0 : Int32) M) ∧ (¬ r1 < 0 → w_Ro_isWide a1 M (fun r4 => (r4 = 0 → w_Ar_fillJ a2 (0 : Int64) M (fun M8 => w_Ro_copyInto a0 a3 M8 (fun M11 => ∀ x13 : Int32, x13 = (7 : Int32) - r1 → ∃ n, L_Ro_findQuotient_37 P a1 a2 a3 r1 n x13 M11))) ∧ (¬ r4 = 0 → narrow .boolean (.int (0 : Int32)) = .int (0 : Int32) ∧ P (0 : Int32) M))))
def ws_Ro_findQuotient : List Cond := .code y_Ro_findQuotient prog_7_method_9_code 9 (Option.some Jvm.ClassFile.FieldType.boolean) :: zall
def rm_Ro_findQuotient : Room := { frames := 2, cells := 0, slots := 0, locals := 59 }
theorem hd_Ro_findQuotient : y_Ro_findQuotient.cls ≠ "java/lang/invoke/MethodHandle" ∧ y_Ro_findQuotient.cls ≠ "java/lang/invoke/VarHandle" ∧ (parseMethodDescriptor y_Ro_findQuotient.desc).map (fun d => d.parameters.length) = some 4 := by decide +kernel
set_option maxHeartbeats 4000000 in
set_option maxRecDepth 100000 in
theorem c_Ro_findQuotient (l : Launch) (G : zG) (b : Nat) (a0 : Nat) (a1 : Nat) (a2 : Nat) (a3 : Nat) (M : zM) (N : zN) {P : Int32 → zM → Prop} (hw : w_Ro_findQuotient a0 a1 a2 a3 M P) : Met l y_Ro_findQuotient ws_Ro_findQuotient rm_Ro_findQuotient (zPc G b M N [.ref (b + a0), .ref (b + a1), .ref (b + a2), .ref (b + a3)]) (zQi G b (fun r M' N' => P r M' ∧ N' = N)) 0 0 (zA b) := by
  refine Met.ofW (cc := prog_7_method_9_code) (maxL := 9) (ret := (Option.some Jvm.ClassFile.FieldType.boolean)) (by decide) rfl ?_
  intro p e s m args below meth c s₁ B hml hv
  obtain ⟨rfl, hZ, hK, hT⟩ := hv
  have hx := B.exec
  have hb := B.bytes
  have hr := B.returns
  have hts := atoms_spec (ws := ws_Ro_findQuotient) B.pre
  have hta : ∀ w ∈ zall, w.before ([.ref (b + a0), .ref (b + a1), .ref (b + a2), .ref (b + a3)] : List Value).toArray s = true := fun w h => hts w (List.mem_cons_of_mem _ h)
  have hown : s.vm.findClass R_Ro = some m.cls := findClass_of_methodNamed B.named
  have hlocks := B.notSynchronized
  have hS : va_S (zA b) s.heap s.heap [] := va_S.rf
  have hl := lv_entry ([.ref (b + a0), .ref (b + a1), .ref (b + a2), .ref (b + a3)]) (n := 9) (Nat.le_of_ble_eq_true rfl)
  rw [lg_entry_eq]
  generalize (lg_sl ([.ref (b + a0), .ref (b + a1), .ref (b + a2), .ref (b + a3)]) ++ List.replicate (9 - (lg_sl ([.ref (b + a0), .ref (b + a1), .ref (b + a2), .ref (b + a3)])).length) Slot.unset).toArray = ls at hl ⊢
  have hl : lv_has ls 9 [(0, .ref (b + a0)), (1, .ref (b + a1)), (2, .ref (b + a2)), (3, .ref (b + a3))] := hl
  have lp37 : ∀ (v4 : Int32) (n : Nat) (v5 : Int32) (M : zM) (H : Heap) (ls : Array Slot) (locs : List Loc), va_P G.1 zCl (zws G b M N) H → va_S (zA b) s.heap H locs → lv_has ls 9 [(1, .ref (b + a1)), (2, .ref (b + a2)), (3, .ref (b + a3)), (4, .int v4), (5, .int v5)] → L_Ro_findQuotient_37 P a1 a2 a3 v4 n v5 M → W p l e (headSpec ws_Ro_findQuotient rm_Ro_findQuotient).room s m ([.ref (b + a0), .ref (b + a1), .ref (b + a2), .ref (b + a3)] : List Value).toArray below meth c H locs 0 0 (MQ below (zQi G b (fun r M' N' => P r M' ∧ N' = N)) ([.ref (b + a0), .ref (b + a1), .ref (b + a2), .ref (b + a3)] : List Value).toArray s 0 0 (zA b)) (F0 m 37 ls []) := by
    intro v4 n
    induction n with
    | zero => intro v5 M H ls locs hZ hS hl hw; exact False.elim hw
    | succ n37 ih37 =>
      have lp79 : ∀ (v5 : Int32) (v6 : Int64) (n : Nat) (v8 : Int32) (M : zM) (H : Heap) (ls : Array Slot) (locs : List Loc), va_P G.1 zCl (zws G b M N) H → va_S (zA b) s.heap H locs → lv_has ls 9 [(1, .ref (b + a1)), (2, .ref (b + a2)), (3, .ref (b + a3)), (4, .int v4), (5, .int v5), (6, .long v6), (8, .int v8)] → L_Ro_findQuotient_79 P (L_Ro_findQuotient_37 P a1 a2 a3 v4 n37) a1 a2 a3 v4 v5 v6 n v8 M → W p l e (headSpec ws_Ro_findQuotient rm_Ro_findQuotient).room s m ([.ref (b + a0), .ref (b + a1), .ref (b + a2), .ref (b + a3)] : List Value).toArray below meth c H locs 0 0 (MQ below (zQi G b (fun r M' N' => P r M' ∧ N' = N)) ([.ref (b + a0), .ref (b + a1), .ref (b + a2), .ref (b + a3)] : List Value).toArray s 0 0 (zA b)) (F0 m 79 ls []) := by
        intro v5 v6 n
        induction n with
        | zero => intro v8 M H ls locs hZ hS hl hw; exact False.elim hw
        | succ n79 ih79 =>
          intro v8 M H ls locs hZ hS hl hw
          have hw : B_Ro_findQuotient_79 P (L_Ro_findQuotient_37 P a1 a2 a3 v4 n37) a1 a2 a3 v4 v5 v6 (L_Ro_findQuotient_79 P (L_Ro_findQuotient_37 P a1 a2 a3 v4 n37) a1 a2 a3 v4 v5 v6 n79) v8 M := hw
          unfold B_Ro_findQuotient_79 at hw
          refine lv_iload (pc := 79) hx hb d_Ro_findQuotient_79 (lv_at hl 6 rfl) ?_
          refine lv_iload (pc := 81) hx hb d_Ro_findQuotient_81 (lv_at hl 3 rfl) ?_
          refine lv_icmp_gt (pc := 83) (tgt := 109) hx hb d_Ro_findQuotient_83 (by decide) (fun hc => ?_) (fun hc => ?_)
          · have hw := hw.1 hc
            refine lv_aload_n (pc := 109) hx hb d_Ro_findQuotient_109 rfl (lv_at hl 2 rfl) ?_
            refine lv_iload (pc := 110) hx hb d_Ro_findQuotient_110 (lv_at hl 4 rfl) ?_
            refine lv_iload (pc := 112) hx hb d_Ro_findQuotient_112 (lv_at hl 3 rfl) ?_
            refine lv_iadd (pc := 114) hx hb d_Ro_findQuotient_114 ?_
            obtain ⟨hc, hw⟩ := hw
            refine z_lald (pc := 115) hx hb hK hZ hc d_Ro_findQuotient_115 ?_
            refine lv_lconst (pc := 116) (v := 0) hx hb d_Ro_findQuotient_116 (by decide) ?_
            refine z_lc_eq (pc := 117) (tgt := 123) hx hb d_Ro_findQuotient_117 d_Ro_findQuotient_118 (by decide) (fun hc => ?_) (fun hc => ?_)
            · have hw := hw.1 hc
              refine lv_aload_n (pc := 123) hx hb d_Ro_findQuotient_123 rfl (lv_at hl 1 rfl) ?_
              refine lv_iload (pc := 124) hx hb d_Ro_findQuotient_124 (lv_at hl 4 rfl) ?_
              refine lv_lload (pc := 126) hx hb d_Ro_findQuotient_126 (lv_at hl 5 rfl) ?_
              obtain ⟨hc, hw⟩ := hw
              refine z_last (pc := 128) hx hb hK hZ hS hc d_Ro_findQuotient_128 (fun M18 H locs hM18 hZ hS => ?_)
              have hw := hw M18 hM18
              refine lv_iinc (pc := 129) (k := 4) (v := v5 + (-1 : Int32)) (lv' := [(5, .int (v5 + (-1 : Int32))), (1, .ref (b + a1)), (2, .ref (b + a2)), (3, .ref (b + a3)), (4, .int v4), (6, .long v6), (8, .int v8)]) hx hb d_Ro_findQuotient_129 hl rfl (by rfl) (by decide) rfl (fun ls hl => ?_)
              refine lv_goto (pc := 132) (tgt := 37) hx hb d_Ro_findQuotient_132 (by decide) ?_
              exact ih37 (v5 + (-1 : Int32)) M18 _ _ _ hZ hS (lv_sub hl [1, 2, 3, 4, 0] rfl) hw
            · have hw := hw.2 hc
              refine lv_iconst (pc := 121) (v := 0) hx hb d_Ro_findQuotient_121 (by decide) ?_
              exact z_zret hx hb hr hlocks hK hT hZ hS ⟨hw.1, ⟨hw.2, rfl⟩⟩ d_Ro_findQuotient_122
          · have hw := hw.2 hc
            refine lv_aload_n (pc := 86) hx hb d_Ro_findQuotient_86 rfl (lv_at hl 2 rfl) ?_
            refine lv_iload (pc := 87) hx hb d_Ro_findQuotient_87 (lv_at hl 4 rfl) ?_
            refine lv_iload (pc := 89) hx hb d_Ro_findQuotient_89 (lv_at hl 6 rfl) ?_
            refine lv_iadd (pc := 91) hx hb d_Ro_findQuotient_91 ?_
            refine lv_dup2_11 (pc := 92) hx hb d_Ro_findQuotient_92 rfl rfl ?_
            obtain ⟨hc, hw⟩ := hw
            refine z_lald (pc := 93) hx hb hK hZ hc d_Ro_findQuotient_93 ?_
            refine lv_lload (pc := 94) hx hb d_Ro_findQuotient_94 (lv_at hl 5 rfl) ?_
            refine lv_aload_n (pc := 96) hx hb d_Ro_findQuotient_96 rfl (lv_at hl 0 rfl) ?_
            refine lv_iload (pc := 97) hx hb d_Ro_findQuotient_97 (lv_at hl 6 rfl) ?_
            obtain ⟨hc, hw⟩ := hw
            refine z_lald (pc := 99) hx hb hK hZ hc d_Ro_findQuotient_99 ?_
            refine lv_lmul (pc := 100) hx hb d_Ro_findQuotient_100 ?_
            refine lv_lsub (pc := 101) hx hb d_Ro_findQuotient_101 ?_
            obtain ⟨hc, hw⟩ := hw
            refine z_last (pc := 102) hx hb hK hZ hS hc d_Ro_findQuotient_102 (fun M19 H locs hM19 hZ hS => ?_)
            have hw := hw M19 hM19
            refine lv_iinc (pc := 103) (k := 6) (v := v8 + (1 : Int32)) (lv' := [(8, .int (v8 + (1 : Int32))), (1, .ref (b + a1)), (2, .ref (b + a2)), (3, .ref (b + a3)), (4, .int v4), (5, .int v5), (6, .long v6)]) hx hb d_Ro_findQuotient_103 hl rfl (by rfl) (by decide) rfl (fun ls hl => ?_)
            refine lv_goto (pc := 106) (tgt := 79) hx hb d_Ro_findQuotient_106 (by decide) ?_
            exact ih79 (v8 + (1 : Int32)) M19 _ _ _ hZ hS (lv_sub hl [1, 2, 3, 4, 5, 6, 0] rfl) hw
      intro v5 M H ls locs hZ hS hl hw
      have hw : B_Ro_findQuotient_37 P a1 a2 a3 v4 (L_Ro_findQuotient_37 P a1 a2 a3 v4 n37) v5 M := hw
      unfold B_Ro_findQuotient_37 at hw
      refine lv_iload (pc := 37) hx hb d_Ro_findQuotient_37 (lv_at hl 4 rfl) ?_
      refine lv_if_lt (pc := 39) (tgt := 135) hx hb d_Ro_findQuotient_39 (by decide) (fun hc => ?_) (fun hc => ?_)
      · have hw := hw.1 hc
        refine lv_aload_n (pc := 135) hx hb d_Ro_findQuotient_135 rfl (lv_at hl 2 rfl) ?_
        refine z_calli (pc := 136) (va_runS (As := [.ref (b + a3)]) (rest := []) ⟨hx, hb, hml, hown, hts⟩ (c_Ro_degreeOf l G b a3 M N hw) (va_cwS 1 hts (z_good (zgS wd406 wd312 wd13 wd313)) rfl rfl rfl hd_Ro_degreeOf ⟨Nat.le_of_ble_eq_true rfl, Nat.le_of_ble_eq_true rfl⟩) (z_preS hZ hK hT hS) rfl rfl hl.1 rfl (lv_room (Nat.le_of_ble_eq_true rfl)) d_Ro_findQuotient_136 ⟨Nat.le_of_ble_eq_true rfl, Nat.le_of_ble_eq_true rfl⟩) hS (fun r14 M15 N16 H locs hw hZ hS => ?_)
        obtain ⟨hw, eM15, eN16⟩ := hw
        rw [eM15, eN16] at hZ
        refine lv_if_ge (pc := 139) (tgt := 146) hx hb d_Ro_findQuotient_139 (by decide) (fun hc => ?_) (fun hc => ?_)
        · have hw := hw.1 hc
          refine lv_iconst (pc := 146) (v := 0) hx hb d_Ro_findQuotient_146 (by decide) ?_
          exact z_zret hx hb hr hlocks hK hT hZ hS ⟨hw.1, ⟨hw.2, rfl⟩⟩ d_Ro_findQuotient_147
        · have hw := hw.2 hc
          refine lv_iconst (pc := 142) (v := 1) hx hb d_Ro_findQuotient_142 (by decide) ?_
          refine lv_goto (pc := 143) (tgt := 147) hx hb d_Ro_findQuotient_143 (by decide) ?_
          exact z_zret hx hb hr hlocks hK hT hZ hS ⟨hw.1, ⟨hw.2, rfl⟩⟩ d_Ro_findQuotient_147
      · have hw := hw.2 hc
        refine lv_aload_n (pc := 42) hx hb d_Ro_findQuotient_42 rfl (lv_at hl 2 rfl) ?_
        refine lv_iload (pc := 43) hx hb d_Ro_findQuotient_43 (lv_at hl 4 rfl) ?_
        refine lv_iload (pc := 45) hx hb d_Ro_findQuotient_45 (lv_at hl 3 rfl) ?_
        refine lv_iadd (pc := 47) hx hb d_Ro_findQuotient_47 ?_
        obtain ⟨hc, hw⟩ := hw
        refine z_lald (pc := 48) hx hb hK hZ hc d_Ro_findQuotient_48 ?_
        refine lv_aload_n (pc := 49) hx hb d_Ro_findQuotient_49 rfl (lv_at hl 0 rfl) ?_
        refine lv_iload (pc := 50) hx hb d_Ro_findQuotient_50 (lv_at hl 3 rfl) ?_
        obtain ⟨hc, hw⟩ := hw
        refine z_lald (pc := 52) hx hb hK hZ hc d_Ro_findQuotient_52 ?_
        obtain ⟨hc, hw⟩ := hw
        refine lv_ldiv (pc := 53) hx hb d_Ro_findQuotient_53 hc ?_
        refine lv_topl (fun x17 hx17 => ?_)
        have hw := hw x17 hx17
        refine lv_lstore (pc := 54) (lv' := [(6, .long x17), (1, .ref (b + a1)), (2, .ref (b + a2)), (3, .ref (b + a3)), (4, .int v4), (5, .int v5)]) hx hb d_Ro_findQuotient_54 hl (by decide) rfl (fun ls hl => ?_)
        refine lv_lload (pc := 56) hx hb d_Ro_findQuotient_56 (lv_at hl 0 rfl) ?_
        refine lv_ldc2 (pc := 58) (v := -100000000) hx hb hown (hta _ wd410) d_Ro_findQuotient_58 ?_
        refine z_lc_lt (pc := 61) (tgt := 74) hx hb d_Ro_findQuotient_61 d_Ro_findQuotient_62 (by decide) (fun hc => ?_) (fun hc => ?_)
        · have hw := hw.1 hc
          refine lv_iconst (pc := 74) (v := 0) hx hb d_Ro_findQuotient_74 (by decide) ?_
          exact z_zret hx hb hr hlocks hK hT hZ hS ⟨hw.1, ⟨hw.2, rfl⟩⟩ d_Ro_findQuotient_75
        · have hw := hw.2 hc
          refine lv_lload (pc := 65) hx hb d_Ro_findQuotient_65 (lv_at hl 0 rfl) ?_
          refine lv_ldc2 (pc := 67) (v := 100000000) hx hb hown (hta _ wd411) d_Ro_findQuotient_67 ?_
          refine z_lc_le (pc := 70) (tgt := 76) hx hb d_Ro_findQuotient_70 d_Ro_findQuotient_71 (by decide) (fun hc => ?_) (fun hc => ?_)
          · have hw := hw.1 hc
            refine lv_iconst (pc := 76) (v := 0) hx hb d_Ro_findQuotient_76 (by decide) ?_
            refine lv_istore (pc := 77) (lv' := [(8, .int (0 : Int32)), (6, .long x17), (1, .ref (b + a1)), (2, .ref (b + a2)), (3, .ref (b + a3)), (4, .int v4), (5, .int v5)]) hx hb d_Ro_findQuotient_77 hl (by decide) rfl (fun ls hl => ?_)
            obtain ⟨n, hw⟩ := hw
            exact lp79 v5 x17 n (0 : Int32) M _ _ _ hZ hS (lv_sub hl [2, 3, 4, 5, 6, 1, 0] rfl) hw
          · have hw := hw.2 hc
            refine lv_iconst (pc := 74) (v := 0) hx hb d_Ro_findQuotient_74 (by decide) ?_
            exact z_zret hx hb hr hlocks hK hT hZ hS ⟨hw.1, ⟨hw.2, rfl⟩⟩ d_Ro_findQuotient_75
  unfold w_Ro_findQuotient at hw
  refine lv_aload_n (pc := 0) hx hb d_Ro_findQuotient_0 rfl (lv_at hl 1 rfl) ?_
  refine z_calli (pc := 1) (va_runS (As := [.ref (b + a1)]) (rest := []) ⟨hx, hb, hml, hown, hts⟩ (c_Ro_degreeOf l G b a1 M N hw) (va_cwS 1 hts (z_good (zgS wd406 wd312 wd13 wd313)) rfl rfl rfl hd_Ro_degreeOf ⟨Nat.le_of_ble_eq_true rfl, Nat.le_of_ble_eq_true rfl⟩) (z_preS hZ hK hT hS) rfl rfl hl.1 rfl (lv_room (Nat.le_of_ble_eq_true rfl)) d_Ro_findQuotient_1 ⟨Nat.le_of_ble_eq_true rfl, Nat.le_of_ble_eq_true rfl⟩) hS (fun r1 M2 N3 H locs hw hZ hS => ?_)
  obtain ⟨hw, eM2, eN3⟩ := hw
  rw [eM2, eN3] at hZ
  refine lv_istore (pc := 4) (lv' := [(4, .int r1), (0, .ref (b + a0)), (1, .ref (b + a1)), (2, .ref (b + a2)), (3, .ref (b + a3))]) hx hb d_Ro_findQuotient_4 hl (by decide) rfl (fun ls hl => ?_)
  refine lv_iload (pc := 6) hx hb d_Ro_findQuotient_6 (lv_at hl 0 rfl) ?_
  refine lv_if_lt (pc := 8) (tgt := 18) hx hb d_Ro_findQuotient_8 (by decide) (fun hc => ?_) (fun hc => ?_)
  · have hw := hw.1 hc
    refine lv_iconst (pc := 18) (v := 0) hx hb d_Ro_findQuotient_18 (by decide) ?_
    exact z_zret hx hb hr hlocks hK hT hZ hS ⟨hw.1, ⟨hw.2, rfl⟩⟩ d_Ro_findQuotient_19
  · have hw := hw.2 hc
    refine lv_aload_n (pc := 11) hx hb d_Ro_findQuotient_11 rfl (lv_at hl 2 rfl) ?_
    refine z_calli (pc := 12) (va_runS (As := [.ref (b + a1)]) (rest := []) ⟨hx, hb, hml, hown, hts⟩ (c_Ro_isWide l G b a1 M N hw) (va_cwS 1 hts (z_good (zgS wd407 wd408 wd13 wd409)) rfl rfl rfl hd_Ro_isWide ⟨Nat.le_of_ble_eq_true rfl, Nat.le_of_ble_eq_true rfl⟩) (z_preS hZ hK hT hS) rfl rfl hl.1 rfl (lv_room (Nat.le_of_ble_eq_true rfl)) d_Ro_findQuotient_12 ⟨Nat.le_of_ble_eq_true rfl, Nat.le_of_ble_eq_true rfl⟩) hS (fun r4 M5 N6 H locs hw hZ hS => ?_)
    obtain ⟨hw, eM5, eN6⟩ := hw
    rw [eM5, eN6] at hZ
    refine lv_if_eq (pc := 15) (tgt := 20) hx hb d_Ro_findQuotient_15 (by decide) (fun hc => ?_) (fun hc => ?_)
    · have hw := hw.1 hc
      refine lv_aload_n (pc := 20) hx hb d_Ro_findQuotient_20 rfl (lv_at hl 3 rfl) ?_
      refine lv_lconst (pc := 21) (v := 0) hx hb d_Ro_findQuotient_21 (by decide) ?_
      refine z_callv (pc := 22) (va_runS (As := [.ref (b + a2), .long (0 : Int64)]) (rest := []) ⟨hx, hb, hml, hown, hts⟩ (c_Ar_fillJ l G b a2 (0 : Int64) M N hw) (va_cwS 2 hts (z_good (zgS wd412 wd337 wd14 wd338)) rfl rfl rfl hd_Ar_fillJ ⟨Nat.le_of_ble_eq_true rfl, Nat.le_of_ble_eq_true rfl⟩) (z_preS hZ hK hT hS) rfl rfl hl.1 rfl (lv_room (Nat.le_of_ble_eq_true rfl)) d_Ro_findQuotient_22 ⟨Nat.le_of_ble_eq_true rfl, Nat.le_of_ble_eq_true rfl⟩) hS (fun M8 N9 H locs hw hZ hS => ?_)
      obtain ⟨hw, eN9⟩ := hw
      rw [eN9] at hZ
      refine lv_aload_n (pc := 25) hx hb d_Ro_findQuotient_25 rfl (lv_at hl 1 rfl) ?_
      refine lv_aload_n (pc := 26) hx hb d_Ro_findQuotient_26 rfl (lv_at hl 4 rfl) ?_
      refine z_callv (pc := 27) (va_runS (As := [.ref (b + a0), .ref (b + a3)]) (rest := []) ⟨hx, hb, hml, hown, hts⟩ (c_Ro_copyInto l G b a0 a3 M8 N hw) (va_cwS 2 hts (z_good (zgS wd413 wd363 wd13 wd364)) rfl rfl rfl hd_Ro_copyInto ⟨Nat.le_of_ble_eq_true rfl, Nat.le_of_ble_eq_true rfl⟩) (z_preS hZ hK hT hS) rfl rfl hl.1 rfl (lv_room (Nat.le_of_ble_eq_true rfl)) d_Ro_findQuotient_27 ⟨Nat.le_of_ble_eq_true rfl, Nat.le_of_ble_eq_true rfl⟩) hS (fun M11 N12 H locs hw hZ hS => ?_)
      obtain ⟨hw, eN12⟩ := hw
      rw [eN12] at hZ
      refine lv_bipush (pc := 30) (v := 7) hx hb d_Ro_findQuotient_30 (by decide) ?_
      refine lv_iload (pc := 32) hx hb d_Ro_findQuotient_32 (lv_at hl 0 rfl) ?_
      refine lv_isub (pc := 34) hx hb d_Ro_findQuotient_34 ?_
      refine lv_topi (fun x13 hx13 => ?_)
      have hw := hw x13 hx13
      refine lv_istore (pc := 35) (lv' := [(5, .int x13), (4, .int r1), (0, .ref (b + a0)), (1, .ref (b + a1)), (2, .ref (b + a2)), (3, .ref (b + a3))]) hx hb d_Ro_findQuotient_35 hl (by decide) rfl (fun ls hl => ?_)
      obtain ⟨n, hw⟩ := hw
      exact lp37 r1 n x13 M11 _ _ _ hZ hS (lv_sub hl [3, 4, 5, 1, 0] rfl) hw
    · have hw := hw.2 hc
      refine lv_iconst (pc := 18) (v := 0) hx hb d_Ro_findQuotient_18 (by decide) ?_
      exact z_zret hx hb hr hlocks hK hT hZ hS ⟨hw.1, ⟨hw.2, rfl⟩⟩ d_Ro_findQuotient_19
theorem zg_IS_18 {p : Program} {l : Launch} {e : Env} {R : Room} {s : State} {m : MethodId} {args : Array Value} {below : List Frame} {meth : Method} {c : Code} {H : Heap} {locs : List Loc} {cells slots : Nat} {Q : State → Prop} {cc : ByteArray} {pc : Nat} {ls : Array Slot} {rest : List Value} {G : zG} {b : Nat} {M : zM} {N : zN} (hx : p.tables.exec = Jvm.exec) (hb : c.code = cc) (hta : ∀ w ∈ zall, w.before args s = true) (hown : s.vm.findClass R_IS = some m.cls) (hK : va_K G.1 zCl (zty G) s) (hZ : va_P G.1 zCl (zws G b M N) H) (hdg : decode cc pc = .ok (.getfield 18, 3)) (kk : W p l e R s m args below meth c H locs cells slots Q (F0 m (pc + 3) ls (.ref (b + 7) :: rest))) : W p l e R s m args below meth c H locs cells slots Q (F0 m pc ls (.ref (b + 0) :: rest)) :=
  va_get (D := G.1) (ci := 5) (v := .ref (b + 7)) (C := R_IS) (T := T_IS) (N := 7) hx hb hta hin_IS hown hK hZ 0 zo_IS rfl 2 (by decide) (hta _ wd190) (fun _ h9 => h9) rfl hdg kk
theorem zg_IS_21 {p : Program} {l : Launch} {e : Env} {R : Room} {s : State} {m : MethodId} {args : Array Value} {below : List Frame} {meth : Method} {c : Code} {H : Heap} {locs : List Loc} {cells slots : Nat} {Q : State → Prop} {cc : ByteArray} {pc : Nat} {ls : Array Slot} {rest : List Value} {G : zG} {b : Nat} {M : zM} {N : zN} (hx : p.tables.exec = Jvm.exec) (hb : c.code = cc) (hta : ∀ w ∈ zall, w.before args s = true) (hown : s.vm.findClass R_IS = some m.cls) (hK : va_K G.1 zCl (zty G) s) (hZ : va_P G.1 zCl (zws G b M N) H) (hdg : decode cc pc = .ok (.getfield 21, 3)) (kk : W p l e R s m args below meth c H locs cells slots Q (F0 m (pc + 3) ls (.ref (b + 8) :: rest))) : W p l e R s m args below meth c H locs cells slots Q (F0 m pc ls (.ref (b + 0) :: rest)) :=
  va_get (D := G.1) (ci := 5) (v := .ref (b + 8)) (C := R_IS) (T := T_IS) (N := 7) hx hb hta hin_IS hown hK hZ 0 zo_IS rfl 3 (by decide) (hta _ wd191) (fun _ h9 => h9) rfl hdg kk
theorem xat_IS_divide_38_w : ∀ w ∈ (vx_at0 R_IS 82 (zxn 4) ["java/lang/RuntimeException", "java/lang/Exception"]).filter goodWord, w ∈ lw_tbl := by decide +kernel
theorem xat_IS_divide_38_g : ∀ w ∈ Cond.classLink R_IS 80 (zxn 4) :: Cond.initialized (zxn 4) :: vx_at0 R_IS 82 (zxn 4) ["java/lang/RuntimeException", "java/lang/Exception"], vx_ot w = true := by decide +kernel
theorem xat_IS_divide_38_b : ∀ w ∈ (vx_at0 R_IS 82 (zxn 4) ["java/lang/RuntimeException", "java/lang/Exception"]).filter (fun w => !goodWord w), w ∈ Cond.castable (zxn 4) (zxn 4) :: zdec.map Cond.declares := by decide +kernel
theorem xat_IS_divide_38 {args : Array Value} {s : State} (hta : ∀ w ∈ zall, w.before args s = true) (hn : zNw s) : ∀ w ∈ vx_at0 R_IS 82 (zxn 4) ["java/lang/RuntimeException", "java/lang/Exception"], w.before args s = true :=
  vx_hat (fun w h => hta w (List.mem_filter.mpr ⟨xat_IS_divide_38_w w h, (List.mem_filter.mp h).2⟩)) xat_IS_divide_38_b (fun w h => by
    rcases List.mem_cons.mp h with rfl | h
    · exact va_Nw.use rfl (hn.1 4 (by decide) (by decide))
    · obtain ⟨y, hy, rfl⟩ := List.mem_map.mp h
      exact va_Nw.use rfl (hn.2.1 y hy))
theorem d_IS_divide_0 : decode prog_1_method_9_code 0 = .ok (.iload_n 1, 1) := by decide +kernel
theorem d_IS_divide_1 : decode prog_1_method_9_code 1 = .ok (.invokestatic 41, 3) := by decide +kernel
theorem d_IS_divide_4 : decode prog_1_method_9_code 4 = .ok (.iload_n 2, 1) := by decide +kernel
theorem d_IS_divide_5 : decode prog_1_method_9_code 5 = .ok (.invokestatic 41, 3) := by decide +kernel
theorem d_IS_divide_8 : decode prog_1_method_9_code 8 = .ok (.iload_n 3, 1) := by decide +kernel
theorem d_IS_divide_9 : decode prog_1_method_9_code 9 = .ok (.invokestatic 41, 3) := by decide +kernel
theorem d_IS_divide_12 : decode prog_1_method_9_code 12 = .ok (.aload_n 0, 1) := by decide +kernel
theorem d_IS_divide_13 : decode prog_1_method_9_code 13 = .ok (.getfield 11, 3) := by decide +kernel
theorem d_IS_divide_16 : decode prog_1_method_9_code 16 = .ok (.iload_n 2, 1) := by decide +kernel
theorem d_IS_divide_17 : decode prog_1_method_9_code 17 = .ok (.aaload, 1) := by decide +kernel
theorem d_IS_divide_18 : decode prog_1_method_9_code 18 = .ok (.aload_n 0, 1) := by decide +kernel
theorem d_IS_divide_19 : decode prog_1_method_9_code 19 = .ok (.getfield 11, 3) := by decide +kernel
theorem d_IS_divide_22 : decode prog_1_method_9_code 22 = .ok (.iload_n 3, 1) := by decide +kernel
theorem d_IS_divide_23 : decode prog_1_method_9_code 23 = .ok (.aaload, 1) := by decide +kernel
theorem d_IS_divide_24 : decode prog_1_method_9_code 24 = .ok (.aload_n 0, 1) := by decide +kernel
theorem d_IS_divide_25 : decode prog_1_method_9_code 25 = .ok (.getfield 18, 3) := by decide +kernel
theorem d_IS_divide_28 : decode prog_1_method_9_code 28 = .ok (.aload_n 0, 1) := by decide +kernel
theorem d_IS_divide_29 : decode prog_1_method_9_code 29 = .ok (.getfield 21, 3) := by decide +kernel
theorem d_IS_divide_32 : decode prog_1_method_9_code 32 = .ok (.invokestatic 76, 3) := by decide +kernel
theorem d_IS_divide_35 : decode prog_1_method_9_code 35 = .ok (.ifCond .ne 11, 3) := by decide +kernel
theorem d_IS_divide_38 : decode prog_1_method_9_code 38 = .ok (.new 80, 3) := by decide +kernel
theorem d_IS_divide_41 : decode prog_1_method_9_code 41 = .ok (.dup, 1) := by decide +kernel
theorem d_IS_divide_42 : decode prog_1_method_9_code 42 = .ok (.invokespecial 82, 3) := by decide +kernel
theorem d_IS_divide_45 : decode prog_1_method_9_code 45 = .ok (.athrow, 1) := by decide +kernel
theorem d_IS_divide_46 : decode prog_1_method_9_code 46 = .ok (.aload_n 0, 1) := by decide +kernel
theorem d_IS_divide_47 : decode prog_1_method_9_code 47 = .ok (.iload_n 1, 1) := by decide +kernel
theorem d_IS_divide_48 : decode prog_1_method_9_code 48 = .ok (.aload_n 0, 1) := by decide +kernel
theorem d_IS_divide_49 : decode prog_1_method_9_code 49 = .ok (.getfield 18, 3) := by decide +kernel
theorem d_IS_divide_52 : decode prog_1_method_9_code 52 = .ok (.invokevirtual 65, 3) := by decide +kernel
theorem d_IS_divide_55 : decode prog_1_method_9_code 55 = .ok (.ireturn, 1) := by decide +kernel
def w_IS_divide (a1 : Int32) (a2 : Int32) (a3 : Int32) (M : zM) (P : Int32 → zM → Prop) (X : Nat → zM → Prop) : Prop := w_IS_requireRegister a1  (w_IS_requireRegister a2  (w_IS_requireRegister a3  (vp_in a2 (zgn 1) ∧ vp_in a3 (zgn 1) ∧ w_Ro_findQuotient (1 + 1 + a2.toNatClampNeg) (1 + 1 + a3.toNatClampNeg) 7 8 M (fun r10 M11 => (¬ r10 = 0 → w_IS_keep a1 7 M11 (fun r13 M14 => P r13 M14) (fun k M16 => X k M16)) ∧ (r10 = 0 → X 4 M11))) (fun k => X k M)) (fun k => X k M)) (fun k => X k M)
def ws_IS_divide : List Cond := .code y_IS_divide prog_1_method_9_code 4 (Option.some Jvm.ClassFile.FieldType.int) :: zall
def rm_IS_divide : Room := { frames := 7, cells := 5, slots := 30, locals := 111 }
theorem hd_IS_divide : y_IS_divide.cls ≠ "java/lang/invoke/MethodHandle" ∧ y_IS_divide.cls ≠ "java/lang/invoke/VarHandle" ∧ (parseMethodDescriptor y_IS_divide.desc).map (fun d => d.parameters.length) = some 3 := by decide +kernel
set_option maxHeartbeats 4000000 in
set_option maxRecDepth 100000 in
theorem c_IS_divide (l : Launch) (hst : l.stackTraces = false) (G : zG) (b : Nat) (a1 : Int32) (a2 : Int32) (a3 : Int32) (M : zM) (N : zN) {P : Int32 → zM → Prop} {X : Nat → zM → Prop} (hw : w_IS_divide a1 a2 a3 M P X) : vx_Met l y_IS_divide ws_IS_divide rm_IS_divide (zPc G b M N [.ref (b + 0), .int a1, .int a2, .int a3]) (zQi G b (fun r M' N' => P r M' ∧ N' = N)) (zXC G b (fun k M' N' => X k M' ∧ N' = N)) 5 30 (zA b) := by
  refine vx_ofW (cc := prog_1_method_9_code) (maxL := 4) (ret := (Option.some Jvm.ClassFile.FieldType.int)) (by decide) rfl ?_
  intro p e s m args below meth c s₁ B hml hno hv
  obtain ⟨rfl, hZ, hK, hT⟩ := hv
  have hx := B.exec
  have hb := B.bytes
  have hr := B.returns
  have hts := atoms_spec (ws := ws_IS_divide) B.pre
  have hta : ∀ w ∈ zall, w.before ([.ref (b + 0), .int a1, .int a2, .int a3] : List Value).toArray s = true := fun w h => hts w (List.mem_cons_of_mem _ h)
  have hown : s.vm.findClass R_IS = some m.cls := findClass_of_methodNamed B.named
  have hlocks := B.notSynchronized
  have hS : va_S (zA b) s.heap s.heap [] := va_S.rf
  have hl := lv_entry ([.ref (b + 0), .int a1, .int a2, .int a3]) (n := 4) (Nat.le_of_ble_eq_true rfl)
  rw [lg_entry_eq]
  generalize (lg_sl ([.ref (b + 0), .int a1, .int a2, .int a3]) ++ List.replicate (4 - (lg_sl ([.ref (b + 0), .int a1, .int a2, .int a3])).length) Slot.unset).toArray = ls at hl ⊢
  have hl : lv_has ls 4 [(0, .ref (b + 0)), (1, .int a1), (2, .int a2), (3, .int a3)] := hl
  unfold w_IS_divide at hw
  refine lv_iload_n (pc := 0) hx hb d_IS_divide_0 rfl (lv_at hl 1 rfl) ?_
  refine z_xcallv (pc := 1) (vx_runS (As := [.int a1]) (rest := []) ⟨hx, hb, hml, hown, hts⟩ (c_IS_requireRegister l hst G b a1 M N hw) (va_cwS 1 hts (z_good (zgS wd223 wd224 wd1 wd225)) rfl rfl rfl hd_IS_requireRegister ⟨Nat.le_of_ble_eq_true rfl, Nat.le_of_ble_eq_true rfl⟩) (z_preS hZ hK hT hS) rfl rfl hl.1 rfl (lv_room (Nat.le_of_ble_eq_true rfl)) d_IS_divide_1 ⟨Nat.le_of_ble_eq_true rfl, Nat.le_of_ble_eq_true rfl⟩) hS (fun k q ce M22 N23 H locs hw hZ hS h1 h2 h3 => ?_) (fun M2 N3 H locs hw hZ hS => ?_)
  · obtain ⟨hw, eM22, eN23⟩ := hw
    rw [eM22, eN23] at hZ
    exact z_xout hno hlocks hK hT hZ hS h1 h2 h3 ⟨hw, rfl⟩ (by decide) (by decide)
  · obtain ⟨hw, eM2, eN3⟩ := hw
    rw [eM2, eN3] at hZ
    refine lv_iload_n (pc := 4) hx hb d_IS_divide_4 rfl (lv_at hl 2 rfl) ?_
    refine z_xcallv (pc := 5) (vx_runS (As := [.int a2]) (rest := []) ⟨hx, hb, hml, hown, hts⟩ (c_IS_requireRegister l hst G b a2 M N hw) (va_cwS 1 hts (z_good (zgS wd223 wd224 wd1 wd225)) rfl rfl rfl hd_IS_requireRegister ⟨Nat.le_of_ble_eq_true rfl, Nat.le_of_ble_eq_true rfl⟩) (z_preS hZ hK hT hS) rfl rfl hl.1 rfl (lv_room (Nat.le_of_ble_eq_true rfl)) d_IS_divide_5 ⟨Nat.le_of_ble_eq_true rfl, Nat.le_of_ble_eq_true rfl⟩) hS (fun k q ce M20 N21 H locs hw hZ hS h1 h2 h3 => ?_) (fun M5 N6 H locs hw hZ hS => ?_)
    · obtain ⟨hw, eM20, eN21⟩ := hw
      rw [eM20, eN21] at hZ
      exact z_xout hno hlocks hK hT hZ hS h1 h2 h3 ⟨hw, rfl⟩ (by decide) (by decide)
    · obtain ⟨hw, eM5, eN6⟩ := hw
      rw [eM5, eN6] at hZ
      refine lv_iload_n (pc := 8) hx hb d_IS_divide_8 rfl (lv_at hl 3 rfl) ?_
      refine z_xcallv (pc := 9) (vx_runS (As := [.int a3]) (rest := []) ⟨hx, hb, hml, hown, hts⟩ (c_IS_requireRegister l hst G b a3 M N hw) (va_cwS 1 hts (z_good (zgS wd223 wd224 wd1 wd225)) rfl rfl rfl hd_IS_requireRegister ⟨Nat.le_of_ble_eq_true rfl, Nat.le_of_ble_eq_true rfl⟩) (z_preS hZ hK hT hS) rfl rfl hl.1 rfl (lv_room (Nat.le_of_ble_eq_true rfl)) d_IS_divide_9 ⟨Nat.le_of_ble_eq_true rfl, Nat.le_of_ble_eq_true rfl⟩) hS (fun k q ce M18 N19 H locs hw hZ hS h1 h2 h3 => ?_) (fun M8 N9 H locs hw hZ hS => ?_)
      · obtain ⟨hw, eM18, eN19⟩ := hw
        rw [eM18, eN19] at hZ
        exact z_xout hno hlocks hK hT hZ hS h1 h2 h3 ⟨hw, rfl⟩ (by decide) (by decide)
      · obtain ⟨hw, eM8, eN9⟩ := hw
        rw [eM8, eN9] at hZ
        refine lv_aload_n (pc := 12) hx hb d_IS_divide_12 rfl (lv_at hl 0 rfl) ?_
        refine zg_IS_11 (pc := 13) hx hb hta hown hK hZ d_IS_divide_13 ?_
        refine lv_iload_n (pc := 16) hx hb d_IS_divide_16 rfl (lv_at hl 2 rfl) ?_
        obtain ⟨hc, hw⟩ := hw
        refine z_aald (pc := 17) hx hb hK hZ hc d_IS_divide_17 ?_
        refine lv_aload_n (pc := 18) hx hb d_IS_divide_18 rfl (lv_at hl 0 rfl) ?_
        refine zg_IS_11 (pc := 19) hx hb hta hown hK hZ d_IS_divide_19 ?_
        refine lv_iload_n (pc := 22) hx hb d_IS_divide_22 rfl (lv_at hl 3 rfl) ?_
        obtain ⟨hc, hw⟩ := hw
        refine z_aald (pc := 23) hx hb hK hZ hc d_IS_divide_23 ?_
        refine lv_aload_n (pc := 24) hx hb d_IS_divide_24 rfl (lv_at hl 0 rfl) ?_
        refine zg_IS_18 (pc := 25) hx hb hta hown hK hZ d_IS_divide_25 ?_
        refine lv_aload_n (pc := 28) hx hb d_IS_divide_28 rfl (lv_at hl 0 rfl) ?_
        refine zg_IS_21 (pc := 29) hx hb hta hown hK hZ d_IS_divide_29 ?_
        refine z_calli (pc := 32) (va_runS (As := [.ref (b + (1 + 1 + a2.toNatClampNeg)), .ref (b + (1 + 1 + a3.toNatClampNeg)), .ref (b + 7), .ref (b + 8)]) (rest := []) ⟨hx, hb, hml, hown, hts⟩ (c_Ro_findQuotient l G b (1 + 1 + a2.toNatClampNeg) (1 + 1 + a3.toNatClampNeg) 7 8 M N hw) (va_cwS 4 hts (z_good (zgS wd403 wd404 wd13 wd405)) rfl rfl rfl hd_Ro_findQuotient ⟨Nat.le_of_ble_eq_true rfl, Nat.le_of_ble_eq_true rfl⟩) (z_preS hZ hK hT hS) rfl rfl hl.1 rfl (lv_room (Nat.le_of_ble_eq_true rfl)) d_IS_divide_32 ⟨Nat.le_of_ble_eq_true rfl, Nat.le_of_ble_eq_true rfl⟩) hS (fun r10 M11 N12 H locs hw hZ hS => ?_)
        obtain ⟨hw, eN12⟩ := hw
        rw [eN12] at hZ
        refine lv_if_ne (pc := 35) (tgt := 46) hx hb d_IS_divide_35 (by decide) (fun hc => ?_) (fun hc => ?_)
        · have hw := hw.1 hc
          refine lv_aload_n (pc := 46) hx hb d_IS_divide_46 rfl (lv_at hl 0 rfl) ?_
          refine lv_iload_n (pc := 47) hx hb d_IS_divide_47 rfl (lv_at hl 1 rfl) ?_
          refine lv_aload_n (pc := 48) hx hb d_IS_divide_48 rfl (lv_at hl 0 rfl) ?_
          refine zg_IS_18 (pc := 49) hx hb hta hown hK hZ d_IS_divide_49 ?_
          refine z_xcalli (pc := 52) (vx_runV (C := R_IS) (b := b + 0) (As := [.int a1, .ref (b + 7)]) (rest := []) ⟨hx, hb, hml, hown, hts⟩ (c_IS_keep l hst G b a1 7 M11 N hw) (cwV 2 hts (z_good (zgV wd339 wd341 wsel1 wd1 wd342)) rfl rfl rfl ⟨rfl, hd_IS_keep⟩ ⟨Nat.le_of_ble_eq_true rfl, Nat.le_of_ble_eq_true rfl⟩) (z_preV zo_IS rfl rfl hZ hK hT hS) rfl rfl hl.1 rfl (lv_room (Nat.le_of_ble_eq_true rfl)) d_IS_divide_52 ⟨Nat.le_of_ble_eq_true rfl, Nat.le_of_ble_eq_true rfl⟩) hS (fun k q ce M16 N17 H locs hw hZ hS h1 h2 h3 => ?_) (fun r13 M14 N15 H locs hw hZ hS => ?_)
          · obtain ⟨hw, eN17⟩ := hw
            rw [eN17] at hZ
            exact z_xout hno hlocks hK hT hZ hS h1 h2 h3 ⟨hw, rfl⟩ (by decide) (by decide)
          · obtain ⟨hw, eN15⟩ := hw
            rw [eN15] at hZ
            refine W.widen (k := 5) (n := 30) (by decide) (by decide) ?_
            exact vx_ret (z_iret hx hb hr hlocks hK hT hZ hS ⟨hw, rfl⟩ d_IS_divide_55)
        · have hw := hw.2 hc
          exact z_xthrow (k := 4) (pc := 38) hx hb hst hown (hta _ wd414) (hta _ wd17) (xat_IS_divide_38 hta hT.1) (by decide) xat_IS_divide_38_g hno hlocks hK hT hZ hS (hl.1.trans hml.symm) d_IS_divide_38 d_IS_divide_41 d_IS_divide_42 d_IS_divide_45 (Nat.le_of_ble_eq_true rfl) (Nat.le_of_ble_eq_true rfl) (Nat.le_of_ble_eq_true rfl) (Nat.le_of_ble_eq_true rfl) ⟨hw, rfl⟩ (by decide) (by decide)
theorem d_Ro_greatestDivisor_0 : decode prog_7_method_6_code 0 = .ok (.lload_n 0, 1) := by decide +kernel
theorem d_Ro_greatestDivisor_1 : decode prog_7_method_6_code 1 = .ok (.lconst 0, 1) := by decide +kernel
theorem d_Ro_greatestDivisor_2 : decode prog_7_method_6_code 2 = .ok (.lcmp, 1) := by decide +kernel
theorem d_Ro_greatestDivisor_3 : decode prog_7_method_6_code 3 = .ok (.ifCond .ge 8, 3) := by decide +kernel
theorem d_Ro_greatestDivisor_6 : decode prog_7_method_6_code 6 = .ok (.lload_n 0, 1) := by decide +kernel
theorem d_Ro_greatestDivisor_7 : decode prog_7_method_6_code 7 = .ok (.lneg, 1) := by decide +kernel
theorem d_Ro_greatestDivisor_8 : decode prog_7_method_6_code 8 = .ok (.goto 4, 3) := by decide +kernel
theorem d_Ro_greatestDivisor_11 : decode prog_7_method_6_code 11 = .ok (.lload_n 0, 1) := by decide +kernel
theorem d_Ro_greatestDivisor_12 : decode prog_7_method_6_code 12 = .ok (.lstore 4, 2) := by decide +kernel
theorem d_Ro_greatestDivisor_14 : decode prog_7_method_6_code 14 = .ok (.lload_n 2, 1) := by decide +kernel
theorem d_Ro_greatestDivisor_15 : decode prog_7_method_6_code 15 = .ok (.lconst 0, 1) := by decide +kernel
theorem d_Ro_greatestDivisor_16 : decode prog_7_method_6_code 16 = .ok (.lcmp, 1) := by decide +kernel
theorem d_Ro_greatestDivisor_17 : decode prog_7_method_6_code 17 = .ok (.ifCond .ge 8, 3) := by decide +kernel
theorem d_Ro_greatestDivisor_20 : decode prog_7_method_6_code 20 = .ok (.lload_n 2, 1) := by decide +kernel
theorem d_Ro_greatestDivisor_21 : decode prog_7_method_6_code 21 = .ok (.lneg, 1) := by decide +kernel
theorem d_Ro_greatestDivisor_22 : decode prog_7_method_6_code 22 = .ok (.goto 4, 3) := by decide +kernel
theorem d_Ro_greatestDivisor_25 : decode prog_7_method_6_code 25 = .ok (.lload_n 2, 1) := by decide +kernel
theorem d_Ro_greatestDivisor_26 : decode prog_7_method_6_code 26 = .ok (.lstore 6, 2) := by decide +kernel
theorem d_Ro_greatestDivisor_28 : decode prog_7_method_6_code 28 = .ok (.iconst 0, 1) := by decide +kernel
theorem d_Ro_greatestDivisor_29 : decode prog_7_method_6_code 29 = .ok (.istore 8, 2) := by decide +kernel
theorem d_Ro_greatestDivisor_31 : decode prog_7_method_6_code 31 = .ok (.iload 8, 2) := by decide +kernel
theorem d_Ro_greatestDivisor_33 : decode prog_7_method_6_code 33 = .ok (.bipush 100, 2) := by decide +kernel
theorem d_Ro_greatestDivisor_35 : decode prog_7_method_6_code 35 = .ok (.if_icmp .ge 31, 3) := by decide +kernel
theorem d_Ro_greatestDivisor_38 : decode prog_7_method_6_code 38 = .ok (.lload 6, 2) := by decide +kernel
theorem d_Ro_greatestDivisor_40 : decode prog_7_method_6_code 40 = .ok (.lconst 0, 1) := by decide +kernel
theorem d_Ro_greatestDivisor_41 : decode prog_7_method_6_code 41 = .ok (.lcmp, 1) := by decide +kernel
theorem d_Ro_greatestDivisor_42 : decode prog_7_method_6_code 42 = .ok (.ifCond .eq 24, 3) := by decide +kernel
theorem d_Ro_greatestDivisor_45 : decode prog_7_method_6_code 45 = .ok (.lload 4, 2) := by decide +kernel
theorem d_Ro_greatestDivisor_47 : decode prog_7_method_6_code 47 = .ok (.lload 6, 2) := by decide +kernel
theorem d_Ro_greatestDivisor_49 : decode prog_7_method_6_code 49 = .ok (.lrem, 1) := by decide +kernel
theorem d_Ro_greatestDivisor_50 : decode prog_7_method_6_code 50 = .ok (.lstore 9, 2) := by decide +kernel
theorem d_Ro_greatestDivisor_52 : decode prog_7_method_6_code 52 = .ok (.lload 6, 2) := by decide +kernel
theorem d_Ro_greatestDivisor_54 : decode prog_7_method_6_code 54 = .ok (.lstore 4, 2) := by decide +kernel
theorem d_Ro_greatestDivisor_56 : decode prog_7_method_6_code 56 = .ok (.lload 9, 2) := by decide +kernel
theorem d_Ro_greatestDivisor_58 : decode prog_7_method_6_code 58 = .ok (.lstore 6, 2) := by decide +kernel
theorem d_Ro_greatestDivisor_60 : decode prog_7_method_6_code 60 = .ok (.iinc 8 1, 3) := by decide +kernel
theorem d_Ro_greatestDivisor_63 : decode prog_7_method_6_code 63 = .ok (.goto (-32), 3) := by decide +kernel
theorem d_Ro_greatestDivisor_66 : decode prog_7_method_6_code 66 = .ok (.lload 4, 2) := by decide +kernel
theorem d_Ro_greatestDivisor_68 : decode prog_7_method_6_code 68 = .ok (.lreturn, 1) := by decide +kernel
def B_Ro_greatestDivisor_31 (P : Int64 → Prop) (k31 : Int64 → Int64 → Int32 → Prop) (v4 : Int64) (v6 : Int64) (v8 : Int32) : Prop := ((100 : Int32) ≤ v8 → P v4) ∧ (¬ (100 : Int32) ≤ v8 → (v6 = (0 : Int64) → P v4) ∧ (¬ v6 = (0 : Int64) → ¬ v6 = 0 ∧ ∀ x2 : Int64, x2 = v4 - v4 / v6 * v6 → k31 v6 x2 (v8 + (1 : Int32))))
def L_Ro_greatestDivisor_31 (P : Int64 → Prop) (n : Nat) : Int64 → Int64 → Int32 → Prop := Nat.rec (fun _ _ _ => False) (fun _ k => B_Ro_greatestDivisor_31 P k) n
def J_Ro_greatestDivisor_12 (P : Int64 → Prop) (a2 : Int64) (t0 : Int64) : Prop := ((0 : Int64) ≤ a2 → ∃ n, L_Ro_greatestDivisor_31 P n t0 a2 (0 : Int32)) ∧ (¬ (0 : Int64) ≤ a2 → ∀ x1 : Int64, x1 = -a2 → ∃ n, L_Ro_greatestDivisor_31 P n t0 x1 (0 : Int32))
def w_Ro_greatestDivisor (a0 : Int64) (a2 : Int64) (P : Int64 → Prop) : Prop := ((0 : Int64) ≤ a0 → J_Ro_greatestDivisor_12 P a2 a0) ∧ (¬ (0 : Int64) ≤ a0 → J_Ro_greatestDivisor_12 P a2 (-a0))
def ws_Ro_greatestDivisor : List Cond := .code y_Ro_greatestDivisor prog_7_method_6_code 11 (Option.some Jvm.ClassFile.FieldType.long) :: zall
def rm_Ro_greatestDivisor : Room := { frames := 0, cells := 0, slots := 0, locals := 0 }
theorem hd_Ro_greatestDivisor : y_Ro_greatestDivisor.cls ≠ "java/lang/invoke/MethodHandle" ∧ y_Ro_greatestDivisor.cls ≠ "java/lang/invoke/VarHandle" ∧ (parseMethodDescriptor y_Ro_greatestDivisor.desc).map (fun d => d.parameters.length) = some 2 := by decide +kernel
set_option maxHeartbeats 4000000 in
set_option maxRecDepth 100000 in
theorem c_Ro_greatestDivisor (l : Launch) (G : zG) (b : Nat) (a0 : Int64) (a2 : Int64) (M : zM) (N : zN) {P : Int64 → Prop} (hw : w_Ro_greatestDivisor a0 a2  P) : Met l y_Ro_greatestDivisor ws_Ro_greatestDivisor rm_Ro_greatestDivisor (zPc G b M N [.long a0, .long a2]) (zQl G b (fun r M' N' => P r ∧ M' = M ∧ N' = N)) 0 0 (zA b) := by
  refine Met.ofW (cc := prog_7_method_6_code) (maxL := 11) (ret := (Option.some Jvm.ClassFile.FieldType.long)) (by decide) rfl ?_
  intro p e s m args below meth c s₁ B hml hv
  obtain ⟨rfl, hZ, hK, hT⟩ := hv
  have hx := B.exec
  have hb := B.bytes
  have hr := B.returns
  have hts := atoms_spec (ws := ws_Ro_greatestDivisor) B.pre
  have hta : ∀ w ∈ zall, w.before ([.long a0, .long a2] : List Value).toArray s = true := fun w h => hts w (List.mem_cons_of_mem _ h)
  have hown : s.vm.findClass R_Ro = some m.cls := findClass_of_methodNamed B.named
  have hlocks := B.notSynchronized
  have hS : va_S (zA b) s.heap s.heap [] := va_S.rf
  have hl := lv_entry ([.long a0, .long a2]) (n := 11) (Nat.le_of_ble_eq_true rfl)
  rw [lg_entry_eq]
  generalize (lg_sl ([.long a0, .long a2]) ++ List.replicate (11 - (lg_sl ([.long a0, .long a2])).length) Slot.unset).toArray = ls at hl ⊢
  have hl : lv_has ls 11 [(0, .long a0), (2, .long a2)] := hl
  have lp31 : ∀ (n : Nat) (v4 : Int64) (v6 : Int64) (v8 : Int32) (H : Heap) (ls : Array Slot) (locs : List Loc), va_P G.1 zCl (zws G b M N) H → va_S (zA b) s.heap H locs → lv_has ls 11 [(4, .long v4), (6, .long v6), (8, .int v8)] → L_Ro_greatestDivisor_31 P n v4 v6 v8 → W p l e (headSpec ws_Ro_greatestDivisor rm_Ro_greatestDivisor).room s m ([.long a0, .long a2] : List Value).toArray below meth c H locs 0 0 (MQ below (zQl G b (fun r M' N' => P r ∧ M' = M ∧ N' = N)) ([.long a0, .long a2] : List Value).toArray s 0 0 (zA b)) (F0 m 31 ls []) := by
    intro  n
    induction n with
    | zero => intro v4 v6 v8 H ls locs hZ hS hl hw; exact False.elim hw
    | succ n31 ih31 =>
      intro v4 v6 v8 H ls locs hZ hS hl hw
      have hw : B_Ro_greatestDivisor_31 P (L_Ro_greatestDivisor_31 P n31) v4 v6 v8 := hw
      unfold B_Ro_greatestDivisor_31 at hw
      refine lv_iload (pc := 31) hx hb d_Ro_greatestDivisor_31 (lv_at hl 2 rfl) ?_
      refine lv_bipush (pc := 33) (v := 100) hx hb d_Ro_greatestDivisor_33 (by decide) ?_
      refine lv_icmp_ge (pc := 35) (tgt := 66) hx hb d_Ro_greatestDivisor_35 (by decide) (fun hc => ?_) (fun hc => ?_)
      · have hw := hw.1 hc
        refine lv_lload (pc := 66) hx hb d_Ro_greatestDivisor_66 (lv_at hl 0 rfl) ?_
        exact z_lret hx hb hr hlocks hK hT hZ hS ⟨hw, rfl, rfl⟩ d_Ro_greatestDivisor_68
      · have hw := hw.2 hc
        refine lv_lload (pc := 38) hx hb d_Ro_greatestDivisor_38 (lv_at hl 1 rfl) ?_
        refine lv_lconst (pc := 40) (v := 0) hx hb d_Ro_greatestDivisor_40 (by decide) ?_
        refine z_lc_eq (pc := 41) (tgt := 66) hx hb d_Ro_greatestDivisor_41 d_Ro_greatestDivisor_42 (by decide) (fun hc => ?_) (fun hc => ?_)
        · have hw := hw.1 hc
          refine lv_lload (pc := 66) hx hb d_Ro_greatestDivisor_66 (lv_at hl 0 rfl) ?_
          exact z_lret hx hb hr hlocks hK hT hZ hS ⟨hw, rfl, rfl⟩ d_Ro_greatestDivisor_68
        · have hw := hw.2 hc
          refine lv_lload (pc := 45) hx hb d_Ro_greatestDivisor_45 (lv_at hl 0 rfl) ?_
          refine lv_lload (pc := 47) hx hb d_Ro_greatestDivisor_47 (lv_at hl 1 rfl) ?_
          obtain ⟨hc, hw⟩ := hw
          refine lv_lrem (pc := 49) hx hb d_Ro_greatestDivisor_49 hc ?_
          refine lv_topl (fun x2 hx2 => ?_)
          have hw := hw x2 hx2
          refine lv_lstore (pc := 50) (lv' := [(9, .long x2), (4, .long v4), (6, .long v6), (8, .int v8)]) hx hb d_Ro_greatestDivisor_50 hl (by decide) rfl (fun ls hl => ?_)
          refine lv_lload (pc := 52) hx hb d_Ro_greatestDivisor_52 (lv_at hl 2 rfl) ?_
          refine lv_lstore (pc := 54) (lv' := [(4, .long v6), (9, .long x2), (6, .long v6), (8, .int v8)]) hx hb d_Ro_greatestDivisor_54 hl (by decide) rfl (fun ls hl => ?_)
          refine lv_lload (pc := 56) hx hb d_Ro_greatestDivisor_56 (lv_at hl 1 rfl) ?_
          refine lv_lstore (pc := 58) (lv' := [(6, .long x2), (4, .long v6), (9, .long x2), (8, .int v8)]) hx hb d_Ro_greatestDivisor_58 hl (by decide) rfl (fun ls hl => ?_)
          refine lv_iinc (pc := 60) (k := 3) (v := v8 + (1 : Int32)) (lv' := [(8, .int (v8 + (1 : Int32))), (6, .long x2), (4, .long v6), (9, .long x2)]) hx hb d_Ro_greatestDivisor_60 hl rfl (by rfl) (by decide) rfl (fun ls hl => ?_)
          refine lv_goto (pc := 63) (tgt := 31) hx hb d_Ro_greatestDivisor_63 (by decide) ?_
          exact ih31 v6 x2 (v8 + (1 : Int32)) _ _ _ hZ hS (lv_sub hl [2, 1, 0] rfl) hw
  have j12 : ∀ (t0 : Int64) (H : Heap) (ls : Array Slot) (locs : List Loc), va_P G.1 zCl (zws G b M N) H → va_S (zA b) s.heap H locs → lv_has ls 11 [(2, .long a2)] → J_Ro_greatestDivisor_12 P a2 t0 → W p l e (headSpec ws_Ro_greatestDivisor rm_Ro_greatestDivisor).room s m ([.long a0, .long a2] : List Value).toArray below meth c H locs 0 0 (MQ below (zQl G b (fun r M' N' => P r ∧ M' = M ∧ N' = N)) ([.long a0, .long a2] : List Value).toArray s 0 0 (zA b)) (F0 m 12 ls [.long t0]) := by
    intro t0 H ls locs hZ hS hl hw
    unfold J_Ro_greatestDivisor_12 at hw
    refine lv_lstore (pc := 12) (lv' := [(4, .long t0), (2, .long a2)]) hx hb d_Ro_greatestDivisor_12 hl (by decide) rfl (fun ls hl => ?_)
    refine lv_lload_n (pc := 14) hx hb d_Ro_greatestDivisor_14 rfl (lv_at hl 1 rfl) ?_
    refine lv_lconst (pc := 15) (v := 0) hx hb d_Ro_greatestDivisor_15 (by decide) ?_
    refine z_lc_ge (pc := 16) (tgt := 25) hx hb d_Ro_greatestDivisor_16 d_Ro_greatestDivisor_17 (by decide) (fun hc => ?_) (fun hc => ?_)
    · have hw := hw.1 hc
      refine lv_lload_n (pc := 25) hx hb d_Ro_greatestDivisor_25 rfl (lv_at hl 1 rfl) ?_
      refine lv_lstore (pc := 26) (lv' := [(6, .long a2), (4, .long t0), (2, .long a2)]) hx hb d_Ro_greatestDivisor_26 hl (by decide) rfl (fun ls hl => ?_)
      refine lv_iconst (pc := 28) (v := 0) hx hb d_Ro_greatestDivisor_28 (by decide) ?_
      refine lv_istore (pc := 29) (lv' := [(8, .int (0 : Int32)), (6, .long a2), (4, .long t0), (2, .long a2)]) hx hb d_Ro_greatestDivisor_29 hl (by decide) rfl (fun ls hl => ?_)
      obtain ⟨n, hw⟩ := hw
      exact lp31  n t0 a2 (0 : Int32) _ _ _ hZ hS (lv_sub hl [2, 1, 0] rfl) hw
    · have hw := hw.2 hc
      refine lv_lload_n (pc := 20) hx hb d_Ro_greatestDivisor_20 rfl (lv_at hl 1 rfl) ?_
      refine lv_lneg (pc := 21) hx hb d_Ro_greatestDivisor_21 ?_
      refine lv_goto (pc := 22) (tgt := 26) hx hb d_Ro_greatestDivisor_22 (by decide) ?_
      refine lv_topl (fun x1 hx1 => ?_)
      have hw := hw x1 hx1
      refine lv_lstore (pc := 26) (lv' := [(6, .long x1), (4, .long t0), (2, .long a2)]) hx hb d_Ro_greatestDivisor_26 hl (by decide) rfl (fun ls hl => ?_)
      refine lv_iconst (pc := 28) (v := 0) hx hb d_Ro_greatestDivisor_28 (by decide) ?_
      refine lv_istore (pc := 29) (lv' := [(8, .int (0 : Int32)), (6, .long x1), (4, .long t0), (2, .long a2)]) hx hb d_Ro_greatestDivisor_29 hl (by decide) rfl (fun ls hl => ?_)
      obtain ⟨n, hw⟩ := hw
      exact lp31  n t0 x1 (0 : Int32) _ _ _ hZ hS (lv_sub hl [2, 1, 0] rfl) hw
  unfold w_Ro_greatestDivisor at hw
  refine lv_lload_n (pc := 0) hx hb d_Ro_greatestDivisor_0 rfl (lv_at hl 0 rfl) ?_
  refine lv_lconst (pc := 1) (v := 0) hx hb d_Ro_greatestDivisor_1 (by decide) ?_
  refine z_lc_ge (pc := 2) (tgt := 11) hx hb d_Ro_greatestDivisor_2 d_Ro_greatestDivisor_3 (by decide) (fun hc => ?_) (fun hc => ?_)
  · have hw := hw.1 hc
    refine lv_lload_n (pc := 11) hx hb d_Ro_greatestDivisor_11 rfl (lv_at hl 0 rfl) ?_
    exact j12 a0 _ _ _ hZ hS (lv_sub hl [1] rfl) hw
  · have hw := hw.2 hc
    refine lv_lload_n (pc := 6) hx hb d_Ro_greatestDivisor_6 rfl (lv_at hl 0 rfl) ?_
    refine lv_lneg (pc := 7) hx hb d_Ro_greatestDivisor_7 ?_
    refine lv_goto (pc := 8) (tgt := 12) hx hb d_Ro_greatestDivisor_8 (by decide) ?_
    exact j12 (-a0) _ _ _ hZ hS (lv_sub hl [1] rfl) hw
theorem d_Ro_contentOf_0 : decode prog_7_method_7_code 0 = .ok (.lconst 0, 1) := by decide +kernel
theorem d_Ro_contentOf_1 : decode prog_7_method_7_code 1 = .ok (.lstore_n 1, 1) := by decide +kernel
theorem d_Ro_contentOf_2 : decode prog_7_method_7_code 2 = .ok (.iconst 0, 1) := by decide +kernel
theorem d_Ro_contentOf_3 : decode prog_7_method_7_code 3 = .ok (.istore_n 3, 1) := by decide +kernel
theorem d_Ro_contentOf_4 : decode prog_7_method_7_code 4 = .ok (.iload_n 3, 1) := by decide +kernel
theorem d_Ro_contentOf_5 : decode prog_7_method_7_code 5 = .ok (.aload_n 0, 1) := by decide +kernel
theorem d_Ro_contentOf_6 : decode prog_7_method_7_code 6 = .ok (.arraylength, 1) := by decide +kernel
theorem d_Ro_contentOf_7 : decode prog_7_method_7_code 7 = .ok (.if_icmp .ge 17, 3) := by decide +kernel
theorem d_Ro_contentOf_10 : decode prog_7_method_7_code 10 = .ok (.lload_n 1, 1) := by decide +kernel
theorem d_Ro_contentOf_11 : decode prog_7_method_7_code 11 = .ok (.aload_n 0, 1) := by decide +kernel
theorem d_Ro_contentOf_12 : decode prog_7_method_7_code 12 = .ok (.iload_n 3, 1) := by decide +kernel
theorem d_Ro_contentOf_13 : decode prog_7_method_7_code 13 = .ok (.laload, 1) := by decide +kernel
theorem d_Ro_contentOf_14 : decode prog_7_method_7_code 14 = .ok (.invokestatic 21, 3) := by decide +kernel
theorem d_Ro_contentOf_17 : decode prog_7_method_7_code 17 = .ok (.lstore_n 1, 1) := by decide +kernel
theorem d_Ro_contentOf_18 : decode prog_7_method_7_code 18 = .ok (.iinc 3 1, 3) := by decide +kernel
theorem d_Ro_contentOf_21 : decode prog_7_method_7_code 21 = .ok (.goto (-17), 3) := by decide +kernel
theorem d_Ro_contentOf_24 : decode prog_7_method_7_code 24 = .ok (.lload_n 1, 1) := by decide +kernel
theorem d_Ro_contentOf_25 : decode prog_7_method_7_code 25 = .ok (.lreturn, 1) := by decide +kernel
def B_Ro_contentOf_4 (P : Int64 → Prop) (a0 : Nat) (M : zM) (k4 : Int64 → Int32 → Prop) (v1 : Int64) (v3 : Int32) : Prop := 0 < zlong a0 ∧ ((Int32.ofNat (zlong a0)) ≤ v3 → P v1) ∧ (¬ (Int32.ofNat (zlong a0)) ≤ v3 → vp_in v3 (zlong a0) ∧ w_Ro_greatestDivisor v1 (M a0 v3.toNatClampNeg)  (fun r1 => k4 r1 (v3 + (1 : Int32))))
def L_Ro_contentOf_4 (P : Int64 → Prop) (a0 : Nat) (M : zM) (n : Nat) : Int64 → Int32 → Prop := Nat.rec (fun _ _ => False) (fun _ k => B_Ro_contentOf_4 P a0 M k) n
def w_Ro_contentOf (a0 : Nat) (M : zM) (P : Int64 → Prop) : Prop := ∃ n, L_Ro_contentOf_4 P a0 M n (0 : Int64) (0 : Int32)
def ws_Ro_contentOf : List Cond := .code y_Ro_contentOf prog_7_method_7_code 4 (Option.some Jvm.ClassFile.FieldType.long) :: zall
def rm_Ro_contentOf : Room := { frames := 1, cells := 0, slots := 0, locals := 30 }
theorem hd_Ro_contentOf : y_Ro_contentOf.cls ≠ "java/lang/invoke/MethodHandle" ∧ y_Ro_contentOf.cls ≠ "java/lang/invoke/VarHandle" ∧ (parseMethodDescriptor y_Ro_contentOf.desc).map (fun d => d.parameters.length) = some 1 := by decide +kernel
set_option maxHeartbeats 4000000 in
set_option maxRecDepth 100000 in
theorem c_Ro_contentOf (l : Launch) (G : zG) (b : Nat) (a0 : Nat) (M : zM) (N : zN) {P : Int64 → Prop} (hw : w_Ro_contentOf a0 M P) : Met l y_Ro_contentOf ws_Ro_contentOf rm_Ro_contentOf (zPc G b M N [.ref (b + a0)]) (zQl G b (fun r M' N' => P r ∧ M' = M ∧ N' = N)) 0 0 (zA b) := by
  refine Met.ofW (cc := prog_7_method_7_code) (maxL := 4) (ret := (Option.some Jvm.ClassFile.FieldType.long)) (by decide) rfl ?_
  intro p e s m args below meth c s₁ B hml hv
  obtain ⟨rfl, hZ, hK, hT⟩ := hv
  have hx := B.exec
  have hb := B.bytes
  have hr := B.returns
  have hts := atoms_spec (ws := ws_Ro_contentOf) B.pre
  have hta : ∀ w ∈ zall, w.before ([.ref (b + a0)] : List Value).toArray s = true := fun w h => hts w (List.mem_cons_of_mem _ h)
  have hown : s.vm.findClass R_Ro = some m.cls := findClass_of_methodNamed B.named
  have hlocks := B.notSynchronized
  have hS : va_S (zA b) s.heap s.heap [] := va_S.rf
  have hl := lv_entry ([.ref (b + a0)]) (n := 4) (Nat.le_of_ble_eq_true rfl)
  rw [lg_entry_eq]
  generalize (lg_sl ([.ref (b + a0)]) ++ List.replicate (4 - (lg_sl ([.ref (b + a0)])).length) Slot.unset).toArray = ls at hl ⊢
  have hl : lv_has ls 4 [(0, .ref (b + a0))] := hl
  have lp4 : ∀ (n : Nat) (v1 : Int64) (v3 : Int32) (H : Heap) (ls : Array Slot) (locs : List Loc), va_P G.1 zCl (zws G b M N) H → va_S (zA b) s.heap H locs → lv_has ls 4 [(0, .ref (b + a0)), (1, .long v1), (3, .int v3)] → L_Ro_contentOf_4 P a0 M n v1 v3 → W p l e (headSpec ws_Ro_contentOf rm_Ro_contentOf).room s m ([.ref (b + a0)] : List Value).toArray below meth c H locs 0 0 (MQ below (zQl G b (fun r M' N' => P r ∧ M' = M ∧ N' = N)) ([.ref (b + a0)] : List Value).toArray s 0 0 (zA b)) (F0 m 4 ls []) := by
    intro  n
    induction n with
    | zero => intro v1 v3 H ls locs hZ hS hl hw; exact False.elim hw
    | succ n4 ih4 =>
      intro v1 v3 H ls locs hZ hS hl hw
      have hw : B_Ro_contentOf_4 P a0 M (L_Ro_contentOf_4 P a0 M n4) v1 v3 := hw
      unfold B_Ro_contentOf_4 at hw
      refine lv_iload_n (pc := 4) hx hb d_Ro_contentOf_4 rfl (lv_at hl 2 rfl) ?_
      refine lv_aload_n (pc := 5) hx hb d_Ro_contentOf_5 rfl (lv_at hl 0 rfl) ?_
      obtain ⟨hc, hw⟩ := hw
      refine z_alen (pc := 6) hx hb hK hZ hc d_Ro_contentOf_6 ?_
      refine lv_icmp_ge (pc := 7) (tgt := 24) hx hb d_Ro_contentOf_7 (by decide) (fun hc => ?_) (fun hc => ?_)
      · have hw := hw.1 hc
        refine lv_lload_n (pc := 24) hx hb d_Ro_contentOf_24 rfl (lv_at hl 1 rfl) ?_
        exact z_lret hx hb hr hlocks hK hT hZ hS ⟨hw, rfl, rfl⟩ d_Ro_contentOf_25
      · have hw := hw.2 hc
        refine lv_lload_n (pc := 10) hx hb d_Ro_contentOf_10 rfl (lv_at hl 1 rfl) ?_
        refine lv_aload_n (pc := 11) hx hb d_Ro_contentOf_11 rfl (lv_at hl 0 rfl) ?_
        refine lv_iload_n (pc := 12) hx hb d_Ro_contentOf_12 rfl (lv_at hl 2 rfl) ?_
        obtain ⟨hc, hw⟩ := hw
        refine z_lald (pc := 13) hx hb hK hZ hc d_Ro_contentOf_13 ?_
        refine z_calll (pc := 14) (va_runS (As := [.long v1, .long (M a0 v3.toNatClampNeg)]) (rest := []) ⟨hx, hb, hml, hown, hts⟩ (c_Ro_greatestDivisor l G b v1 (M a0 v3.toNatClampNeg) M N hw) (va_cwS 2 hts (z_good (zgS wd447 wd448 wd13 wd449)) rfl rfl rfl hd_Ro_greatestDivisor ⟨Nat.le_of_ble_eq_true rfl, Nat.le_of_ble_eq_true rfl⟩) (z_preS hZ hK hT hS) rfl rfl hl.1 rfl (lv_room (Nat.le_of_ble_eq_true rfl)) d_Ro_contentOf_14 ⟨Nat.le_of_ble_eq_true rfl, Nat.le_of_ble_eq_true rfl⟩) hS (fun r1 M2 N3 H locs hw hZ hS => ?_)
        obtain ⟨hw, eM2, eN3⟩ := hw
        rw [eM2, eN3] at hZ
        refine lv_lstore_n (pc := 17) (lv' := [(1, .long r1), (0, .ref (b + a0)), (3, .int v3)]) hx hb d_Ro_contentOf_17 rfl hl (by decide) rfl (fun ls hl => ?_)
        refine lv_iinc (pc := 18) (k := 2) (v := v3 + (1 : Int32)) (lv' := [(3, .int (v3 + (1 : Int32))), (1, .long r1), (0, .ref (b + a0))]) hx hb d_Ro_contentOf_18 hl rfl (by rfl) (by decide) rfl (fun ls hl => ?_)
        refine lv_goto (pc := 21) (tgt := 4) hx hb d_Ro_contentOf_21 (by decide) ?_
        exact ih4 r1 (v3 + (1 : Int32)) _ _ _ hZ hS (lv_sub hl [2, 1, 0] rfl) hw
  unfold w_Ro_contentOf at hw
  refine lv_lconst (pc := 0) (v := 0) hx hb d_Ro_contentOf_0 (by decide) ?_
  refine lv_lstore_n (pc := 1) (lv' := [(1, .long (0 : Int64)), (0, .ref (b + a0))]) hx hb d_Ro_contentOf_1 rfl hl (by decide) rfl (fun ls hl => ?_)
  refine lv_iconst (pc := 2) (v := 0) hx hb d_Ro_contentOf_2 (by decide) ?_
  refine lv_istore_n (pc := 3) (lv' := [(3, .int (0 : Int32)), (1, .long (0 : Int64)), (0, .ref (b + a0))]) hx hb d_Ro_contentOf_3 rfl hl (by decide) rfl (fun ls hl => ?_)
  obtain ⟨n, hw⟩ := hw
  exact lp4  n (0 : Int64) (0 : Int32) _ _ _ hZ hS (lv_sub hl [2, 1, 0] rfl) hw
theorem d_Ro_leadingOf_0 : decode prog_7_method_3_code 0 = .ok (.aload_n 0, 1) := by decide +kernel
theorem d_Ro_leadingOf_1 : decode prog_7_method_3_code 1 = .ok (.invokestatic 9, 3) := by decide +kernel
theorem d_Ro_leadingOf_4 : decode prog_7_method_3_code 4 = .ok (.istore_n 1, 1) := by decide +kernel
theorem d_Ro_leadingOf_5 : decode prog_7_method_3_code 5 = .ok (.iload_n 1, 1) := by decide +kernel
theorem d_Ro_leadingOf_6 : decode prog_7_method_3_code 6 = .ok (.ifCond .ge 7, 3) := by decide +kernel
theorem d_Ro_leadingOf_9 : decode prog_7_method_3_code 9 = .ok (.lconst 0, 1) := by decide +kernel
theorem d_Ro_leadingOf_10 : decode prog_7_method_3_code 10 = .ok (.goto 6, 3) := by decide +kernel
theorem d_Ro_leadingOf_13 : decode prog_7_method_3_code 13 = .ok (.aload_n 0, 1) := by decide +kernel
theorem d_Ro_leadingOf_14 : decode prog_7_method_3_code 14 = .ok (.iload_n 1, 1) := by decide +kernel
theorem d_Ro_leadingOf_15 : decode prog_7_method_3_code 15 = .ok (.laload, 1) := by decide +kernel
theorem d_Ro_leadingOf_16 : decode prog_7_method_3_code 16 = .ok (.lreturn, 1) := by decide +kernel
def w_Ro_leadingOf (a0 : Nat) (M : zM) (P : Int64 → Prop) : Prop := w_Ro_degreeOf a0 M (fun r1 => (0 ≤ r1 → vp_in r1 (zlong a0) ∧ P (M a0 r1.toNatClampNeg)) ∧ (¬ 0 ≤ r1 → P (0 : Int64)))
def ws_Ro_leadingOf : List Cond := .code y_Ro_leadingOf prog_7_method_3_code 2 (Option.some Jvm.ClassFile.FieldType.long) :: zall
def rm_Ro_leadingOf : Room := { frames := 1, cells := 0, slots := 0, locals := 21 }
theorem hd_Ro_leadingOf : y_Ro_leadingOf.cls ≠ "java/lang/invoke/MethodHandle" ∧ y_Ro_leadingOf.cls ≠ "java/lang/invoke/VarHandle" ∧ (parseMethodDescriptor y_Ro_leadingOf.desc).map (fun d => d.parameters.length) = some 1 := by decide +kernel
set_option maxHeartbeats 4000000 in
set_option maxRecDepth 100000 in
theorem c_Ro_leadingOf (l : Launch) (G : zG) (b : Nat) (a0 : Nat) (M : zM) (N : zN) {P : Int64 → Prop} (hw : w_Ro_leadingOf a0 M P) : Met l y_Ro_leadingOf ws_Ro_leadingOf rm_Ro_leadingOf (zPc G b M N [.ref (b + a0)]) (zQl G b (fun r M' N' => P r ∧ M' = M ∧ N' = N)) 0 0 (zA b) := by
  refine Met.ofW (cc := prog_7_method_3_code) (maxL := 2) (ret := (Option.some Jvm.ClassFile.FieldType.long)) (by decide) rfl ?_
  intro p e s m args below meth c s₁ B hml hv
  obtain ⟨rfl, hZ, hK, hT⟩ := hv
  have hx := B.exec
  have hb := B.bytes
  have hr := B.returns
  have hts := atoms_spec (ws := ws_Ro_leadingOf) B.pre
  have hta : ∀ w ∈ zall, w.before ([.ref (b + a0)] : List Value).toArray s = true := fun w h => hts w (List.mem_cons_of_mem _ h)
  have hown : s.vm.findClass R_Ro = some m.cls := findClass_of_methodNamed B.named
  have hlocks := B.notSynchronized
  have hS : va_S (zA b) s.heap s.heap [] := va_S.rf
  have hl := lv_entry ([.ref (b + a0)]) (n := 2) (Nat.le_of_ble_eq_true rfl)
  rw [lg_entry_eq]
  generalize (lg_sl ([.ref (b + a0)]) ++ List.replicate (2 - (lg_sl ([.ref (b + a0)])).length) Slot.unset).toArray = ls at hl ⊢
  have hl : lv_has ls 2 [(0, .ref (b + a0))] := hl
  unfold w_Ro_leadingOf at hw
  refine lv_aload_n (pc := 0) hx hb d_Ro_leadingOf_0 rfl (lv_at hl 0 rfl) ?_
  refine z_calli (pc := 1) (va_runS (As := [.ref (b + a0)]) (rest := []) ⟨hx, hb, hml, hown, hts⟩ (c_Ro_degreeOf l G b a0 M N hw) (va_cwS 1 hts (z_good (zgS wd406 wd312 wd13 wd313)) rfl rfl rfl hd_Ro_degreeOf ⟨Nat.le_of_ble_eq_true rfl, Nat.le_of_ble_eq_true rfl⟩) (z_preS hZ hK hT hS) rfl rfl hl.1 rfl (lv_room (Nat.le_of_ble_eq_true rfl)) d_Ro_leadingOf_1 ⟨Nat.le_of_ble_eq_true rfl, Nat.le_of_ble_eq_true rfl⟩) hS (fun r1 M2 N3 H locs hw hZ hS => ?_)
  obtain ⟨hw, eM2, eN3⟩ := hw
  rw [eM2, eN3] at hZ
  refine lv_istore_n (pc := 4) (lv' := [(1, .int r1), (0, .ref (b + a0))]) hx hb d_Ro_leadingOf_4 rfl hl (by decide) rfl (fun ls hl => ?_)
  refine lv_iload_n (pc := 5) hx hb d_Ro_leadingOf_5 rfl (lv_at hl 0 rfl) ?_
  refine lv_if_ge (pc := 6) (tgt := 13) hx hb d_Ro_leadingOf_6 (by decide) (fun hc => ?_) (fun hc => ?_)
  · have hw := hw.1 hc
    refine lv_aload_n (pc := 13) hx hb d_Ro_leadingOf_13 rfl (lv_at hl 1 rfl) ?_
    refine lv_iload_n (pc := 14) hx hb d_Ro_leadingOf_14 rfl (lv_at hl 0 rfl) ?_
    obtain ⟨hc, hw⟩ := hw
    refine z_lald (pc := 15) hx hb hK hZ hc d_Ro_leadingOf_15 ?_
    exact z_lret hx hb hr hlocks hK hT hZ hS ⟨hw, rfl, rfl⟩ d_Ro_leadingOf_16
  · have hw := hw.2 hc
    refine lv_lconst (pc := 9) (v := 0) hx hb d_Ro_leadingOf_9 (by decide) ?_
    refine lv_goto (pc := 10) (tgt := 16) hx hb d_Ro_leadingOf_10 (by decide) ?_
    exact z_lret hx hb hr hlocks hK hT hZ hS ⟨hw, rfl, rfl⟩ d_Ro_leadingOf_16
theorem d_Ro_makePrimitive_0 : decode prog_7_method_8_code 0 = .ok (.aload_n 0, 1) := by decide +kernel
theorem d_Ro_makePrimitive_1 : decode prog_7_method_8_code 1 = .ok (.invokestatic 25, 3) := by decide +kernel
theorem d_Ro_makePrimitive_4 : decode prog_7_method_8_code 4 = .ok (.lstore_n 1, 1) := by decide +kernel
theorem d_Ro_makePrimitive_5 : decode prog_7_method_8_code 5 = .ok (.lload_n 1, 1) := by decide +kernel
theorem d_Ro_makePrimitive_6 : decode prog_7_method_8_code 6 = .ok (.lconst 0, 1) := by decide +kernel
theorem d_Ro_makePrimitive_7 : decode prog_7_method_8_code 7 = .ok (.lcmp, 1) := by decide +kernel
theorem d_Ro_makePrimitive_8 : decode prog_7_method_8_code 8 = .ok (.ifCond .ne 5, 3) := by decide +kernel
theorem d_Ro_makePrimitive_11 : decode prog_7_method_8_code 11 = .ok (.lconst 0, 1) := by decide +kernel
theorem d_Ro_makePrimitive_12 : decode prog_7_method_8_code 12 = .ok (.lreturn, 1) := by decide +kernel
theorem d_Ro_makePrimitive_13 : decode prog_7_method_8_code 13 = .ok (.aload_n 0, 1) := by decide +kernel
theorem d_Ro_makePrimitive_14 : decode prog_7_method_8_code 14 = .ok (.invokestatic 29, 3) := by decide +kernel
theorem d_Ro_makePrimitive_17 : decode prog_7_method_8_code 17 = .ok (.lconst 0, 1) := by decide +kernel
theorem d_Ro_makePrimitive_18 : decode prog_7_method_8_code 18 = .ok (.lcmp, 1) := by decide +kernel
theorem d_Ro_makePrimitive_19 : decode prog_7_method_8_code 19 = .ok (.ifCond .ge 6, 3) := by decide +kernel
theorem d_Ro_makePrimitive_22 : decode prog_7_method_8_code 22 = .ok (.lload_n 1, 1) := by decide +kernel
theorem d_Ro_makePrimitive_23 : decode prog_7_method_8_code 23 = .ok (.lneg, 1) := by decide +kernel
theorem d_Ro_makePrimitive_24 : decode prog_7_method_8_code 24 = .ok (.lstore_n 1, 1) := by decide +kernel
theorem d_Ro_makePrimitive_25 : decode prog_7_method_8_code 25 = .ok (.iconst 0, 1) := by decide +kernel
theorem d_Ro_makePrimitive_26 : decode prog_7_method_8_code 26 = .ok (.istore_n 3, 1) := by decide +kernel
theorem d_Ro_makePrimitive_27 : decode prog_7_method_8_code 27 = .ok (.iload_n 3, 1) := by decide +kernel
theorem d_Ro_makePrimitive_28 : decode prog_7_method_8_code 28 = .ok (.aload_n 0, 1) := by decide +kernel
theorem d_Ro_makePrimitive_29 : decode prog_7_method_8_code 29 = .ok (.arraylength, 1) := by decide +kernel
theorem d_Ro_makePrimitive_30 : decode prog_7_method_8_code 30 = .ok (.if_icmp .ge 16, 3) := by decide +kernel
theorem d_Ro_makePrimitive_33 : decode prog_7_method_8_code 33 = .ok (.aload_n 0, 1) := by decide +kernel
theorem d_Ro_makePrimitive_34 : decode prog_7_method_8_code 34 = .ok (.iload_n 3, 1) := by decide +kernel
theorem d_Ro_makePrimitive_35 : decode prog_7_method_8_code 35 = .ok (.dup2, 1) := by decide +kernel
theorem d_Ro_makePrimitive_36 : decode prog_7_method_8_code 36 = .ok (.laload, 1) := by decide +kernel
theorem d_Ro_makePrimitive_37 : decode prog_7_method_8_code 37 = .ok (.lload_n 1, 1) := by decide +kernel
theorem d_Ro_makePrimitive_38 : decode prog_7_method_8_code 38 = .ok (.ldiv, 1) := by decide +kernel
theorem d_Ro_makePrimitive_39 : decode prog_7_method_8_code 39 = .ok (.lastore, 1) := by decide +kernel
theorem d_Ro_makePrimitive_40 : decode prog_7_method_8_code 40 = .ok (.iinc 3 1, 3) := by decide +kernel
theorem d_Ro_makePrimitive_43 : decode prog_7_method_8_code 43 = .ok (.goto (-16), 3) := by decide +kernel
theorem d_Ro_makePrimitive_46 : decode prog_7_method_8_code 46 = .ok (.lload_n 1, 1) := by decide +kernel
theorem d_Ro_makePrimitive_47 : decode prog_7_method_8_code 47 = .ok (.lreturn, 1) := by decide +kernel
def B_Ro_makePrimitive_27 (P : Int64 → zM → Prop) (a0 : Nat) (v1 : Int64) (k27 : Int32 → zM → Prop) (v3 : Int32) (M : zM) : Prop := 0 < zlong a0 ∧ ((Int32.ofNat (zlong a0)) ≤ v3 → P v1 M) ∧ (¬ (Int32.ofNat (zlong a0)) ≤ v3 → vp_in v3 (zlong a0) ∧ ¬ v1 = 0 ∧ vp_in v3 (zlong a0) ∧ ∀ M8 : zM, M8 = zput M a0 v3.toNatClampNeg ((M a0 v3.toNatClampNeg) / v1) → k27 (v3 + (1 : Int32)) M8)
def L_Ro_makePrimitive_27 (P : Int64 → zM → Prop) (a0 : Nat) (v1 : Int64) (n : Nat) : Int32 → zM → Prop := Nat.rec (fun _ _ => False) (fun _ k => B_Ro_makePrimitive_27 P a0 v1 k) n
def w_Ro_makePrimitive (a0 : Nat) (M : zM) (P : Int64 → zM → Prop) : Prop := w_Ro_contentOf a0 M (fun r1 => (¬ r1 = (0 : Int64) → w_Ro_leadingOf a0 M (fun r4 => ((0 : Int64) ≤ r4 → ∃ n, L_Ro_makePrimitive_27 P a0 r1 n (0 : Int32) M) ∧ (¬ (0 : Int64) ≤ r4 → ∀ x7 : Int64, x7 = -r1 → ∃ n, L_Ro_makePrimitive_27 P a0 x7 n (0 : Int32) M))) ∧ (r1 = (0 : Int64) → P (0 : Int64) M))
def ws_Ro_makePrimitive : List Cond := .code y_Ro_makePrimitive prog_7_method_8_code 4 (Option.some Jvm.ClassFile.FieldType.long) :: zall
def rm_Ro_makePrimitive : Room := { frames := 2, cells := 0, slots := 0, locals := 53 }
theorem hd_Ro_makePrimitive : y_Ro_makePrimitive.cls ≠ "java/lang/invoke/MethodHandle" ∧ y_Ro_makePrimitive.cls ≠ "java/lang/invoke/VarHandle" ∧ (parseMethodDescriptor y_Ro_makePrimitive.desc).map (fun d => d.parameters.length) = some 1 := by decide +kernel
set_option maxHeartbeats 4000000 in
set_option maxRecDepth 100000 in
theorem c_Ro_makePrimitive (l : Launch) (G : zG) (b : Nat) (a0 : Nat) (M : zM) (N : zN) {P : Int64 → zM → Prop} (hw : w_Ro_makePrimitive a0 M P) : Met l y_Ro_makePrimitive ws_Ro_makePrimitive rm_Ro_makePrimitive (zPc G b M N [.ref (b + a0)]) (zQl G b (fun r M' N' => P r M' ∧ N' = N)) 0 0 (zA b) := by
  refine Met.ofW (cc := prog_7_method_8_code) (maxL := 4) (ret := (Option.some Jvm.ClassFile.FieldType.long)) (by decide) rfl ?_
  intro p e s m args below meth c s₁ B hml hv
  obtain ⟨rfl, hZ, hK, hT⟩ := hv
  have hx := B.exec
  have hb := B.bytes
  have hr := B.returns
  have hts := atoms_spec (ws := ws_Ro_makePrimitive) B.pre
  have hta : ∀ w ∈ zall, w.before ([.ref (b + a0)] : List Value).toArray s = true := fun w h => hts w (List.mem_cons_of_mem _ h)
  have hown : s.vm.findClass R_Ro = some m.cls := findClass_of_methodNamed B.named
  have hlocks := B.notSynchronized
  have hS : va_S (zA b) s.heap s.heap [] := va_S.rf
  have hl := lv_entry ([.ref (b + a0)]) (n := 4) (Nat.le_of_ble_eq_true rfl)
  rw [lg_entry_eq]
  generalize (lg_sl ([.ref (b + a0)]) ++ List.replicate (4 - (lg_sl ([.ref (b + a0)])).length) Slot.unset).toArray = ls at hl ⊢
  have hl : lv_has ls 4 [(0, .ref (b + a0))] := hl
  have lp27 : ∀ (v1 : Int64) (n : Nat) (v3 : Int32) (M : zM) (H : Heap) (ls : Array Slot) (locs : List Loc), va_P G.1 zCl (zws G b M N) H → va_S (zA b) s.heap H locs → lv_has ls 4 [(0, .ref (b + a0)), (1, .long v1), (3, .int v3)] → L_Ro_makePrimitive_27 P a0 v1 n v3 M → W p l e (headSpec ws_Ro_makePrimitive rm_Ro_makePrimitive).room s m ([.ref (b + a0)] : List Value).toArray below meth c H locs 0 0 (MQ below (zQl G b (fun r M' N' => P r M' ∧ N' = N)) ([.ref (b + a0)] : List Value).toArray s 0 0 (zA b)) (F0 m 27 ls []) := by
    intro v1 n
    induction n with
    | zero => intro v3 M H ls locs hZ hS hl hw; exact False.elim hw
    | succ n27 ih27 =>
      intro v3 M H ls locs hZ hS hl hw
      have hw : B_Ro_makePrimitive_27 P a0 v1 (L_Ro_makePrimitive_27 P a0 v1 n27) v3 M := hw
      unfold B_Ro_makePrimitive_27 at hw
      refine lv_iload_n (pc := 27) hx hb d_Ro_makePrimitive_27 rfl (lv_at hl 2 rfl) ?_
      refine lv_aload_n (pc := 28) hx hb d_Ro_makePrimitive_28 rfl (lv_at hl 0 rfl) ?_
      obtain ⟨hc, hw⟩ := hw
      refine z_alen (pc := 29) hx hb hK hZ hc d_Ro_makePrimitive_29 ?_
      refine lv_icmp_ge (pc := 30) (tgt := 46) hx hb d_Ro_makePrimitive_30 (by decide) (fun hc => ?_) (fun hc => ?_)
      · have hw := hw.1 hc
        refine lv_lload_n (pc := 46) hx hb d_Ro_makePrimitive_46 rfl (lv_at hl 1 rfl) ?_
        exact z_lret hx hb hr hlocks hK hT hZ hS ⟨hw, rfl⟩ d_Ro_makePrimitive_47
      · have hw := hw.2 hc
        refine lv_aload_n (pc := 33) hx hb d_Ro_makePrimitive_33 rfl (lv_at hl 0 rfl) ?_
        refine lv_iload_n (pc := 34) hx hb d_Ro_makePrimitive_34 rfl (lv_at hl 2 rfl) ?_
        refine lv_dup2_11 (pc := 35) hx hb d_Ro_makePrimitive_35 rfl rfl ?_
        obtain ⟨hc, hw⟩ := hw
        refine z_lald (pc := 36) hx hb hK hZ hc d_Ro_makePrimitive_36 ?_
        refine lv_lload_n (pc := 37) hx hb d_Ro_makePrimitive_37 rfl (lv_at hl 1 rfl) ?_
        obtain ⟨hc, hw⟩ := hw
        refine lv_ldiv (pc := 38) hx hb d_Ro_makePrimitive_38 hc ?_
        obtain ⟨hc, hw⟩ := hw
        refine z_last (pc := 39) hx hb hK hZ hS hc d_Ro_makePrimitive_39 (fun M8 H locs hM8 hZ hS => ?_)
        have hw := hw M8 hM8
        refine lv_iinc (pc := 40) (k := 2) (v := v3 + (1 : Int32)) (lv' := [(3, .int (v3 + (1 : Int32))), (0, .ref (b + a0)), (1, .long v1)]) hx hb d_Ro_makePrimitive_40 hl rfl (by rfl) (by decide) rfl (fun ls hl => ?_)
        refine lv_goto (pc := 43) (tgt := 27) hx hb d_Ro_makePrimitive_43 (by decide) ?_
        exact ih27 (v3 + (1 : Int32)) M8 _ _ _ hZ hS (lv_sub hl [1, 2, 0] rfl) hw
  unfold w_Ro_makePrimitive at hw
  refine lv_aload_n (pc := 0) hx hb d_Ro_makePrimitive_0 rfl (lv_at hl 0 rfl) ?_
  refine z_calll (pc := 1) (va_runS (As := [.ref (b + a0)]) (rest := []) ⟨hx, hb, hml, hown, hts⟩ (c_Ro_contentOf l G b a0 M N hw) (va_cwS 1 hts (z_good (zgS wd444 wd445 wd13 wd446)) rfl rfl rfl hd_Ro_contentOf ⟨Nat.le_of_ble_eq_true rfl, Nat.le_of_ble_eq_true rfl⟩) (z_preS hZ hK hT hS) rfl rfl hl.1 rfl (lv_room (Nat.le_of_ble_eq_true rfl)) d_Ro_makePrimitive_1 ⟨Nat.le_of_ble_eq_true rfl, Nat.le_of_ble_eq_true rfl⟩) hS (fun r1 M2 N3 H locs hw hZ hS => ?_)
  obtain ⟨hw, eM2, eN3⟩ := hw
  rw [eM2, eN3] at hZ
  refine lv_lstore_n (pc := 4) (lv' := [(1, .long r1), (0, .ref (b + a0))]) hx hb d_Ro_makePrimitive_4 rfl hl (by decide) rfl (fun ls hl => ?_)
  refine lv_lload_n (pc := 5) hx hb d_Ro_makePrimitive_5 rfl (lv_at hl 0 rfl) ?_
  refine lv_lconst (pc := 6) (v := 0) hx hb d_Ro_makePrimitive_6 (by decide) ?_
  refine z_lc_ne (pc := 7) (tgt := 13) hx hb d_Ro_makePrimitive_7 d_Ro_makePrimitive_8 (by decide) (fun hc => ?_) (fun hc => ?_)
  · have hw := hw.1 hc
    refine lv_aload_n (pc := 13) hx hb d_Ro_makePrimitive_13 rfl (lv_at hl 1 rfl) ?_
    refine z_calll (pc := 14) (va_runS (As := [.ref (b + a0)]) (rest := []) ⟨hx, hb, hml, hown, hts⟩ (c_Ro_leadingOf l G b a0 M N hw) (va_cwS 1 hts (z_good (zgS wd450 wd451 wd13 wd452)) rfl rfl rfl hd_Ro_leadingOf ⟨Nat.le_of_ble_eq_true rfl, Nat.le_of_ble_eq_true rfl⟩) (z_preS hZ hK hT hS) rfl rfl hl.1 rfl (lv_room (Nat.le_of_ble_eq_true rfl)) d_Ro_makePrimitive_14 ⟨Nat.le_of_ble_eq_true rfl, Nat.le_of_ble_eq_true rfl⟩) hS (fun r4 M5 N6 H locs hw hZ hS => ?_)
    obtain ⟨hw, eM5, eN6⟩ := hw
    rw [eM5, eN6] at hZ
    refine lv_lconst (pc := 17) (v := 0) hx hb d_Ro_makePrimitive_17 (by decide) ?_
    refine z_lc_ge (pc := 18) (tgt := 25) hx hb d_Ro_makePrimitive_18 d_Ro_makePrimitive_19 (by decide) (fun hc => ?_) (fun hc => ?_)
    · have hw := hw.1 hc
      refine lv_iconst (pc := 25) (v := 0) hx hb d_Ro_makePrimitive_25 (by decide) ?_
      refine lv_istore_n (pc := 26) (lv' := [(3, .int (0 : Int32)), (1, .long r1), (0, .ref (b + a0))]) hx hb d_Ro_makePrimitive_26 rfl hl (by decide) rfl (fun ls hl => ?_)
      obtain ⟨n, hw⟩ := hw
      exact lp27 r1 n (0 : Int32) M _ _ _ hZ hS (lv_sub hl [2, 1, 0] rfl) hw
    · have hw := hw.2 hc
      refine lv_lload_n (pc := 22) hx hb d_Ro_makePrimitive_22 rfl (lv_at hl 0 rfl) ?_
      refine lv_lneg (pc := 23) hx hb d_Ro_makePrimitive_23 ?_
      refine lv_topl (fun x7 hx7 => ?_)
      have hw := hw x7 hx7
      refine lv_lstore_n (pc := 24) (lv' := [(1, .long x7), (0, .ref (b + a0))]) hx hb d_Ro_makePrimitive_24 rfl hl (by decide) rfl (fun ls hl => ?_)
      refine lv_iconst (pc := 25) (v := 0) hx hb d_Ro_makePrimitive_25 (by decide) ?_
      refine lv_istore_n (pc := 26) (lv' := [(3, .int (0 : Int32)), (1, .long x7), (0, .ref (b + a0))]) hx hb d_Ro_makePrimitive_26 rfl hl (by decide) rfl (fun ls hl => ?_)
      obtain ⟨n, hw⟩ := hw
      exact lp27 x7 n (0 : Int32) M _ _ _ hZ hS (lv_sub hl [2, 1, 0] rfl) hw
  · have hw := hw.2 hc
    refine lv_lconst (pc := 11) (v := 0) hx hb d_Ro_makePrimitive_11 (by decide) ?_
    exact z_lret hx hb hr hlocks hK hT hZ hS ⟨hw, rfl⟩ d_Ro_makePrimitive_12
theorem d_Re_residue_0 : decode prog_6_method_2_code 0 = .ok (.lload_n 2, 1) := by decide +kernel
theorem d_Re_residue_1 : decode prog_6_method_2_code 1 = .ok (.lconst 0, 1) := by decide +kernel
theorem d_Re_residue_2 : decode prog_6_method_2_code 2 = .ok (.lcmp, 1) := by decide +kernel
theorem d_Re_residue_3 : decode prog_6_method_2_code 3 = .ok (.ifCond .gt 5, 3) := by decide +kernel
theorem d_Re_residue_6 : decode prog_6_method_2_code 6 = .ok (.lconst 0, 1) := by decide +kernel
theorem d_Re_residue_7 : decode prog_6_method_2_code 7 = .ok (.lreturn, 1) := by decide +kernel
theorem d_Re_residue_8 : decode prog_6_method_2_code 8 = .ok (.lload_n 0, 1) := by decide +kernel
theorem d_Re_residue_9 : decode prog_6_method_2_code 9 = .ok (.lload_n 2, 1) := by decide +kernel
theorem d_Re_residue_10 : decode prog_6_method_2_code 10 = .ok (.lrem, 1) := by decide +kernel
theorem d_Re_residue_11 : decode prog_6_method_2_code 11 = .ok (.lstore 4, 2) := by decide +kernel
theorem d_Re_residue_13 : decode prog_6_method_2_code 13 = .ok (.lload 4, 2) := by decide +kernel
theorem d_Re_residue_15 : decode prog_6_method_2_code 15 = .ok (.lconst 0, 1) := by decide +kernel
theorem d_Re_residue_16 : decode prog_6_method_2_code 16 = .ok (.lcmp, 1) := by decide +kernel
theorem d_Re_residue_17 : decode prog_6_method_2_code 17 = .ok (.ifCond .ge 10, 3) := by decide +kernel
theorem d_Re_residue_20 : decode prog_6_method_2_code 20 = .ok (.lload 4, 2) := by decide +kernel
theorem d_Re_residue_22 : decode prog_6_method_2_code 22 = .ok (.lload_n 2, 1) := by decide +kernel
theorem d_Re_residue_23 : decode prog_6_method_2_code 23 = .ok (.ladd, 1) := by decide +kernel
theorem d_Re_residue_24 : decode prog_6_method_2_code 24 = .ok (.goto 5, 3) := by decide +kernel
theorem d_Re_residue_27 : decode prog_6_method_2_code 27 = .ok (.lload 4, 2) := by decide +kernel
theorem d_Re_residue_29 : decode prog_6_method_2_code 29 = .ok (.lreturn, 1) := by decide +kernel
def w_Re_residue (a0 : Int64) (a2 : Int64) (P : Int64 → Prop) : Prop := ((0 : Int64) < a2 → ¬ a2 = 0 ∧ ∀ x1 : Int64, x1 = a0 - a0 / a2 * a2 → ((0 : Int64) ≤ x1 → P x1) ∧ (¬ (0 : Int64) ≤ x1 → P (x1 + a2))) ∧ (¬ (0 : Int64) < a2 → P (0 : Int64))
def ws_Re_residue : List Cond := .code y_Re_residue prog_6_method_2_code 6 (Option.some Jvm.ClassFile.FieldType.long) :: zall
def rm_Re_residue : Room := { frames := 0, cells := 0, slots := 0, locals := 0 }
theorem hd_Re_residue : y_Re_residue.cls ≠ "java/lang/invoke/MethodHandle" ∧ y_Re_residue.cls ≠ "java/lang/invoke/VarHandle" ∧ (parseMethodDescriptor y_Re_residue.desc).map (fun d => d.parameters.length) = some 2 := by decide +kernel
set_option maxHeartbeats 4000000 in
set_option maxRecDepth 100000 in
theorem c_Re_residue (l : Launch) (G : zG) (b : Nat) (a0 : Int64) (a2 : Int64) (M : zM) (N : zN) {P : Int64 → Prop} (hw : w_Re_residue a0 a2  P) : Met l y_Re_residue ws_Re_residue rm_Re_residue (zPc G b M N [.long a0, .long a2]) (zQl G b (fun r M' N' => P r ∧ M' = M ∧ N' = N)) 0 0 (zA b) := by
  refine Met.ofW (cc := prog_6_method_2_code) (maxL := 6) (ret := (Option.some Jvm.ClassFile.FieldType.long)) (by decide) rfl ?_
  intro p e s m args below meth c s₁ B hml hv
  obtain ⟨rfl, hZ, hK, hT⟩ := hv
  have hx := B.exec
  have hb := B.bytes
  have hr := B.returns
  have hts := atoms_spec (ws := ws_Re_residue) B.pre
  have hta : ∀ w ∈ zall, w.before ([.long a0, .long a2] : List Value).toArray s = true := fun w h => hts w (List.mem_cons_of_mem _ h)
  have hown : s.vm.findClass R_Re = some m.cls := findClass_of_methodNamed B.named
  have hlocks := B.notSynchronized
  have hS : va_S (zA b) s.heap s.heap [] := va_S.rf
  have hl := lv_entry ([.long a0, .long a2]) (n := 6) (Nat.le_of_ble_eq_true rfl)
  rw [lg_entry_eq]
  generalize (lg_sl ([.long a0, .long a2]) ++ List.replicate (6 - (lg_sl ([.long a0, .long a2])).length) Slot.unset).toArray = ls at hl ⊢
  have hl : lv_has ls 6 [(0, .long a0), (2, .long a2)] := hl
  unfold w_Re_residue at hw
  refine lv_lload_n (pc := 0) hx hb d_Re_residue_0 rfl (lv_at hl 1 rfl) ?_
  refine lv_lconst (pc := 1) (v := 0) hx hb d_Re_residue_1 (by decide) ?_
  refine z_lc_gt (pc := 2) (tgt := 8) hx hb d_Re_residue_2 d_Re_residue_3 (by decide) (fun hc => ?_) (fun hc => ?_)
  · have hw := hw.1 hc
    refine lv_lload_n (pc := 8) hx hb d_Re_residue_8 rfl (lv_at hl 0 rfl) ?_
    refine lv_lload_n (pc := 9) hx hb d_Re_residue_9 rfl (lv_at hl 1 rfl) ?_
    obtain ⟨hc, hw⟩ := hw
    refine lv_lrem (pc := 10) hx hb d_Re_residue_10 hc ?_
    refine lv_topl (fun x1 hx1 => ?_)
    have hw := hw x1 hx1
    refine lv_lstore (pc := 11) (lv' := [(4, .long x1), (0, .long a0), (2, .long a2)]) hx hb d_Re_residue_11 hl (by decide) rfl (fun ls hl => ?_)
    refine lv_lload (pc := 13) hx hb d_Re_residue_13 (lv_at hl 0 rfl) ?_
    refine lv_lconst (pc := 15) (v := 0) hx hb d_Re_residue_15 (by decide) ?_
    refine z_lc_ge (pc := 16) (tgt := 27) hx hb d_Re_residue_16 d_Re_residue_17 (by decide) (fun hc => ?_) (fun hc => ?_)
    · have hw := hw.1 hc
      refine lv_lload (pc := 27) hx hb d_Re_residue_27 (lv_at hl 0 rfl) ?_
      exact z_lret hx hb hr hlocks hK hT hZ hS ⟨hw, rfl, rfl⟩ d_Re_residue_29
    · have hw := hw.2 hc
      refine lv_lload (pc := 20) hx hb d_Re_residue_20 (lv_at hl 0 rfl) ?_
      refine lv_lload_n (pc := 22) hx hb d_Re_residue_22 rfl (lv_at hl 2 rfl) ?_
      refine lv_ladd (pc := 23) hx hb d_Re_residue_23 ?_
      refine lv_goto (pc := 24) (tgt := 29) hx hb d_Re_residue_24 (by decide) ?_
      exact z_lret hx hb hr hlocks hK hT hZ hS ⟨hw, rfl, rfl⟩ d_Re_residue_29
  · have hw := hw.2 hc
    refine lv_lconst (pc := 6) (v := 0) hx hb d_Re_residue_6 (by decide) ?_
    exact z_lret hx hb hr hlocks hK hT hZ hS ⟨hw, rfl, rfl⟩ d_Re_residue_7
theorem d_Re_reduceInto_0 : decode prog_6_method_5_code 0 = .ok (.iconst 0, 1) := by decide +kernel
theorem d_Re_reduceInto_1 : decode prog_6_method_5_code 1 = .ok (.istore 4, 2) := by decide +kernel
theorem d_Re_reduceInto_3 : decode prog_6_method_5_code 3 = .ok (.iload 4, 2) := by decide +kernel
theorem d_Re_reduceInto_5 : decode prog_6_method_5_code 5 = .ok (.bipush 8, 2) := by decide +kernel
theorem d_Re_reduceInto_7 : decode prog_6_method_5_code 7 = .ok (.if_icmp .ge 21, 3) := by decide +kernel
theorem d_Re_reduceInto_10 : decode prog_6_method_5_code 10 = .ok (.aload_n 1, 1) := by decide +kernel
theorem d_Re_reduceInto_11 : decode prog_6_method_5_code 11 = .ok (.iload 4, 2) := by decide +kernel
theorem d_Re_reduceInto_13 : decode prog_6_method_5_code 13 = .ok (.aload_n 0, 1) := by decide +kernel
theorem d_Re_reduceInto_14 : decode prog_6_method_5_code 14 = .ok (.iload 4, 2) := by decide +kernel
theorem d_Re_reduceInto_16 : decode prog_6_method_5_code 16 = .ok (.laload, 1) := by decide +kernel
theorem d_Re_reduceInto_17 : decode prog_6_method_5_code 17 = .ok (.lload_n 2, 1) := by decide +kernel
theorem d_Re_reduceInto_18 : decode prog_6_method_5_code 18 = .ok (.invokestatic 9, 3) := by decide +kernel
theorem d_Re_reduceInto_21 : decode prog_6_method_5_code 21 = .ok (.lastore, 1) := by decide +kernel
theorem d_Re_reduceInto_22 : decode prog_6_method_5_code 22 = .ok (.iinc 4 1, 3) := by decide +kernel
theorem d_Re_reduceInto_25 : decode prog_6_method_5_code 25 = .ok (.goto (-22), 3) := by decide +kernel
theorem d_Re_reduceInto_28 : decode prog_6_method_5_code 28 = .ok (.return_, 1) := by decide +kernel
def B_Re_reduceInto_3 (P : zM → Prop) (a0 : Nat) (a1 : Nat) (a2 : Int64) (k3 : Int32 → zM → Prop) (v4 : Int32) (M : zM) : Prop := ((8 : Int32) ≤ v4 → P M) ∧ (¬ (8 : Int32) ≤ v4 → vp_in v4 (zlong a0) ∧ w_Re_residue (M a0 v4.toNatClampNeg) a2  (fun r1 => vp_in v4 (zlong a1) ∧ ∀ M4 : zM, M4 = zput M a1 v4.toNatClampNeg r1 → k3 (v4 + (1 : Int32)) M4))
def L_Re_reduceInto_3 (P : zM → Prop) (a0 : Nat) (a1 : Nat) (a2 : Int64) (n : Nat) : Int32 → zM → Prop := Nat.rec (fun _ _ => False) (fun _ k => B_Re_reduceInto_3 P a0 a1 a2 k) n
def w_Re_reduceInto (a0 : Nat) (a1 : Nat) (a2 : Int64) (M : zM) (P : zM → Prop) : Prop := ∃ n, L_Re_reduceInto_3 P a0 a1 a2 n (0 : Int32) M
def ws_Re_reduceInto : List Cond := .code y_Re_reduceInto prog_6_method_5_code 5 (Option.none : Option Jvm.ClassFile.FieldType) :: zall
def rm_Re_reduceInto : Room := { frames := 1, cells := 0, slots := 0, locals := 25 }
theorem hd_Re_reduceInto : y_Re_reduceInto.cls ≠ "java/lang/invoke/MethodHandle" ∧ y_Re_reduceInto.cls ≠ "java/lang/invoke/VarHandle" ∧ (parseMethodDescriptor y_Re_reduceInto.desc).map (fun d => d.parameters.length) = some 3 := by decide +kernel
set_option maxHeartbeats 4000000 in
set_option maxRecDepth 100000 in
theorem c_Re_reduceInto (l : Launch) (G : zG) (b : Nat) (a0 : Nat) (a1 : Nat) (a2 : Int64) (M : zM) (N : zN) {P : zM → Prop} (hw : w_Re_reduceInto a0 a1 a2 M P) : Met l y_Re_reduceInto ws_Re_reduceInto rm_Re_reduceInto (zPc G b M N [.ref (b + a0), .ref (b + a1), .long a2]) (zQv G b (fun M' N' => P M' ∧ N' = N)) 0 0 (zA b) := by
  refine Met.ofW (cc := prog_6_method_5_code) (maxL := 5) (ret := (Option.none : Option Jvm.ClassFile.FieldType)) (by decide) rfl ?_
  intro p e s m args below meth c s₁ B hml hv
  obtain ⟨rfl, hZ, hK, hT⟩ := hv
  have hx := B.exec
  have hb := B.bytes
  have hr := B.returns
  have hts := atoms_spec (ws := ws_Re_reduceInto) B.pre
  have hta : ∀ w ∈ zall, w.before ([.ref (b + a0), .ref (b + a1), .long a2] : List Value).toArray s = true := fun w h => hts w (List.mem_cons_of_mem _ h)
  have hown : s.vm.findClass R_Re = some m.cls := findClass_of_methodNamed B.named
  have hlocks := B.notSynchronized
  have hS : va_S (zA b) s.heap s.heap [] := va_S.rf
  have hl := lv_entry ([.ref (b + a0), .ref (b + a1), .long a2]) (n := 5) (Nat.le_of_ble_eq_true rfl)
  rw [lg_entry_eq]
  generalize (lg_sl ([.ref (b + a0), .ref (b + a1), .long a2]) ++ List.replicate (5 - (lg_sl ([.ref (b + a0), .ref (b + a1), .long a2])).length) Slot.unset).toArray = ls at hl ⊢
  have hl : lv_has ls 5 [(0, .ref (b + a0)), (1, .ref (b + a1)), (2, .long a2)] := hl
  have lp3 : ∀ (n : Nat) (v4 : Int32) (M : zM) (H : Heap) (ls : Array Slot) (locs : List Loc), va_P G.1 zCl (zws G b M N) H → va_S (zA b) s.heap H locs → lv_has ls 5 [(0, .ref (b + a0)), (1, .ref (b + a1)), (2, .long a2), (4, .int v4)] → L_Re_reduceInto_3 P a0 a1 a2 n v4 M → W p l e (headSpec ws_Re_reduceInto rm_Re_reduceInto).room s m ([.ref (b + a0), .ref (b + a1), .long a2] : List Value).toArray below meth c H locs 0 0 (MQ below (zQv G b (fun M' N' => P M' ∧ N' = N)) ([.ref (b + a0), .ref (b + a1), .long a2] : List Value).toArray s 0 0 (zA b)) (F0 m 3 ls []) := by
    intro  n
    induction n with
    | zero => intro v4 M H ls locs hZ hS hl hw; exact False.elim hw
    | succ n3 ih3 =>
      intro v4 M H ls locs hZ hS hl hw
      have hw : B_Re_reduceInto_3 P a0 a1 a2 (L_Re_reduceInto_3 P a0 a1 a2 n3) v4 M := hw
      unfold B_Re_reduceInto_3 at hw
      refine lv_iload (pc := 3) hx hb d_Re_reduceInto_3 (lv_at hl 3 rfl) ?_
      refine lv_bipush (pc := 5) (v := 8) hx hb d_Re_reduceInto_5 (by decide) ?_
      refine lv_icmp_ge (pc := 7) (tgt := 28) hx hb d_Re_reduceInto_7 (by decide) (fun hc => ?_) (fun hc => ?_)
      · have hw := hw.1 hc
        exact z_vret hx hb hr hlocks hK hT hZ hS ⟨hw, rfl⟩ d_Re_reduceInto_28
      · have hw := hw.2 hc
        refine lv_aload_n (pc := 10) hx hb d_Re_reduceInto_10 rfl (lv_at hl 1 rfl) ?_
        refine lv_iload (pc := 11) hx hb d_Re_reduceInto_11 (lv_at hl 3 rfl) ?_
        refine lv_aload_n (pc := 13) hx hb d_Re_reduceInto_13 rfl (lv_at hl 0 rfl) ?_
        refine lv_iload (pc := 14) hx hb d_Re_reduceInto_14 (lv_at hl 3 rfl) ?_
        obtain ⟨hc, hw⟩ := hw
        refine z_lald (pc := 16) hx hb hK hZ hc d_Re_reduceInto_16 ?_
        refine lv_lload_n (pc := 17) hx hb d_Re_reduceInto_17 rfl (lv_at hl 2 rfl) ?_
        refine z_calll (pc := 18) (va_runS (As := [.long (M a0 v4.toNatClampNeg), .long a2]) (rest := [.int v4, .ref (b + a1)]) ⟨hx, hb, hml, hown, hts⟩ (c_Re_residue l G b (M a0 v4.toNatClampNeg) a2 M N hw) (va_cwS 2 hts (z_good (zgS wd465 wd466 wd18 wd467)) rfl rfl rfl hd_Re_residue ⟨Nat.le_of_ble_eq_true rfl, Nat.le_of_ble_eq_true rfl⟩) (z_preS hZ hK hT hS) rfl rfl hl.1 rfl (lv_room (Nat.le_of_ble_eq_true rfl)) d_Re_reduceInto_18 ⟨Nat.le_of_ble_eq_true rfl, Nat.le_of_ble_eq_true rfl⟩) hS (fun r1 M2 N3 H locs hw hZ hS => ?_)
        obtain ⟨hw, eM2, eN3⟩ := hw
        rw [eM2, eN3] at hZ
        obtain ⟨hc, hw⟩ := hw
        refine z_last (pc := 21) hx hb hK hZ hS hc d_Re_reduceInto_21 (fun M4 H locs hM4 hZ hS => ?_)
        have hw := hw M4 hM4
        refine lv_iinc (pc := 22) (k := 3) (v := v4 + (1 : Int32)) (lv' := [(4, .int (v4 + (1 : Int32))), (0, .ref (b + a0)), (1, .ref (b + a1)), (2, .long a2)]) hx hb d_Re_reduceInto_22 hl rfl (by rfl) (by decide) rfl (fun ls hl => ?_)
        refine lv_goto (pc := 25) (tgt := 3) hx hb d_Re_reduceInto_25 (by decide) ?_
        exact ih3 (v4 + (1 : Int32)) M4 _ _ _ hZ hS (lv_sub hl [1, 2, 3, 0] rfl) hw
  unfold w_Re_reduceInto at hw
  refine lv_iconst (pc := 0) (v := 0) hx hb d_Re_reduceInto_0 (by decide) ?_
  refine lv_istore (pc := 1) (lv' := [(4, .int (0 : Int32)), (0, .ref (b + a0)), (1, .ref (b + a1)), (2, .long a2)]) hx hb d_Re_reduceInto_1 hl (by decide) rfl (fun ls hl => ?_)
  obtain ⟨n, hw⟩ := hw
  exact lp3  n (0 : Int32) M _ _ _ hZ hS (lv_sub hl [1, 2, 3, 0] rfl) hw
theorem d_Re_inverseOf_0 : decode prog_6_method_4_code 0 = .ok (.lload_n 2, 1) := by decide +kernel
theorem d_Re_inverseOf_1 : decode prog_6_method_4_code 1 = .ok (.lconst 0, 1) := by decide +kernel
theorem d_Re_inverseOf_2 : decode prog_6_method_4_code 2 = .ok (.lcmp, 1) := by decide +kernel
theorem d_Re_inverseOf_3 : decode prog_6_method_4_code 3 = .ok (.ifCond .gt 5, 3) := by decide +kernel
theorem d_Re_inverseOf_6 : decode prog_6_method_4_code 6 = .ok (.lconst 0, 1) := by decide +kernel
theorem d_Re_inverseOf_7 : decode prog_6_method_4_code 7 = .ok (.lreturn, 1) := by decide +kernel
theorem d_Re_inverseOf_8 : decode prog_6_method_4_code 8 = .ok (.lload_n 0, 1) := by decide +kernel
theorem d_Re_inverseOf_9 : decode prog_6_method_4_code 9 = .ok (.lload_n 2, 1) := by decide +kernel
theorem d_Re_inverseOf_10 : decode prog_6_method_4_code 10 = .ok (.lrem, 1) := by decide +kernel
theorem d_Re_inverseOf_11 : decode prog_6_method_4_code 11 = .ok (.lstore 4, 2) := by decide +kernel
theorem d_Re_inverseOf_13 : decode prog_6_method_4_code 13 = .ok (.lconst 1, 1) := by decide +kernel
theorem d_Re_inverseOf_14 : decode prog_6_method_4_code 14 = .ok (.lstore 6, 2) := by decide +kernel
theorem d_Re_inverseOf_16 : decode prog_6_method_4_code 16 = .ok (.lload_n 2, 1) := by decide +kernel
theorem d_Re_inverseOf_17 : decode prog_6_method_4_code 17 = .ok (.ldc2_w 15, 3) := by decide +kernel
theorem d_Re_inverseOf_20 : decode prog_6_method_4_code 20 = .ok (.lsub, 1) := by decide +kernel
theorem d_Re_inverseOf_21 : decode prog_6_method_4_code 21 = .ok (.lstore 8, 2) := by decide +kernel
theorem d_Re_inverseOf_23 : decode prog_6_method_4_code 23 = .ok (.lload 8, 2) := by decide +kernel
theorem d_Re_inverseOf_25 : decode prog_6_method_4_code 25 = .ok (.lconst 0, 1) := by decide +kernel
theorem d_Re_inverseOf_26 : decode prog_6_method_4_code 26 = .ok (.lcmp, 1) := by decide +kernel
theorem d_Re_inverseOf_27 : decode prog_6_method_4_code 27 = .ok (.ifCond .le 39, 3) := by decide +kernel
theorem d_Re_inverseOf_30 : decode prog_6_method_4_code 30 = .ok (.lload 8, 2) := by decide +kernel
theorem d_Re_inverseOf_32 : decode prog_6_method_4_code 32 = .ok (.lconst 1, 1) := by decide +kernel
theorem d_Re_inverseOf_33 : decode prog_6_method_4_code 33 = .ok (.land, 1) := by decide +kernel
theorem d_Re_inverseOf_34 : decode prog_6_method_4_code 34 = .ok (.lconst 1, 1) := by decide +kernel
theorem d_Re_inverseOf_35 : decode prog_6_method_4_code 35 = .ok (.lcmp, 1) := by decide +kernel
theorem d_Re_inverseOf_36 : decode prog_6_method_4_code 36 = .ok (.ifCond .ne 12, 3) := by decide +kernel
theorem d_Re_inverseOf_39 : decode prog_6_method_4_code 39 = .ok (.lload 6, 2) := by decide +kernel
theorem d_Re_inverseOf_41 : decode prog_6_method_4_code 41 = .ok (.lload 4, 2) := by decide +kernel
theorem d_Re_inverseOf_43 : decode prog_6_method_4_code 43 = .ok (.lmul, 1) := by decide +kernel
theorem d_Re_inverseOf_44 : decode prog_6_method_4_code 44 = .ok (.lload_n 2, 1) := by decide +kernel
theorem d_Re_inverseOf_45 : decode prog_6_method_4_code 45 = .ok (.lrem, 1) := by decide +kernel
theorem d_Re_inverseOf_46 : decode prog_6_method_4_code 46 = .ok (.lstore 6, 2) := by decide +kernel
theorem d_Re_inverseOf_48 : decode prog_6_method_4_code 48 = .ok (.lload 4, 2) := by decide +kernel
theorem d_Re_inverseOf_50 : decode prog_6_method_4_code 50 = .ok (.lload 4, 2) := by decide +kernel
theorem d_Re_inverseOf_52 : decode prog_6_method_4_code 52 = .ok (.lmul, 1) := by decide +kernel
theorem d_Re_inverseOf_53 : decode prog_6_method_4_code 53 = .ok (.lload_n 2, 1) := by decide +kernel
theorem d_Re_inverseOf_54 : decode prog_6_method_4_code 54 = .ok (.lrem, 1) := by decide +kernel
theorem d_Re_inverseOf_55 : decode prog_6_method_4_code 55 = .ok (.lstore 4, 2) := by decide +kernel
theorem d_Re_inverseOf_57 : decode prog_6_method_4_code 57 = .ok (.lload 8, 2) := by decide +kernel
theorem d_Re_inverseOf_59 : decode prog_6_method_4_code 59 = .ok (.iconst 1, 1) := by decide +kernel
theorem d_Re_inverseOf_60 : decode prog_6_method_4_code 60 = .ok (.lshr, 1) := by decide +kernel
theorem d_Re_inverseOf_61 : decode prog_6_method_4_code 61 = .ok (.lstore 8, 2) := by decide +kernel
theorem d_Re_inverseOf_63 : decode prog_6_method_4_code 63 = .ok (.goto (-40), 3) := by decide +kernel
theorem d_Re_inverseOf_66 : decode prog_6_method_4_code 66 = .ok (.lload 6, 2) := by decide +kernel
theorem d_Re_inverseOf_68 : decode prog_6_method_4_code 68 = .ok (.lreturn, 1) := by decide +kernel
def J_Re_inverseOf_48 (P : Int64 → Prop) (k23 : Int64 → Int64 → Int64 → Prop) (a2 : Int64) (v4 : Int64) (v6 : Int64) (v8 : Int64) : Prop := ¬ a2 = 0 ∧ ∀ x4 : Int64, x4 = (v4 * v4) - (v4 * v4) / a2 * a2 → ∀ x5 : Int64, x5 = v8 >>> ((1 : Int32).toInt64 &&& 63) → k23 x4 v6 x5
def B_Re_inverseOf_23 (P : Int64 → Prop) (a2 : Int64) (k23 : Int64 → Int64 → Int64 → Prop) (v4 : Int64) (v6 : Int64) (v8 : Int64) : Prop := (v8 ≤ (0 : Int64) → P v6) ∧ (¬ v8 ≤ (0 : Int64) → (¬ (v8 &&& (1 : Int64)) = (1 : Int64) → J_Re_inverseOf_48 P k23 a2 v4 v6 v8) ∧ ((v8 &&& (1 : Int64)) = (1 : Int64) → ¬ a2 = 0 ∧ ∀ x3 : Int64, x3 = (v6 * v4) - (v6 * v4) / a2 * a2 → J_Re_inverseOf_48 P k23 a2 v4 x3 v8))
def L_Re_inverseOf_23 (P : Int64 → Prop) (a2 : Int64) (n : Nat) : Int64 → Int64 → Int64 → Prop := Nat.rec (fun _ _ _ => False) (fun _ k => B_Re_inverseOf_23 P a2 k) n
def w_Re_inverseOf (a0 : Int64) (a2 : Int64) (P : Int64 → Prop) : Prop := ((0 : Int64) < a2 → ¬ a2 = 0 ∧ ∀ x1 : Int64, x1 = a0 - a0 / a2 * a2 → ∀ x2 : Int64, x2 = a2 - (2 : Int64) → ∃ n, L_Re_inverseOf_23 P a2 n x1 (1 : Int64) x2) ∧ (¬ (0 : Int64) < a2 → P (0 : Int64))
def ws_Re_inverseOf : List Cond := .code y_Re_inverseOf prog_6_method_4_code 10 (Option.some Jvm.ClassFile.FieldType.long) :: zall
def rm_Re_inverseOf : Room := { frames := 0, cells := 0, slots := 0, locals := 0 }
theorem hd_Re_inverseOf : y_Re_inverseOf.cls ≠ "java/lang/invoke/MethodHandle" ∧ y_Re_inverseOf.cls ≠ "java/lang/invoke/VarHandle" ∧ (parseMethodDescriptor y_Re_inverseOf.desc).map (fun d => d.parameters.length) = some 2 := by decide +kernel
set_option maxHeartbeats 4000000 in
set_option maxRecDepth 100000 in
theorem c_Re_inverseOf (l : Launch) (G : zG) (b : Nat) (a0 : Int64) (a2 : Int64) (M : zM) (N : zN) {P : Int64 → Prop} (hw : w_Re_inverseOf a0 a2  P) : Met l y_Re_inverseOf ws_Re_inverseOf rm_Re_inverseOf (zPc G b M N [.long a0, .long a2]) (zQl G b (fun r M' N' => P r ∧ M' = M ∧ N' = N)) 0 0 (zA b) := by
  refine Met.ofW (cc := prog_6_method_4_code) (maxL := 10) (ret := (Option.some Jvm.ClassFile.FieldType.long)) (by decide) rfl ?_
  intro p e s m args below meth c s₁ B hml hv
  obtain ⟨rfl, hZ, hK, hT⟩ := hv
  have hx := B.exec
  have hb := B.bytes
  have hr := B.returns
  have hts := atoms_spec (ws := ws_Re_inverseOf) B.pre
  have hta : ∀ w ∈ zall, w.before ([.long a0, .long a2] : List Value).toArray s = true := fun w h => hts w (List.mem_cons_of_mem _ h)
  have hown : s.vm.findClass R_Re = some m.cls := findClass_of_methodNamed B.named
  have hlocks := B.notSynchronized
  have hS : va_S (zA b) s.heap s.heap [] := va_S.rf
  have hl := lv_entry ([.long a0, .long a2]) (n := 10) (Nat.le_of_ble_eq_true rfl)
  rw [lg_entry_eq]
  generalize (lg_sl ([.long a0, .long a2]) ++ List.replicate (10 - (lg_sl ([.long a0, .long a2])).length) Slot.unset).toArray = ls at hl ⊢
  have hl : lv_has ls 10 [(0, .long a0), (2, .long a2)] := hl
  have lp23 : ∀ (n : Nat) (v4 : Int64) (v6 : Int64) (v8 : Int64) (H : Heap) (ls : Array Slot) (locs : List Loc), va_P G.1 zCl (zws G b M N) H → va_S (zA b) s.heap H locs → lv_has ls 10 [(2, .long a2), (4, .long v4), (6, .long v6), (8, .long v8)] → L_Re_inverseOf_23 P a2 n v4 v6 v8 → W p l e (headSpec ws_Re_inverseOf rm_Re_inverseOf).room s m ([.long a0, .long a2] : List Value).toArray below meth c H locs 0 0 (MQ below (zQl G b (fun r M' N' => P r ∧ M' = M ∧ N' = N)) ([.long a0, .long a2] : List Value).toArray s 0 0 (zA b)) (F0 m 23 ls []) := by
    intro  n
    induction n with
    | zero => intro v4 v6 v8 H ls locs hZ hS hl hw; exact False.elim hw
    | succ n23 ih23 =>
      have j48 : ∀ (v4 : Int64) (v6 : Int64) (v8 : Int64) (H : Heap) (ls : Array Slot) (locs : List Loc), va_P G.1 zCl (zws G b M N) H → va_S (zA b) s.heap H locs → lv_has ls 10 [(2, .long a2), (4, .long v4), (6, .long v6), (8, .long v8)] → J_Re_inverseOf_48 P (L_Re_inverseOf_23 P a2 n23) a2 v4 v6 v8 → W p l e (headSpec ws_Re_inverseOf rm_Re_inverseOf).room s m ([.long a0, .long a2] : List Value).toArray below meth c H locs 0 0 (MQ below (zQl G b (fun r M' N' => P r ∧ M' = M ∧ N' = N)) ([.long a0, .long a2] : List Value).toArray s 0 0 (zA b)) (F0 m 48 ls []) := by
        intro v4 v6 v8 H ls locs hZ hS hl hw
        unfold J_Re_inverseOf_48 at hw
        refine lv_lload (pc := 48) hx hb d_Re_inverseOf_48 (lv_at hl 1 rfl) ?_
        refine lv_lload (pc := 50) hx hb d_Re_inverseOf_50 (lv_at hl 1 rfl) ?_
        refine lv_lmul (pc := 52) hx hb d_Re_inverseOf_52 ?_
        refine lv_lload_n (pc := 53) hx hb d_Re_inverseOf_53 rfl (lv_at hl 0 rfl) ?_
        obtain ⟨hc, hw⟩ := hw
        refine lv_lrem (pc := 54) hx hb d_Re_inverseOf_54 hc ?_
        refine lv_topl (fun x4 hx4 => ?_)
        have hw := hw x4 hx4
        refine lv_lstore (pc := 55) (lv' := [(4, .long x4), (2, .long a2), (6, .long v6), (8, .long v8)]) hx hb d_Re_inverseOf_55 hl (by decide) rfl (fun ls hl => ?_)
        refine lv_lload (pc := 57) hx hb d_Re_inverseOf_57 (lv_at hl 3 rfl) ?_
        refine lv_iconst (pc := 59) (v := 1) hx hb d_Re_inverseOf_59 (by decide) ?_
        refine lv_lshr (pc := 60) (v := v8 >>> ((1 : Int32).toInt64 &&& 63)) hx hb d_Re_inverseOf_60 rfl ?_
        refine lv_topl (fun x5 hx5 => ?_)
        have hw := hw x5 hx5
        refine lv_lstore (pc := 61) (lv' := [(8, .long x5), (4, .long x4), (2, .long a2), (6, .long v6)]) hx hb d_Re_inverseOf_61 hl (by decide) rfl (fun ls hl => ?_)
        refine lv_goto (pc := 63) (tgt := 23) hx hb d_Re_inverseOf_63 (by decide) ?_
        exact ih23 x4 v6 x5 _ _ _ hZ hS (lv_sub hl [2, 1, 3, 0] rfl) hw
      intro v4 v6 v8 H ls locs hZ hS hl hw
      have hw : B_Re_inverseOf_23 P a2 (L_Re_inverseOf_23 P a2 n23) v4 v6 v8 := hw
      unfold B_Re_inverseOf_23 at hw
      refine lv_lload (pc := 23) hx hb d_Re_inverseOf_23 (lv_at hl 3 rfl) ?_
      refine lv_lconst (pc := 25) (v := 0) hx hb d_Re_inverseOf_25 (by decide) ?_
      refine z_lc_le (pc := 26) (tgt := 66) hx hb d_Re_inverseOf_26 d_Re_inverseOf_27 (by decide) (fun hc => ?_) (fun hc => ?_)
      · have hw := hw.1 hc
        refine lv_lload (pc := 66) hx hb d_Re_inverseOf_66 (lv_at hl 2 rfl) ?_
        exact z_lret hx hb hr hlocks hK hT hZ hS ⟨hw, rfl, rfl⟩ d_Re_inverseOf_68
      · have hw := hw.2 hc
        refine lv_lload (pc := 30) hx hb d_Re_inverseOf_30 (lv_at hl 3 rfl) ?_
        refine lv_lconst (pc := 32) (v := 1) hx hb d_Re_inverseOf_32 (by decide) ?_
        refine lv_land (pc := 33) hx hb d_Re_inverseOf_33 ?_
        refine lv_lconst (pc := 34) (v := 1) hx hb d_Re_inverseOf_34 (by decide) ?_
        refine z_lc_ne (pc := 35) (tgt := 48) hx hb d_Re_inverseOf_35 d_Re_inverseOf_36 (by decide) (fun hc => ?_) (fun hc => ?_)
        · have hw := hw.1 hc
          exact j48 v4 v6 v8 _ _ _ hZ hS hl hw
        · have hw := hw.2 hc
          refine lv_lload (pc := 39) hx hb d_Re_inverseOf_39 (lv_at hl 2 rfl) ?_
          refine lv_lload (pc := 41) hx hb d_Re_inverseOf_41 (lv_at hl 1 rfl) ?_
          refine lv_lmul (pc := 43) hx hb d_Re_inverseOf_43 ?_
          refine lv_lload_n (pc := 44) hx hb d_Re_inverseOf_44 rfl (lv_at hl 0 rfl) ?_
          obtain ⟨hc, hw⟩ := hw
          refine lv_lrem (pc := 45) hx hb d_Re_inverseOf_45 hc ?_
          refine lv_topl (fun x3 hx3 => ?_)
          have hw := hw x3 hx3
          refine lv_lstore (pc := 46) (lv' := [(6, .long x3), (2, .long a2), (4, .long v4), (8, .long v8)]) hx hb d_Re_inverseOf_46 hl (by decide) rfl (fun ls hl => ?_)
          exact j48 v4 x3 v8 _ _ _ hZ hS (lv_sub hl [1, 2, 0, 3] rfl) hw
  unfold w_Re_inverseOf at hw
  refine lv_lload_n (pc := 0) hx hb d_Re_inverseOf_0 rfl (lv_at hl 1 rfl) ?_
  refine lv_lconst (pc := 1) (v := 0) hx hb d_Re_inverseOf_1 (by decide) ?_
  refine z_lc_gt (pc := 2) (tgt := 8) hx hb d_Re_inverseOf_2 d_Re_inverseOf_3 (by decide) (fun hc => ?_) (fun hc => ?_)
  · have hw := hw.1 hc
    refine lv_lload_n (pc := 8) hx hb d_Re_inverseOf_8 rfl (lv_at hl 0 rfl) ?_
    refine lv_lload_n (pc := 9) hx hb d_Re_inverseOf_9 rfl (lv_at hl 1 rfl) ?_
    obtain ⟨hc, hw⟩ := hw
    refine lv_lrem (pc := 10) hx hb d_Re_inverseOf_10 hc ?_
    refine lv_topl (fun x1 hx1 => ?_)
    have hw := hw x1 hx1
    refine lv_lstore (pc := 11) (lv' := [(4, .long x1), (0, .long a0), (2, .long a2)]) hx hb d_Re_inverseOf_11 hl (by decide) rfl (fun ls hl => ?_)
    refine lv_lconst (pc := 13) (v := 1) hx hb d_Re_inverseOf_13 (by decide) ?_
    refine lv_lstore (pc := 14) (lv' := [(6, .long (1 : Int64)), (4, .long x1), (0, .long a0), (2, .long a2)]) hx hb d_Re_inverseOf_14 hl (by decide) rfl (fun ls hl => ?_)
    refine lv_lload_n (pc := 16) hx hb d_Re_inverseOf_16 rfl (lv_at hl 3 rfl) ?_
    refine lv_ldc2 (pc := 17) (v := 2) hx hb hown (hta _ wd479) d_Re_inverseOf_17 ?_
    refine lv_lsub (pc := 20) hx hb d_Re_inverseOf_20 ?_
    refine lv_topl (fun x2 hx2 => ?_)
    have hw := hw x2 hx2
    refine lv_lstore (pc := 21) (lv' := [(8, .long x2), (6, .long (1 : Int64)), (4, .long x1), (0, .long a0), (2, .long a2)]) hx hb d_Re_inverseOf_21 hl (by decide) rfl (fun ls hl => ?_)
    obtain ⟨n, hw⟩ := hw
    exact lp23  n x1 (1 : Int64) x2 _ _ _ hZ hS (lv_sub hl [4, 2, 1, 0] rfl) hw
  · have hw := hw.2 hc
    refine lv_lconst (pc := 6) (v := 0) hx hb d_Re_inverseOf_6 (by decide) ?_
    exact z_lret hx hb hr hlocks hK hT hZ hS ⟨hw, rfl, rfl⟩ d_Re_inverseOf_7
theorem d_Re_divideOut_0 : decode prog_6_method_7_code 0 = .ok (.aload_n 1, 1) := by decide +kernel
theorem d_Re_divideOut_1 : decode prog_6_method_7_code 1 = .ok (.invokestatic 17, 3) := by decide +kernel
theorem d_Re_divideOut_4 : decode prog_6_method_7_code 4 = .ok (.istore 5, 2) := by decide +kernel
theorem d_Re_divideOut_6 : decode prog_6_method_7_code 6 = .ok (.aload_n 2, 1) := by decide +kernel
theorem d_Re_divideOut_7 : decode prog_6_method_7_code 7 = .ok (.lconst 0, 1) := by decide +kernel
theorem d_Re_divideOut_8 : decode prog_6_method_7_code 8 = .ok (.invokestatic 26, 3) := by decide +kernel
theorem d_Re_divideOut_11 : decode prog_6_method_7_code 11 = .ok (.iload 5, 2) := by decide +kernel
theorem d_Re_divideOut_13 : decode prog_6_method_7_code 13 = .ok (.ifCond .ge 4, 3) := by decide +kernel
theorem d_Re_divideOut_16 : decode prog_6_method_7_code 16 = .ok (.return_, 1) := by decide +kernel
theorem d_Re_divideOut_17 : decode prog_6_method_7_code 17 = .ok (.aload_n 1, 1) := by decide +kernel
theorem d_Re_divideOut_18 : decode prog_6_method_7_code 18 = .ok (.iload 5, 2) := by decide +kernel
theorem d_Re_divideOut_20 : decode prog_6_method_7_code 20 = .ok (.laload, 1) := by decide +kernel
theorem d_Re_divideOut_21 : decode prog_6_method_7_code 21 = .ok (.lload_n 3, 1) := by decide +kernel
theorem d_Re_divideOut_22 : decode prog_6_method_7_code 22 = .ok (.invokestatic 23, 3) := by decide +kernel
theorem d_Re_divideOut_25 : decode prog_6_method_7_code 25 = .ok (.lstore 6, 2) := by decide +kernel
theorem d_Re_divideOut_27 : decode prog_6_method_7_code 27 = .ok (.aload_n 0, 1) := by decide +kernel
theorem d_Re_divideOut_28 : decode prog_6_method_7_code 28 = .ok (.invokestatic 17, 3) := by decide +kernel
theorem d_Re_divideOut_31 : decode prog_6_method_7_code 31 = .ok (.iload 5, 2) := by decide +kernel
theorem d_Re_divideOut_33 : decode prog_6_method_7_code 33 = .ok (.isub, 1) := by decide +kernel
theorem d_Re_divideOut_34 : decode prog_6_method_7_code 34 = .ok (.istore 8, 2) := by decide +kernel
theorem d_Re_divideOut_36 : decode prog_6_method_7_code 36 = .ok (.iload 8, 2) := by decide +kernel
theorem d_Re_divideOut_38 : decode prog_6_method_7_code 38 = .ok (.ifCond .lt 73, 3) := by decide +kernel
theorem d_Re_divideOut_41 : decode prog_6_method_7_code 41 = .ok (.aload_n 0, 1) := by decide +kernel
theorem d_Re_divideOut_42 : decode prog_6_method_7_code 42 = .ok (.iload 8, 2) := by decide +kernel
theorem d_Re_divideOut_44 : decode prog_6_method_7_code 44 = .ok (.iload 5, 2) := by decide +kernel
theorem d_Re_divideOut_46 : decode prog_6_method_7_code 46 = .ok (.iadd, 1) := by decide +kernel
theorem d_Re_divideOut_47 : decode prog_6_method_7_code 47 = .ok (.laload, 1) := by decide +kernel
theorem d_Re_divideOut_48 : decode prog_6_method_7_code 48 = .ok (.lload 6, 2) := by decide +kernel
theorem d_Re_divideOut_50 : decode prog_6_method_7_code 50 = .ok (.lmul, 1) := by decide +kernel
theorem d_Re_divideOut_51 : decode prog_6_method_7_code 51 = .ok (.lload_n 3, 1) := by decide +kernel
theorem d_Re_divideOut_52 : decode prog_6_method_7_code 52 = .ok (.invokestatic 9, 3) := by decide +kernel
theorem d_Re_divideOut_55 : decode prog_6_method_7_code 55 = .ok (.lstore 9, 2) := by decide +kernel
theorem d_Re_divideOut_57 : decode prog_6_method_7_code 57 = .ok (.iconst 0, 1) := by decide +kernel
theorem d_Re_divideOut_58 : decode prog_6_method_7_code 58 = .ok (.istore 11, 2) := by decide +kernel
theorem d_Re_divideOut_60 : decode prog_6_method_7_code 60 = .ok (.iload 11, 2) := by decide +kernel
theorem d_Re_divideOut_62 : decode prog_6_method_7_code 62 = .ok (.iload 5, 2) := by decide +kernel
theorem d_Re_divideOut_64 : decode prog_6_method_7_code 64 = .ok (.if_icmp .gt 35, 3) := by decide +kernel
theorem d_Re_divideOut_67 : decode prog_6_method_7_code 67 = .ok (.aload_n 0, 1) := by decide +kernel
theorem d_Re_divideOut_68 : decode prog_6_method_7_code 68 = .ok (.iload 8, 2) := by decide +kernel
theorem d_Re_divideOut_70 : decode prog_6_method_7_code 70 = .ok (.iload 11, 2) := by decide +kernel
theorem d_Re_divideOut_72 : decode prog_6_method_7_code 72 = .ok (.iadd, 1) := by decide +kernel
theorem d_Re_divideOut_73 : decode prog_6_method_7_code 73 = .ok (.aload_n 0, 1) := by decide +kernel
theorem d_Re_divideOut_74 : decode prog_6_method_7_code 74 = .ok (.iload 8, 2) := by decide +kernel
theorem d_Re_divideOut_76 : decode prog_6_method_7_code 76 = .ok (.iload 11, 2) := by decide +kernel
theorem d_Re_divideOut_78 : decode prog_6_method_7_code 78 = .ok (.iadd, 1) := by decide +kernel
theorem d_Re_divideOut_79 : decode prog_6_method_7_code 79 = .ok (.laload, 1) := by decide +kernel
theorem d_Re_divideOut_80 : decode prog_6_method_7_code 80 = .ok (.lload 9, 2) := by decide +kernel
theorem d_Re_divideOut_82 : decode prog_6_method_7_code 82 = .ok (.aload_n 1, 1) := by decide +kernel
theorem d_Re_divideOut_83 : decode prog_6_method_7_code 83 = .ok (.iload 11, 2) := by decide +kernel
theorem d_Re_divideOut_85 : decode prog_6_method_7_code 85 = .ok (.laload, 1) := by decide +kernel
theorem d_Re_divideOut_86 : decode prog_6_method_7_code 86 = .ok (.lmul, 1) := by decide +kernel
theorem d_Re_divideOut_87 : decode prog_6_method_7_code 87 = .ok (.lsub, 1) := by decide +kernel
theorem d_Re_divideOut_88 : decode prog_6_method_7_code 88 = .ok (.lload_n 3, 1) := by decide +kernel
theorem d_Re_divideOut_89 : decode prog_6_method_7_code 89 = .ok (.invokestatic 9, 3) := by decide +kernel
theorem d_Re_divideOut_92 : decode prog_6_method_7_code 92 = .ok (.lastore, 1) := by decide +kernel
theorem d_Re_divideOut_93 : decode prog_6_method_7_code 93 = .ok (.iinc 11 1, 3) := by decide +kernel
theorem d_Re_divideOut_96 : decode prog_6_method_7_code 96 = .ok (.goto (-36), 3) := by decide +kernel
theorem d_Re_divideOut_99 : decode prog_6_method_7_code 99 = .ok (.aload_n 2, 1) := by decide +kernel
theorem d_Re_divideOut_100 : decode prog_6_method_7_code 100 = .ok (.iload 8, 2) := by decide +kernel
theorem d_Re_divideOut_102 : decode prog_6_method_7_code 102 = .ok (.lload 9, 2) := by decide +kernel
theorem d_Re_divideOut_104 : decode prog_6_method_7_code 104 = .ok (.lastore, 1) := by decide +kernel
theorem d_Re_divideOut_105 : decode prog_6_method_7_code 105 = .ok (.iinc 8 (-1), 3) := by decide +kernel
theorem d_Re_divideOut_108 : decode prog_6_method_7_code 108 = .ok (.goto (-72), 3) := by decide +kernel
theorem d_Re_divideOut_111 : decode prog_6_method_7_code 111 = .ok (.return_, 1) := by decide +kernel
def B_Re_divideOut_60 (P : zM → Prop) (k36 : Int32 → zM → Prop) (a0 : Nat) (a1 : Nat) (a2 : Nat) (a3 : Int64) (v5 : Int32) (v6 : Int64) (v8 : Int32) (v9 : Int64) (k60 : Int32 → zM → Prop) (v11 : Int32) (M : zM) : Prop := (v5 < v11 → vp_in v8 (zlong a2) ∧ ∀ M17 : zM, M17 = zput M a2 v8.toNatClampNeg v9 → k36 (v8 + (-1 : Int32)) M17) ∧ (¬ v5 < v11 → vp_in (v8 + v11) (zlong a0) ∧ vp_in v11 (zlong a1) ∧ w_Re_residue ((M a0 (v8 + v11).toNatClampNeg) - (v9 * (M a1 v11.toNatClampNeg))) a3  (fun r18 => vp_in (v8 + v11) (zlong a0) ∧ ∀ M21 : zM, M21 = zput M a0 (v8 + v11).toNatClampNeg r18 → k60 (v11 + (1 : Int32)) M21))
def L_Re_divideOut_60 (P : zM → Prop) (k36 : Int32 → zM → Prop) (a0 : Nat) (a1 : Nat) (a2 : Nat) (a3 : Int64) (v5 : Int32) (v6 : Int64) (v8 : Int32) (v9 : Int64) (n : Nat) : Int32 → zM → Prop := Nat.rec (fun _ _ => False) (fun _ k => B_Re_divideOut_60 P k36 a0 a1 a2 a3 v5 v6 v8 v9 k) n
def B_Re_divideOut_36 (P : zM → Prop) (a0 : Nat) (a1 : Nat) (a2 : Nat) (a3 : Int64) (v5 : Int32) (v6 : Int64) (k36 : Int32 → zM → Prop) (v8 : Int32) (M : zM) : Prop := (v8 < 0 → P M) ∧ (¬ v8 < 0 → vp_in (v8 + v5) (zlong a0) ∧ w_Re_residue ((M a0 (v8 + v5).toNatClampNeg) * v6) a3  (fun r14 => ∃ n, L_Re_divideOut_60 P k36 a0 a1 a2 a3 v5 v6 v8 r14 n (0 : Int32) M))
def L_Re_divideOut_36 (P : zM → Prop) (a0 : Nat) (a1 : Nat) (a2 : Nat) (a3 : Int64) (v5 : Int32) (v6 : Int64) (n : Nat) : Int32 → zM → Prop := Nat.rec (fun _ _ => False) (fun _ k => B_Re_divideOut_36 P a0 a1 a2 a3 v5 v6 k) n
def w_Re_divideOut (a0 : Nat) (a1 : Nat) (a2 : Nat) (a3 : Int64) (M : zM) (P : zM → Prop) : Prop := w_Ro_degreeOf a1 M (fun r1 => w_Ar_fillJ a2 (0 : Int64) M (fun M5 => (0 ≤ r1 → vp_in r1 (zlong a1) ∧ w_Re_inverseOf (M5 a1 r1.toNatClampNeg) a3  (fun r7 => w_Ro_degreeOf a0 M5 (fun r10 => ∀ x13 : Int32, x13 = r10 - r1 → ∃ n, L_Re_divideOut_36 P a0 a1 a2 a3 r1 r7 n x13 M5))) ∧ (¬ 0 ≤ r1 → P M5)))
def ws_Re_divideOut : List Cond := .code y_Re_divideOut prog_6_method_7_code 12 (Option.none : Option Jvm.ClassFile.FieldType) :: zall
def rm_Re_divideOut : Room := { frames := 1, cells := 0, slots := 0, locals := 29 }
theorem hd_Re_divideOut : y_Re_divideOut.cls ≠ "java/lang/invoke/MethodHandle" ∧ y_Re_divideOut.cls ≠ "java/lang/invoke/VarHandle" ∧ (parseMethodDescriptor y_Re_divideOut.desc).map (fun d => d.parameters.length) = some 4 := by decide +kernel
set_option maxHeartbeats 4000000 in
set_option maxRecDepth 100000 in
theorem c_Re_divideOut (l : Launch) (G : zG) (b : Nat) (a0 : Nat) (a1 : Nat) (a2 : Nat) (a3 : Int64) (M : zM) (N : zN) {P : zM → Prop} (hw : w_Re_divideOut a0 a1 a2 a3 M P) : Met l y_Re_divideOut ws_Re_divideOut rm_Re_divideOut (zPc G b M N [.ref (b + a0), .ref (b + a1), .ref (b + a2), .long a3]) (zQv G b (fun M' N' => P M' ∧ N' = N)) 0 0 (zA b) := by
  refine Met.ofW (cc := prog_6_method_7_code) (maxL := 12) (ret := (Option.none : Option Jvm.ClassFile.FieldType)) (by decide) rfl ?_
  intro p e s m args below meth c s₁ B hml hv
  obtain ⟨rfl, hZ, hK, hT⟩ := hv
  have hx := B.exec
  have hb := B.bytes
  have hr := B.returns
  have hts := atoms_spec (ws := ws_Re_divideOut) B.pre
  have hta : ∀ w ∈ zall, w.before ([.ref (b + a0), .ref (b + a1), .ref (b + a2), .long a3] : List Value).toArray s = true := fun w h => hts w (List.mem_cons_of_mem _ h)
  have hown : s.vm.findClass R_Re = some m.cls := findClass_of_methodNamed B.named
  have hlocks := B.notSynchronized
  have hS : va_S (zA b) s.heap s.heap [] := va_S.rf
  have hl := lv_entry ([.ref (b + a0), .ref (b + a1), .ref (b + a2), .long a3]) (n := 12) (Nat.le_of_ble_eq_true rfl)
  rw [lg_entry_eq]
  generalize (lg_sl ([.ref (b + a0), .ref (b + a1), .ref (b + a2), .long a3]) ++ List.replicate (12 - (lg_sl ([.ref (b + a0), .ref (b + a1), .ref (b + a2), .long a3])).length) Slot.unset).toArray = ls at hl ⊢
  have hl : lv_has ls 12 [(0, .ref (b + a0)), (1, .ref (b + a1)), (2, .ref (b + a2)), (3, .long a3)] := hl
  have lp36 : ∀ (v5 : Int32) (v6 : Int64) (n : Nat) (v8 : Int32) (M : zM) (H : Heap) (ls : Array Slot) (locs : List Loc), va_P G.1 zCl (zws G b M N) H → va_S (zA b) s.heap H locs → lv_has ls 12 [(0, .ref (b + a0)), (1, .ref (b + a1)), (2, .ref (b + a2)), (3, .long a3), (5, .int v5), (6, .long v6), (8, .int v8)] → L_Re_divideOut_36 P a0 a1 a2 a3 v5 v6 n v8 M → W p l e (headSpec ws_Re_divideOut rm_Re_divideOut).room s m ([.ref (b + a0), .ref (b + a1), .ref (b + a2), .long a3] : List Value).toArray below meth c H locs 0 0 (MQ below (zQv G b (fun M' N' => P M' ∧ N' = N)) ([.ref (b + a0), .ref (b + a1), .ref (b + a2), .long a3] : List Value).toArray s 0 0 (zA b)) (F0 m 36 ls []) := by
    intro v5 v6 n
    induction n with
    | zero => intro v8 M H ls locs hZ hS hl hw; exact False.elim hw
    | succ n36 ih36 =>
      have lp60 : ∀ (v8 : Int32) (v9 : Int64) (n : Nat) (v11 : Int32) (M : zM) (H : Heap) (ls : Array Slot) (locs : List Loc), va_P G.1 zCl (zws G b M N) H → va_S (zA b) s.heap H locs → lv_has ls 12 [(0, .ref (b + a0)), (1, .ref (b + a1)), (2, .ref (b + a2)), (3, .long a3), (5, .int v5), (6, .long v6), (8, .int v8), (9, .long v9), (11, .int v11)] → L_Re_divideOut_60 P (L_Re_divideOut_36 P a0 a1 a2 a3 v5 v6 n36) a0 a1 a2 a3 v5 v6 v8 v9 n v11 M → W p l e (headSpec ws_Re_divideOut rm_Re_divideOut).room s m ([.ref (b + a0), .ref (b + a1), .ref (b + a2), .long a3] : List Value).toArray below meth c H locs 0 0 (MQ below (zQv G b (fun M' N' => P M' ∧ N' = N)) ([.ref (b + a0), .ref (b + a1), .ref (b + a2), .long a3] : List Value).toArray s 0 0 (zA b)) (F0 m 60 ls []) := by
        intro v8 v9 n
        induction n with
        | zero => intro v11 M H ls locs hZ hS hl hw; exact False.elim hw
        | succ n60 ih60 =>
          intro v11 M H ls locs hZ hS hl hw
          have hw : B_Re_divideOut_60 P (L_Re_divideOut_36 P a0 a1 a2 a3 v5 v6 n36) a0 a1 a2 a3 v5 v6 v8 v9 (L_Re_divideOut_60 P (L_Re_divideOut_36 P a0 a1 a2 a3 v5 v6 n36) a0 a1 a2 a3 v5 v6 v8 v9 n60) v11 M := hw
          unfold B_Re_divideOut_60 at hw
          refine lv_iload (pc := 60) hx hb d_Re_divideOut_60 (lv_at hl 8 rfl) ?_
          refine lv_iload (pc := 62) hx hb d_Re_divideOut_62 (lv_at hl 4 rfl) ?_
          refine lv_icmp_gt (pc := 64) (tgt := 99) hx hb d_Re_divideOut_64 (by decide) (fun hc => ?_) (fun hc => ?_)
          · have hw := hw.1 hc
            refine lv_aload_n (pc := 99) hx hb d_Re_divideOut_99 rfl (lv_at hl 2 rfl) ?_
            refine lv_iload (pc := 100) hx hb d_Re_divideOut_100 (lv_at hl 6 rfl) ?_
            refine lv_lload (pc := 102) hx hb d_Re_divideOut_102 (lv_at hl 7 rfl) ?_
            obtain ⟨hc, hw⟩ := hw
            refine z_last (pc := 104) hx hb hK hZ hS hc d_Re_divideOut_104 (fun M17 H locs hM17 hZ hS => ?_)
            have hw := hw M17 hM17
            refine lv_iinc (pc := 105) (k := 6) (v := v8 + (-1 : Int32)) (lv' := [(8, .int (v8 + (-1 : Int32))), (0, .ref (b + a0)), (1, .ref (b + a1)), (2, .ref (b + a2)), (3, .long a3), (5, .int v5), (6, .long v6), (9, .long v9), (11, .int v11)]) hx hb d_Re_divideOut_105 hl rfl (by rfl) (by decide) rfl (fun ls hl => ?_)
            refine lv_goto (pc := 108) (tgt := 36) hx hb d_Re_divideOut_108 (by decide) ?_
            exact ih36 (v8 + (-1 : Int32)) M17 _ _ _ hZ hS (lv_sub hl [1, 2, 3, 4, 5, 6, 0] rfl) hw
          · have hw := hw.2 hc
            refine lv_aload_n (pc := 67) hx hb d_Re_divideOut_67 rfl (lv_at hl 0 rfl) ?_
            refine lv_iload (pc := 68) hx hb d_Re_divideOut_68 (lv_at hl 6 rfl) ?_
            refine lv_iload (pc := 70) hx hb d_Re_divideOut_70 (lv_at hl 8 rfl) ?_
            refine lv_iadd (pc := 72) hx hb d_Re_divideOut_72 ?_
            refine lv_aload_n (pc := 73) hx hb d_Re_divideOut_73 rfl (lv_at hl 0 rfl) ?_
            refine lv_iload (pc := 74) hx hb d_Re_divideOut_74 (lv_at hl 6 rfl) ?_
            refine lv_iload (pc := 76) hx hb d_Re_divideOut_76 (lv_at hl 8 rfl) ?_
            refine lv_iadd (pc := 78) hx hb d_Re_divideOut_78 ?_
            obtain ⟨hc, hw⟩ := hw
            refine z_lald (pc := 79) hx hb hK hZ hc d_Re_divideOut_79 ?_
            refine lv_lload (pc := 80) hx hb d_Re_divideOut_80 (lv_at hl 7 rfl) ?_
            refine lv_aload_n (pc := 82) hx hb d_Re_divideOut_82 rfl (lv_at hl 1 rfl) ?_
            refine lv_iload (pc := 83) hx hb d_Re_divideOut_83 (lv_at hl 8 rfl) ?_
            obtain ⟨hc, hw⟩ := hw
            refine z_lald (pc := 85) hx hb hK hZ hc d_Re_divideOut_85 ?_
            refine lv_lmul (pc := 86) hx hb d_Re_divideOut_86 ?_
            refine lv_lsub (pc := 87) hx hb d_Re_divideOut_87 ?_
            refine lv_lload_n (pc := 88) hx hb d_Re_divideOut_88 rfl (lv_at hl 3 rfl) ?_
            refine z_calll (pc := 89) (va_runS (As := [.long ((M a0 (v8 + v11).toNatClampNeg) - (v9 * (M a1 v11.toNatClampNeg))), .long a3]) (rest := [.int (v8 + v11), .ref (b + a0)]) ⟨hx, hb, hml, hown, hts⟩ (c_Re_residue l G b ((M a0 (v8 + v11).toNatClampNeg) - (v9 * (M a1 v11.toNatClampNeg))) a3 M N hw) (va_cwS 2 hts (z_good (zgS wd465 wd466 wd18 wd467)) rfl rfl rfl hd_Re_residue ⟨Nat.le_of_ble_eq_true rfl, Nat.le_of_ble_eq_true rfl⟩) (z_preS hZ hK hT hS) rfl rfl hl.1 rfl (lv_room (Nat.le_of_ble_eq_true rfl)) d_Re_divideOut_89 ⟨Nat.le_of_ble_eq_true rfl, Nat.le_of_ble_eq_true rfl⟩) hS (fun r18 M19 N20 H locs hw hZ hS => ?_)
            obtain ⟨hw, eM19, eN20⟩ := hw
            rw [eM19, eN20] at hZ
            obtain ⟨hc, hw⟩ := hw
            refine z_last (pc := 92) hx hb hK hZ hS hc d_Re_divideOut_92 (fun M21 H locs hM21 hZ hS => ?_)
            have hw := hw M21 hM21
            refine lv_iinc (pc := 93) (k := 8) (v := v11 + (1 : Int32)) (lv' := [(11, .int (v11 + (1 : Int32))), (0, .ref (b + a0)), (1, .ref (b + a1)), (2, .ref (b + a2)), (3, .long a3), (5, .int v5), (6, .long v6), (8, .int v8), (9, .long v9)]) hx hb d_Re_divideOut_93 hl rfl (by rfl) (by decide) rfl (fun ls hl => ?_)
            refine lv_goto (pc := 96) (tgt := 60) hx hb d_Re_divideOut_96 (by decide) ?_
            exact ih60 (v11 + (1 : Int32)) M21 _ _ _ hZ hS (lv_sub hl [1, 2, 3, 4, 5, 6, 7, 8, 0] rfl) hw
      intro v8 M H ls locs hZ hS hl hw
      have hw : B_Re_divideOut_36 P a0 a1 a2 a3 v5 v6 (L_Re_divideOut_36 P a0 a1 a2 a3 v5 v6 n36) v8 M := hw
      unfold B_Re_divideOut_36 at hw
      refine lv_iload (pc := 36) hx hb d_Re_divideOut_36 (lv_at hl 6 rfl) ?_
      refine lv_if_lt (pc := 38) (tgt := 111) hx hb d_Re_divideOut_38 (by decide) (fun hc => ?_) (fun hc => ?_)
      · have hw := hw.1 hc
        exact z_vret hx hb hr hlocks hK hT hZ hS ⟨hw, rfl⟩ d_Re_divideOut_111
      · have hw := hw.2 hc
        refine lv_aload_n (pc := 41) hx hb d_Re_divideOut_41 rfl (lv_at hl 0 rfl) ?_
        refine lv_iload (pc := 42) hx hb d_Re_divideOut_42 (lv_at hl 6 rfl) ?_
        refine lv_iload (pc := 44) hx hb d_Re_divideOut_44 (lv_at hl 4 rfl) ?_
        refine lv_iadd (pc := 46) hx hb d_Re_divideOut_46 ?_
        obtain ⟨hc, hw⟩ := hw
        refine z_lald (pc := 47) hx hb hK hZ hc d_Re_divideOut_47 ?_
        refine lv_lload (pc := 48) hx hb d_Re_divideOut_48 (lv_at hl 5 rfl) ?_
        refine lv_lmul (pc := 50) hx hb d_Re_divideOut_50 ?_
        refine lv_lload_n (pc := 51) hx hb d_Re_divideOut_51 rfl (lv_at hl 3 rfl) ?_
        refine z_calll (pc := 52) (va_runS (As := [.long ((M a0 (v8 + v5).toNatClampNeg) * v6), .long a3]) (rest := []) ⟨hx, hb, hml, hown, hts⟩ (c_Re_residue l G b ((M a0 (v8 + v5).toNatClampNeg) * v6) a3 M N hw) (va_cwS 2 hts (z_good (zgS wd465 wd466 wd18 wd467)) rfl rfl rfl hd_Re_residue ⟨Nat.le_of_ble_eq_true rfl, Nat.le_of_ble_eq_true rfl⟩) (z_preS hZ hK hT hS) rfl rfl hl.1 rfl (lv_room (Nat.le_of_ble_eq_true rfl)) d_Re_divideOut_52 ⟨Nat.le_of_ble_eq_true rfl, Nat.le_of_ble_eq_true rfl⟩) hS (fun r14 M15 N16 H locs hw hZ hS => ?_)
        obtain ⟨hw, eM15, eN16⟩ := hw
        rw [eM15, eN16] at hZ
        refine lv_lstore (pc := 55) (lv' := [(9, .long r14), (0, .ref (b + a0)), (1, .ref (b + a1)), (2, .ref (b + a2)), (3, .long a3), (5, .int v5), (6, .long v6), (8, .int v8)]) hx hb d_Re_divideOut_55 hl (by decide) rfl (fun ls hl => ?_)
        refine lv_iconst (pc := 57) (v := 0) hx hb d_Re_divideOut_57 (by decide) ?_
        refine lv_istore (pc := 58) (lv' := [(11, .int (0 : Int32)), (9, .long r14), (0, .ref (b + a0)), (1, .ref (b + a1)), (2, .ref (b + a2)), (3, .long a3), (5, .int v5), (6, .long v6), (8, .int v8)]) hx hb d_Re_divideOut_58 hl (by decide) rfl (fun ls hl => ?_)
        obtain ⟨n, hw⟩ := hw
        exact lp60 v8 r14 n (0 : Int32) M _ _ _ hZ hS (lv_sub hl [2, 3, 4, 5, 6, 7, 8, 1, 0] rfl) hw
  unfold w_Re_divideOut at hw
  refine lv_aload_n (pc := 0) hx hb d_Re_divideOut_0 rfl (lv_at hl 1 rfl) ?_
  refine z_calli (pc := 1) (va_runS (As := [.ref (b + a1)]) (rest := []) ⟨hx, hb, hml, hown, hts⟩ (c_Ro_degreeOf l G b a1 M N hw) (va_cwS 1 hts (z_good (zgS wd471 wd312 wd13 wd313)) rfl rfl rfl hd_Ro_degreeOf ⟨Nat.le_of_ble_eq_true rfl, Nat.le_of_ble_eq_true rfl⟩) (z_preS hZ hK hT hS) rfl rfl hl.1 rfl (lv_room (Nat.le_of_ble_eq_true rfl)) d_Re_divideOut_1 ⟨Nat.le_of_ble_eq_true rfl, Nat.le_of_ble_eq_true rfl⟩) hS (fun r1 M2 N3 H locs hw hZ hS => ?_)
  obtain ⟨hw, eM2, eN3⟩ := hw
  rw [eM2, eN3] at hZ
  refine lv_istore (pc := 4) (lv' := [(5, .int r1), (0, .ref (b + a0)), (1, .ref (b + a1)), (2, .ref (b + a2)), (3, .long a3)]) hx hb d_Re_divideOut_4 hl (by decide) rfl (fun ls hl => ?_)
  refine lv_aload_n (pc := 6) hx hb d_Re_divideOut_6 rfl (lv_at hl 3 rfl) ?_
  refine lv_lconst (pc := 7) (v := 0) hx hb d_Re_divideOut_7 (by decide) ?_
  refine z_callv (pc := 8) (va_runS (As := [.ref (b + a2), .long (0 : Int64)]) (rest := []) ⟨hx, hb, hml, hown, hts⟩ (c_Ar_fillJ l G b a2 (0 : Int64) M N hw) (va_cwS 2 hts (z_good (zgS wd475 wd337 wd14 wd338)) rfl rfl rfl hd_Ar_fillJ ⟨Nat.le_of_ble_eq_true rfl, Nat.le_of_ble_eq_true rfl⟩) (z_preS hZ hK hT hS) rfl rfl hl.1 rfl (lv_room (Nat.le_of_ble_eq_true rfl)) d_Re_divideOut_8 ⟨Nat.le_of_ble_eq_true rfl, Nat.le_of_ble_eq_true rfl⟩) hS (fun M5 N6 H locs hw hZ hS => ?_)
  obtain ⟨hw, eN6⟩ := hw
  rw [eN6] at hZ
  refine lv_iload (pc := 11) hx hb d_Re_divideOut_11 (lv_at hl 0 rfl) ?_
  refine lv_if_ge (pc := 13) (tgt := 17) hx hb d_Re_divideOut_13 (by decide) (fun hc => ?_) (fun hc => ?_)
  · have hw := hw.1 hc
    refine lv_aload_n (pc := 17) hx hb d_Re_divideOut_17 rfl (lv_at hl 2 rfl) ?_
    refine lv_iload (pc := 18) hx hb d_Re_divideOut_18 (lv_at hl 0 rfl) ?_
    obtain ⟨hc, hw⟩ := hw
    refine z_lald (pc := 20) hx hb hK hZ hc d_Re_divideOut_20 ?_
    refine lv_lload_n (pc := 21) hx hb d_Re_divideOut_21 rfl (lv_at hl 4 rfl) ?_
    refine z_calll (pc := 22) (va_runS (As := [.long (M5 a1 r1.toNatClampNeg), .long a3]) (rest := []) ⟨hx, hb, hml, hown, hts⟩ (c_Re_inverseOf l G b (M5 a1 r1.toNatClampNeg) a3 M5 N hw) (va_cwS 2 hts (z_good (zgS wd476 wd477 wd18 wd478)) rfl rfl rfl hd_Re_inverseOf ⟨Nat.le_of_ble_eq_true rfl, Nat.le_of_ble_eq_true rfl⟩) (z_preS hZ hK hT hS) rfl rfl hl.1 rfl (lv_room (Nat.le_of_ble_eq_true rfl)) d_Re_divideOut_22 ⟨Nat.le_of_ble_eq_true rfl, Nat.le_of_ble_eq_true rfl⟩) hS (fun r7 M8 N9 H locs hw hZ hS => ?_)
    obtain ⟨hw, eM8, eN9⟩ := hw
    rw [eM8, eN9] at hZ
    refine lv_lstore (pc := 25) (lv' := [(6, .long r7), (5, .int r1), (0, .ref (b + a0)), (1, .ref (b + a1)), (2, .ref (b + a2)), (3, .long a3)]) hx hb d_Re_divideOut_25 hl (by decide) rfl (fun ls hl => ?_)
    refine lv_aload_n (pc := 27) hx hb d_Re_divideOut_27 rfl (lv_at hl 2 rfl) ?_
    refine z_calli (pc := 28) (va_runS (As := [.ref (b + a0)]) (rest := []) ⟨hx, hb, hml, hown, hts⟩ (c_Ro_degreeOf l G b a0 M5 N hw) (va_cwS 1 hts (z_good (zgS wd471 wd312 wd13 wd313)) rfl rfl rfl hd_Ro_degreeOf ⟨Nat.le_of_ble_eq_true rfl, Nat.le_of_ble_eq_true rfl⟩) (z_preS hZ hK hT hS) rfl rfl hl.1 rfl (lv_room (Nat.le_of_ble_eq_true rfl)) d_Re_divideOut_28 ⟨Nat.le_of_ble_eq_true rfl, Nat.le_of_ble_eq_true rfl⟩) hS (fun r10 M11 N12 H locs hw hZ hS => ?_)
    obtain ⟨hw, eM11, eN12⟩ := hw
    rw [eM11, eN12] at hZ
    refine lv_iload (pc := 31) hx hb d_Re_divideOut_31 (lv_at hl 1 rfl) ?_
    refine lv_isub (pc := 33) hx hb d_Re_divideOut_33 ?_
    refine lv_topi (fun x13 hx13 => ?_)
    have hw := hw x13 hx13
    refine lv_istore (pc := 34) (lv' := [(8, .int x13), (6, .long r7), (5, .int r1), (0, .ref (b + a0)), (1, .ref (b + a1)), (2, .ref (b + a2)), (3, .long a3)]) hx hb d_Re_divideOut_34 hl (by decide) rfl (fun ls hl => ?_)
    obtain ⟨n, hw⟩ := hw
    exact lp36 r1 r7 n x13 M5 _ _ _ hZ hS (lv_sub hl [3, 4, 5, 6, 2, 1, 0] rfl) hw
  · have hw := hw.2 hc
    exact z_vret hx hb hr hlocks hK hT hZ hS ⟨hw, rfl⟩ d_Re_divideOut_16
