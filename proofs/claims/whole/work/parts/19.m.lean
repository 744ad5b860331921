theorem d_Mo_left_0 : decode prog_10_method_26_code 0 = .ok (.lload_n 0, 1) := by decide +kernel
theorem d_Mo_left_1 : decode prog_10_method_26_code 1 = .ok (.lload_n 2, 1) := by decide +kernel
theorem d_Mo_left_2 : decode prog_10_method_26_code 2 = .ok (.lrem, 1) := by decide +kernel
theorem d_Mo_left_3 : decode prog_10_method_26_code 3 = .ok (.lstore 4, 2) := by decide +kernel
theorem d_Mo_left_5 : decode prog_10_method_26_code 5 = .ok (.lload 4, 2) := by decide +kernel
theorem d_Mo_left_7 : decode prog_10_method_26_code 7 = .ok (.lconst 0, 1) := by decide +kernel
theorem d_Mo_left_8 : decode prog_10_method_26_code 8 = .ok (.lcmp, 1) := by decide +kernel
theorem d_Mo_left_9 : decode prog_10_method_26_code 9 = .ok (.ifCond .ge 10, 3) := by decide +kernel
theorem d_Mo_left_12 : decode prog_10_method_26_code 12 = .ok (.lload 4, 2) := by decide +kernel
theorem d_Mo_left_14 : decode prog_10_method_26_code 14 = .ok (.lload_n 2, 1) := by decide +kernel
theorem d_Mo_left_15 : decode prog_10_method_26_code 15 = .ok (.ladd, 1) := by decide +kernel
theorem d_Mo_left_16 : decode prog_10_method_26_code 16 = .ok (.goto 5, 3) := by decide +kernel
theorem d_Mo_left_19 : decode prog_10_method_26_code 19 = .ok (.lload 4, 2) := by decide +kernel
theorem d_Mo_left_21 : decode prog_10_method_26_code 21 = .ok (.lreturn, 1) := by decide +kernel
def w_Mo_left (a0 : Int64) (a2 : Int64) (P : Int64 → Prop) : Prop := ¬ a2 = 0 ∧ ∀ x1 : Int64, x1 = a0 - a0 / a2 * a2 → ((0 : Int64) ≤ x1 → P x1) ∧ (¬ (0 : Int64) ≤ x1 → P (x1 + a2))
def ws_Mo_left : List Cond := .code y_Mo_left prog_10_method_26_code 6 (Option.some Jvm.ClassFile.FieldType.long) :: zall
def rm_Mo_left : Room := { frames := 0, cells := 0, slots := 0, locals := 0 }
theorem hd_Mo_left : y_Mo_left.cls ≠ "java/lang/invoke/MethodHandle" ∧ y_Mo_left.cls ≠ "java/lang/invoke/VarHandle" ∧ (parseMethodDescriptor y_Mo_left.desc).map (fun d => d.parameters.length) = some 2 := by decide +kernel
set_option maxHeartbeats 4000000 in
set_option maxRecDepth 100000 in
theorem c_Mo_left (l : Launch) (G : zG) (b : Nat) (a0 : Int64) (a2 : Int64) (M : zM) (N : zN) {P : Int64 → Prop} (hw : w_Mo_left a0 a2  P) : Met l y_Mo_left ws_Mo_left rm_Mo_left (zPc G b M N [.long a0, .long a2]) (zQl G b (fun r M' N' => P r ∧ M' = M ∧ N' = N)) 0 0 (zA b) := by
  refine Met.ofW (cc := prog_10_method_26_code) (maxL := 6) (ret := (Option.some Jvm.ClassFile.FieldType.long)) (by decide) rfl ?_
  intro p e s m args below meth c s₁ B hml hv
  obtain ⟨rfl, hZ, hK, hT⟩ := hv
  have hx := B.exec
  have hb := B.bytes
  have hr := B.returns
  have hts := atoms_spec (ws := ws_Mo_left) B.pre
  have hta : ∀ w ∈ zall, w.before ([.long a0, .long a2] : List Value).toArray s = true := fun w h => hts w (List.mem_cons_of_mem _ h)
  have hown : s.vm.findClass R_Mo = some m.cls := findClass_of_methodNamed B.named
  have hlocks := B.notSynchronized
  have hS : va_S (zA b) s.heap s.heap [] := va_S.rf
  have hl := lv_entry ([.long a0, .long a2]) (n := 6) (Nat.le_of_ble_eq_true rfl)
  rw [lg_entry_eq]
  generalize (lg_sl ([.long a0, .long a2]) ++ List.replicate (6 - (lg_sl ([.long a0, .long a2])).length) Slot.unset).toArray = ls at hl ⊢
  have hl : lv_has ls 6 [(0, .long a0), (2, .long a2)] := hl
  unfold w_Mo_left at hw
  refine lv_lload_n (pc := 0) hx hb d_Mo_left_0 rfl (lv_at hl 0 rfl) ?_
  refine lv_lload_n (pc := 1) hx hb d_Mo_left_1 rfl (lv_at hl 1 rfl) ?_
  obtain ⟨hc, hw⟩ := hw
  refine lv_lrem (pc := 2) hx hb d_Mo_left_2 hc ?_
  refine lv_topl (fun x1 hx1 => ?_)
  have hw := hw x1 hx1
  refine lv_lstore (pc := 3) (lv' := [(4, .long x1), (0, .long a0), (2, .long a2)]) hx hb d_Mo_left_3 hl (by decide) rfl (fun ls hl => ?_)
  refine lv_lload (pc := 5) hx hb d_Mo_left_5 (lv_at hl 0 rfl) ?_
  refine lv_lconst (pc := 7) (v := 0) hx hb d_Mo_left_7 (by decide) ?_
  refine z_lc_ge (pc := 8) (tgt := 19) hx hb d_Mo_left_8 d_Mo_left_9 (by decide) (fun hc => ?_) (fun hc => ?_)
  · have hw := hw.1 hc
    refine lv_lload (pc := 19) hx hb d_Mo_left_19 (lv_at hl 0 rfl) ?_
    exact z_lret hx hb hr hlocks hK hT hZ hS ⟨hw, rfl, rfl⟩ d_Mo_left_21
  · have hw := hw.2 hc
    refine lv_lload (pc := 12) hx hb d_Mo_left_12 (lv_at hl 0 rfl) ?_
    refine lv_lload_n (pc := 14) hx hb d_Mo_left_14 rfl (lv_at hl 2 rfl) ?_
    refine lv_ladd (pc := 15) hx hb d_Mo_left_15 ?_
    refine lv_goto (pc := 16) (tgt := 21) hx hb d_Mo_left_16 (by decide) ?_
    exact z_lret hx hb hr hlocks hK hT hZ hS ⟨hw, rfl, rfl⟩ d_Mo_left_21
theorem d_Mo_dividesModulo_0 : decode prog_10_method_27_code 0 = .ok (.iconst 0, 1) := by decide +kernel
theorem d_Mo_dividesModulo_1 : decode prog_10_method_27_code 1 = .ok (.istore 7, 2) := by decide +kernel
theorem d_Mo_dividesModulo_3 : decode prog_10_method_27_code 3 = .ok (.iload 7, 2) := by decide +kernel
theorem d_Mo_dividesModulo_5 : decode prog_10_method_27_code 5 = .ok (.bipush 16, 2) := by decide +kernel
theorem d_Mo_dividesModulo_7 : decode prog_10_method_27_code 7 = .ok (.if_icmp .ge 44, 3) := by decide +kernel
theorem d_Mo_dividesModulo_10 : decode prog_10_method_27_code 10 = .ok (.aload_n 0, 1) := by decide +kernel
theorem d_Mo_dividesModulo_11 : decode prog_10_method_27_code 11 = .ok (.getfield 38, 3) := by decide +kernel
theorem d_Mo_dividesModulo_14 : decode prog_10_method_27_code 14 = .ok (.iload 7, 2) := by decide +kernel
theorem d_Mo_dividesModulo_16 : decode prog_10_method_27_code 16 = .ok (.iload 7, 2) := by decide +kernel
theorem d_Mo_dividesModulo_18 : decode prog_10_method_27_code 18 = .ok (.iload 4, 2) := by decide +kernel
theorem d_Mo_dividesModulo_20 : decode prog_10_method_27_code 20 = .ok (.if_icmp .gt 15, 3) := by decide +kernel
theorem d_Mo_dividesModulo_23 : decode prog_10_method_27_code 23 = .ok (.aload_n 3, 1) := by decide +kernel
theorem d_Mo_dividesModulo_24 : decode prog_10_method_27_code 24 = .ok (.iload 7, 2) := by decide +kernel
theorem d_Mo_dividesModulo_26 : decode prog_10_method_27_code 26 = .ok (.laload, 1) := by decide +kernel
theorem d_Mo_dividesModulo_27 : decode prog_10_method_27_code 27 = .ok (.lload 5, 2) := by decide +kernel
theorem d_Mo_dividesModulo_29 : decode prog_10_method_27_code 29 = .ok (.invokestatic 137, 3) := by decide +kernel
theorem d_Mo_dividesModulo_32 : decode prog_10_method_27_code 32 = .ok (.goto 4, 3) := by decide +kernel
theorem d_Mo_dividesModulo_35 : decode prog_10_method_27_code 35 = .ok (.lconst 0, 1) := by decide +kernel
theorem d_Mo_dividesModulo_36 : decode prog_10_method_27_code 36 = .ok (.lastore, 1) := by decide +kernel
theorem d_Mo_dividesModulo_37 : decode prog_10_method_27_code 37 = .ok (.aload_n 0, 1) := by decide +kernel
theorem d_Mo_dividesModulo_38 : decode prog_10_method_27_code 38 = .ok (.getfield 41, 3) := by decide +kernel
theorem d_Mo_dividesModulo_41 : decode prog_10_method_27_code 41 = .ok (.iload 7, 2) := by decide +kernel
theorem d_Mo_dividesModulo_43 : decode prog_10_method_27_code 43 = .ok (.lconst 0, 1) := by decide +kernel
theorem d_Mo_dividesModulo_44 : decode prog_10_method_27_code 44 = .ok (.lastore, 1) := by decide +kernel
theorem d_Mo_dividesModulo_45 : decode prog_10_method_27_code 45 = .ok (.iinc 7 1, 3) := by decide +kernel
theorem d_Mo_dividesModulo_48 : decode prog_10_method_27_code 48 = .ok (.goto (-45), 3) := by decide +kernel
theorem d_Mo_dividesModulo_51 : decode prog_10_method_27_code 51 = .ok (.iload 4, 2) := by decide +kernel
theorem d_Mo_dividesModulo_53 : decode prog_10_method_27_code 53 = .ok (.iload_n 2, 1) := by decide +kernel
theorem d_Mo_dividesModulo_54 : decode prog_10_method_27_code 54 = .ok (.isub, 1) := by decide +kernel
theorem d_Mo_dividesModulo_55 : decode prog_10_method_27_code 55 = .ok (.istore 7, 2) := by decide +kernel
theorem d_Mo_dividesModulo_57 : decode prog_10_method_27_code 57 = .ok (.iload 7, 2) := by decide +kernel
theorem d_Mo_dividesModulo_59 : decode prog_10_method_27_code 59 = .ok (.ifCond .lt 77, 3) := by decide +kernel
theorem d_Mo_dividesModulo_62 : decode prog_10_method_27_code 62 = .ok (.aload_n 0, 1) := by decide +kernel
theorem d_Mo_dividesModulo_63 : decode prog_10_method_27_code 63 = .ok (.getfield 38, 3) := by decide +kernel
theorem d_Mo_dividesModulo_66 : decode prog_10_method_27_code 66 = .ok (.iload 7, 2) := by decide +kernel
theorem d_Mo_dividesModulo_68 : decode prog_10_method_27_code 68 = .ok (.iload_n 2, 1) := by decide +kernel
theorem d_Mo_dividesModulo_69 : decode prog_10_method_27_code 69 = .ok (.iadd, 1) := by decide +kernel
theorem d_Mo_dividesModulo_70 : decode prog_10_method_27_code 70 = .ok (.laload, 1) := by decide +kernel
theorem d_Mo_dividesModulo_71 : decode prog_10_method_27_code 71 = .ok (.lstore 8, 2) := by decide +kernel
theorem d_Mo_dividesModulo_73 : decode prog_10_method_27_code 73 = .ok (.aload_n 0, 1) := by decide +kernel
theorem d_Mo_dividesModulo_74 : decode prog_10_method_27_code 74 = .ok (.getfield 41, 3) := by decide +kernel
theorem d_Mo_dividesModulo_77 : decode prog_10_method_27_code 77 = .ok (.iload 7, 2) := by decide +kernel
theorem d_Mo_dividesModulo_79 : decode prog_10_method_27_code 79 = .ok (.lload 8, 2) := by decide +kernel
theorem d_Mo_dividesModulo_81 : decode prog_10_method_27_code 81 = .ok (.lastore, 1) := by decide +kernel
theorem d_Mo_dividesModulo_82 : decode prog_10_method_27_code 82 = .ok (.iconst 0, 1) := by decide +kernel
theorem d_Mo_dividesModulo_83 : decode prog_10_method_27_code 83 = .ok (.istore 10, 2) := by decide +kernel
theorem d_Mo_dividesModulo_85 : decode prog_10_method_27_code 85 = .ok (.iload 10, 2) := by decide +kernel
theorem d_Mo_dividesModulo_87 : decode prog_10_method_27_code 87 = .ok (.iload_n 2, 1) := by decide +kernel
theorem d_Mo_dividesModulo_88 : decode prog_10_method_27_code 88 = .ok (.if_icmp .gt 42, 3) := by decide +kernel
theorem d_Mo_dividesModulo_91 : decode prog_10_method_27_code 91 = .ok (.aload_n 0, 1) := by decide +kernel
theorem d_Mo_dividesModulo_92 : decode prog_10_method_27_code 92 = .ok (.getfield 38, 3) := by decide +kernel
theorem d_Mo_dividesModulo_95 : decode prog_10_method_27_code 95 = .ok (.iload 7, 2) := by decide +kernel
theorem d_Mo_dividesModulo_97 : decode prog_10_method_27_code 97 = .ok (.iload 10, 2) := by decide +kernel
theorem d_Mo_dividesModulo_99 : decode prog_10_method_27_code 99 = .ok (.iadd, 1) := by decide +kernel
theorem d_Mo_dividesModulo_100 : decode prog_10_method_27_code 100 = .ok (.aload_n 0, 1) := by decide +kernel
theorem d_Mo_dividesModulo_101 : decode prog_10_method_27_code 101 = .ok (.getfield 38, 3) := by decide +kernel
theorem d_Mo_dividesModulo_104 : decode prog_10_method_27_code 104 = .ok (.iload 7, 2) := by decide +kernel
theorem d_Mo_dividesModulo_106 : decode prog_10_method_27_code 106 = .ok (.iload 10, 2) := by decide +kernel
theorem d_Mo_dividesModulo_108 : decode prog_10_method_27_code 108 = .ok (.iadd, 1) := by decide +kernel
theorem d_Mo_dividesModulo_109 : decode prog_10_method_27_code 109 = .ok (.laload, 1) := by decide +kernel
theorem d_Mo_dividesModulo_110 : decode prog_10_method_27_code 110 = .ok (.lload 8, 2) := by decide +kernel
theorem d_Mo_dividesModulo_112 : decode prog_10_method_27_code 112 = .ok (.aload_n 1, 1) := by decide +kernel
theorem d_Mo_dividesModulo_113 : decode prog_10_method_27_code 113 = .ok (.iload 10, 2) := by decide +kernel
theorem d_Mo_dividesModulo_115 : decode prog_10_method_27_code 115 = .ok (.laload, 1) := by decide +kernel
theorem d_Mo_dividesModulo_116 : decode prog_10_method_27_code 116 = .ok (.lmul, 1) := by decide +kernel
theorem d_Mo_dividesModulo_117 : decode prog_10_method_27_code 117 = .ok (.lsub, 1) := by decide +kernel
theorem d_Mo_dividesModulo_118 : decode prog_10_method_27_code 118 = .ok (.lload 5, 2) := by decide +kernel
theorem d_Mo_dividesModulo_120 : decode prog_10_method_27_code 120 = .ok (.invokestatic 137, 3) := by decide +kernel
theorem d_Mo_dividesModulo_123 : decode prog_10_method_27_code 123 = .ok (.lastore, 1) := by decide +kernel
theorem d_Mo_dividesModulo_124 : decode prog_10_method_27_code 124 = .ok (.iinc 10 1, 3) := by decide +kernel
theorem d_Mo_dividesModulo_127 : decode prog_10_method_27_code 127 = .ok (.goto (-42), 3) := by decide +kernel
theorem d_Mo_dividesModulo_130 : decode prog_10_method_27_code 130 = .ok (.iinc 7 (-1), 3) := by decide +kernel
theorem d_Mo_dividesModulo_133 : decode prog_10_method_27_code 133 = .ok (.goto (-76), 3) := by decide +kernel
theorem d_Mo_dividesModulo_136 : decode prog_10_method_27_code 136 = .ok (.aload_n 0, 1) := by decide +kernel
theorem d_Mo_dividesModulo_137 : decode prog_10_method_27_code 137 = .ok (.getfield 38, 3) := by decide +kernel
theorem d_Mo_dividesModulo_140 : decode prog_10_method_27_code 140 = .ok (.invokestatic 82, 3) := by decide +kernel
theorem d_Mo_dividesModulo_143 : decode prog_10_method_27_code 143 = .ok (.ifCond .ge 7, 3) := by decide +kernel
theorem d_Mo_dividesModulo_146 : decode prog_10_method_27_code 146 = .ok (.iconst 1, 1) := by decide +kernel
theorem d_Mo_dividesModulo_147 : decode prog_10_method_27_code 147 = .ok (.goto 4, 3) := by decide +kernel
theorem d_Mo_dividesModulo_150 : decode prog_10_method_27_code 150 = .ok (.iconst 0, 1) := by decide +kernel
theorem d_Mo_dividesModulo_151 : decode prog_10_method_27_code 151 = .ok (.ireturn, 1) := by decide +kernel
def B_Mo_dividesModulo_85 (P : Int32 → zM → Prop) (k57 : Int32 → zM → Prop) (a1 : Nat) (a2 : Int32) (a5 : Int64) (v7 : Int32) (v8 : Int64) (k85 : Int32 → zM → Prop) (v10 : Int32) (M : zM) : Prop := (a2 < v10 → k57 (v7 + (-1 : Int32)) M) ∧ (¬ a2 < v10 → vp_in (v7 + v10) (zlong 109) ∧ vp_in v10 (zlong a1) ∧ w_Mo_left ((M 109 (v7 + v10).toNatClampNeg) - (v8 * (M a1 v10.toNatClampNeg))) a5  (fun r12 => vp_in (v7 + v10) (zlong 109) ∧ ∀ M15 : zM, M15 = zput M 109 (v7 + v10).toNatClampNeg r12 → k85 (v10 + (1 : Int32)) M15))
def L_Mo_dividesModulo_85 (P : Int32 → zM → Prop) (k57 : Int32 → zM → Prop) (a1 : Nat) (a2 : Int32) (a5 : Int64) (v7 : Int32) (v8 : Int64) (n : Nat) : Int32 → zM → Prop := Nat.rec (fun _ _ => False) (fun _ k => B_Mo_dividesModulo_85 P k57 a1 a2 a5 v7 v8 k) n
def B_Mo_dividesModulo_57 (P : Int32 → zM → Prop) (a1 : Nat) (a2 : Int32) (a5 : Int64) (k57 : Int32 → zM → Prop) (v7 : Int32) (M : zM) : Prop := (v7 < 0 → w_Mo_degreeOf 109 M (fun r5 => (0 ≤ r5 → narrow .boolean (.int (0 : Int32)) = .int (0 : Int32) ∧ P (0 : Int32) M) ∧ (¬ 0 ≤ r5 → narrow .boolean (.int (1 : Int32)) = .int (1 : Int32) ∧ P (1 : Int32) M))) ∧ (¬ v7 < 0 → vp_in (v7 + a2) (zlong 109) ∧ ∀ x8 : Int64, x8 = M 109 (v7 + a2).toNatClampNeg → vp_in v7 (zlong 110) ∧ ∀ M9 : zM, M9 = zput M 110 v7.toNatClampNeg x8 → ∃ n, L_Mo_dividesModulo_85 P k57 a1 a2 a5 v7 x8 n (0 : Int32) M9)
def L_Mo_dividesModulo_57 (P : Int32 → zM → Prop) (a1 : Nat) (a2 : Int32) (a5 : Int64) (n : Nat) : Int32 → zM → Prop := Nat.rec (fun _ _ => False) (fun _ k => B_Mo_dividesModulo_57 P a1 a2 a5 k) n
def J_Mo_dividesModulo_36 (P : Int32 → zM → Prop) (k3 : Int32 → zM → Prop) (a1 : Nat) (a2 : Int32) (a3 : Nat) (a4 : Int32) (a5 : Int64) (v7 : Int32) (t0 : Int64) (t1 : Int32) (M : zM) : Prop := vp_in t1 (zlong 109) ∧ ∀ M10 : zM, M10 = zput M 109 t1.toNatClampNeg t0 → vp_in v7 (zlong 110) ∧ ∀ M11 : zM, M11 = zput M10 110 v7.toNatClampNeg (0 : Int64) → k3 (v7 + (1 : Int32)) M11
def B_Mo_dividesModulo_3 (P : Int32 → zM → Prop) (a1 : Nat) (a2 : Int32) (a3 : Nat) (a4 : Int32) (a5 : Int64) (k3 : Int32 → zM → Prop) (v7 : Int32) (M : zM) : Prop := ((16 : Int32) ≤ v7 → ∀ x1 : Int32, x1 = a4 - a2 → ∃ n, L_Mo_dividesModulo_57 P a1 a2 a5 n x1 M) ∧ (¬ (16 : Int32) ≤ v7 → (a4 < v7 → J_Mo_dividesModulo_36 P k3 a1 a2 a3 a4 a5 v7 (0 : Int64) v7 M) ∧ (¬ a4 < v7 → vp_in v7 (zlong a3) ∧ w_Mo_left (M a3 v7.toNatClampNeg) a5  (fun r2 => J_Mo_dividesModulo_36 P k3 a1 a2 a3 a4 a5 v7 r2 v7 M)))
def L_Mo_dividesModulo_3 (P : Int32 → zM → Prop) (a1 : Nat) (a2 : Int32) (a3 : Nat) (a4 : Int32) (a5 : Int64) (n : Nat) : Int32 → zM → Prop := Nat.rec (fun _ _ => False) (fun _ k => B_Mo_dividesModulo_3 P a1 a2 a3 a4 a5 k) n
def w_Mo_dividesModulo (a1 : Nat) (a2 : Int32) (a3 : Nat) (a4 : Int32) (a5 : Int64) (M : zM) (P : Int32 → zM → Prop) : Prop := ∃ n, L_Mo_dividesModulo_3 P a1 a2 a3 a4 a5 n (0 : Int32) M
def ws_Mo_dividesModulo : List Cond := .code y_Mo_dividesModulo prog_10_method_27_code 11 (Option.some Jvm.ClassFile.FieldType.boolean) :: zall
def rm_Mo_dividesModulo : Room := { frames := 1, cells := 0, slots := 0, locals := 25 }
theorem hd_Mo_dividesModulo : y_Mo_dividesModulo.cls ≠ "java/lang/invoke/MethodHandle" ∧ y_Mo_dividesModulo.cls ≠ "java/lang/invoke/VarHandle" ∧ (parseMethodDescriptor y_Mo_dividesModulo.desc).map (fun d => d.parameters.length) = some 5 := by decide +kernel
set_option maxHeartbeats 4000000 in
set_option maxRecDepth 100000 in
theorem c_Mo_dividesModulo (l : Launch) (G : zG) (b : Nat) (a1 : Nat) (a2 : Int32) (a3 : Nat) (a4 : Int32) (a5 : Int64) (M : zM) (N : zN) {P : Int32 → zM → Prop} (hw : w_Mo_dividesModulo a1 a2 a3 a4 a5 M P) : Met l y_Mo_dividesModulo ws_Mo_dividesModulo rm_Mo_dividesModulo (zPc G b M N [.ref (b + 99), .ref (b + a1), .int a2, .ref (b + a3), .int a4, .long a5]) (zQi G b (fun r M' N' => P r M' ∧ N' = N)) 0 0 (zA b) := by
  refine Met.ofW (cc := prog_10_method_27_code) (maxL := 11) (ret := (Option.some Jvm.ClassFile.FieldType.boolean)) (by decide) rfl ?_
  intro p e s m args below meth c s₁ B hml hv
  obtain ⟨rfl, hZ, hK, hT⟩ := hv
  have hx := B.exec
  have hb := B.bytes
  have hr := B.returns
  have hts := atoms_spec (ws := ws_Mo_dividesModulo) B.pre
  have hta : ∀ w ∈ zall, w.before ([.ref (b + 99), .ref (b + a1), .int a2, .ref (b + a3), .int a4, .long a5] : List Value).toArray s = true := fun w h => hts w (List.mem_cons_of_mem _ h)
  have hown : s.vm.findClass R_Mo = some m.cls := findClass_of_methodNamed B.named
  have hlocks := B.notSynchronized
  have hS : va_S (zA b) s.heap s.heap [] := va_S.rf
  have hl := lv_entry ([.ref (b + 99), .ref (b + a1), .int a2, .ref (b + a3), .int a4, .long a5]) (n := 11) (Nat.le_of_ble_eq_true rfl)
  rw [lg_entry_eq]
  generalize (lg_sl ([.ref (b + 99), .ref (b + a1), .int a2, .ref (b + a3), .int a4, .long a5]) ++ List.replicate (11 - (lg_sl ([.ref (b + 99), .ref (b + a1), .int a2, .ref (b + a3), .int a4, .long a5])).length) Slot.unset).toArray = ls at hl ⊢
  have hl : lv_has ls 11 [(0, .ref (b + 99)), (1, .ref (b + a1)), (2, .int a2), (3, .ref (b + a3)), (4, .int a4), (5, .long a5)] := hl
  have lp57 : ∀ (n : Nat) (v7 : Int32) (M : zM) (H : Heap) (ls : Array Slot) (locs : List Loc), va_P G.1 zCl (zws G b M N) H → va_S (zA b) s.heap H locs → lv_has ls 11 [(0, .ref (b + 99)), (1, .ref (b + a1)), (2, .int a2), (5, .long a5), (7, .int v7)] → L_Mo_dividesModulo_57 P a1 a2 a5 n v7 M → W p l e (headSpec ws_Mo_dividesModulo rm_Mo_dividesModulo).room s m ([.ref (b + 99), .ref (b + a1), .int a2, .ref (b + a3), .int a4, .long a5] : List Value).toArray below meth c H locs 0 0 (MQ below (zQi G b (fun r M' N' => P r M' ∧ N' = N)) ([.ref (b + 99), .ref (b + a1), .int a2, .ref (b + a3), .int a4, .long a5] : List Value).toArray s 0 0 (zA b)) (F0 m 57 ls []) := by
    intro  n
    induction n with
    | zero => intro v7 M H ls locs hZ hS hl hw; exact False.elim hw
    | succ n57 ih57 =>
      have lp85 : ∀ (v7 : Int32) (v8 : Int64) (n : Nat) (v10 : Int32) (M : zM) (H : Heap) (ls : Array Slot) (locs : List Loc), va_P G.1 zCl (zws G b M N) H → va_S (zA b) s.heap H locs → lv_has ls 11 [(0, .ref (b + 99)), (1, .ref (b + a1)), (2, .int a2), (5, .long a5), (7, .int v7), (8, .long v8), (10, .int v10)] → L_Mo_dividesModulo_85 P (L_Mo_dividesModulo_57 P a1 a2 a5 n57) a1 a2 a5 v7 v8 n v10 M → W p l e (headSpec ws_Mo_dividesModulo rm_Mo_dividesModulo).room s m ([.ref (b + 99), .ref (b + a1), .int a2, .ref (b + a3), .int a4, .long a5] : List Value).toArray below meth c H locs 0 0 (MQ below (zQi G b (fun r M' N' => P r M' ∧ N' = N)) ([.ref (b + 99), .ref (b + a1), .int a2, .ref (b + a3), .int a4, .long a5] : List Value).toArray s 0 0 (zA b)) (F0 m 85 ls []) := by
        intro v7 v8 n
        induction n with
        | zero => intro v10 M H ls locs hZ hS hl hw; exact False.elim hw
        | succ n85 ih85 =>
          intro v10 M H ls locs hZ hS hl hw
          have hw : B_Mo_dividesModulo_85 P (L_Mo_dividesModulo_57 P a1 a2 a5 n57) a1 a2 a5 v7 v8 (L_Mo_dividesModulo_85 P (L_Mo_dividesModulo_57 P a1 a2 a5 n57) a1 a2 a5 v7 v8 n85) v10 M := hw
          unfold B_Mo_dividesModulo_85 at hw
          refine lv_iload (pc := 85) hx hb d_Mo_dividesModulo_85 (lv_at hl 6 rfl) ?_
          refine lv_iload_n (pc := 87) hx hb d_Mo_dividesModulo_87 rfl (lv_at hl 2 rfl) ?_
          refine lv_icmp_gt (pc := 88) (tgt := 130) hx hb d_Mo_dividesModulo_88 (by decide) (fun hc => ?_) (fun hc => ?_)
          · have hw := hw.1 hc
            refine lv_iinc (pc := 130) (k := 4) (v := v7 + (-1 : Int32)) (lv' := [(7, .int (v7 + (-1 : Int32))), (0, .ref (b + 99)), (1, .ref (b + a1)), (2, .int a2), (5, .long a5), (8, .long v8), (10, .int v10)]) hx hb d_Mo_dividesModulo_130 hl rfl (by rfl) (by decide) rfl (fun ls hl => ?_)
            refine lv_goto (pc := 133) (tgt := 57) hx hb d_Mo_dividesModulo_133 (by decide) ?_
            exact ih57 (v7 + (-1 : Int32)) M _ _ _ hZ hS (lv_sub hl [1, 2, 3, 4, 0] rfl) hw
          · have hw := hw.2 hc
            refine lv_aload_n (pc := 91) hx hb d_Mo_dividesModulo_91 rfl (lv_at hl 0 rfl) ?_
            refine zg_Mo_38 (pc := 92) hx hb hta hown hK hZ d_Mo_dividesModulo_92 ?_
            refine lv_iload (pc := 95) hx hb d_Mo_dividesModulo_95 (lv_at hl 4 rfl) ?_
            refine lv_iload (pc := 97) hx hb d_Mo_dividesModulo_97 (lv_at hl 6 rfl) ?_
            refine lv_iadd (pc := 99) hx hb d_Mo_dividesModulo_99 ?_
            refine lv_aload_n (pc := 100) hx hb d_Mo_dividesModulo_100 rfl (lv_at hl 0 rfl) ?_
            refine zg_Mo_38 (pc := 101) hx hb hta hown hK hZ d_Mo_dividesModulo_101 ?_
            refine lv_iload (pc := 104) hx hb d_Mo_dividesModulo_104 (lv_at hl 4 rfl) ?_
            refine lv_iload (pc := 106) hx hb d_Mo_dividesModulo_106 (lv_at hl 6 rfl) ?_
            refine lv_iadd (pc := 108) hx hb d_Mo_dividesModulo_108 ?_
            obtain ⟨hc, hw⟩ := hw
            refine z_lald (pc := 109) hx hb hK hZ hc d_Mo_dividesModulo_109 ?_
            refine lv_lload (pc := 110) hx hb d_Mo_dividesModulo_110 (lv_at hl 5 rfl) ?_
            refine lv_aload_n (pc := 112) hx hb d_Mo_dividesModulo_112 rfl (lv_at hl 1 rfl) ?_
            refine lv_iload (pc := 113) hx hb d_Mo_dividesModulo_113 (lv_at hl 6 rfl) ?_
            obtain ⟨hc, hw⟩ := hw
            refine z_lald (pc := 115) hx hb hK hZ hc d_Mo_dividesModulo_115 ?_
            refine lv_lmul (pc := 116) hx hb d_Mo_dividesModulo_116 ?_
            refine lv_lsub (pc := 117) hx hb d_Mo_dividesModulo_117 ?_
            refine lv_lload (pc := 118) hx hb d_Mo_dividesModulo_118 (lv_at hl 3 rfl) ?_
            refine z_calll (pc := 120) (va_runS (As := [.long ((M 109 (v7 + v10).toNatClampNeg) - (v8 * (M a1 v10.toNatClampNeg))), .long a5]) (rest := [.int (v7 + v10), .ref (b + 109)]) ⟨hx, hb, hml, hown, hts⟩ (c_Mo_left l G b ((M 109 (v7 + v10).toNatClampNeg) - (v8 * (M a1 v10.toNatClampNeg))) a5 M N hw) (va_cwS 2 hts (z_good (zgS wd902 wd903 wd7 wd904)) rfl rfl rfl hd_Mo_left ⟨Nat.le_of_ble_eq_true rfl, Nat.le_of_ble_eq_true rfl⟩) (z_preS hZ hK hT hS) rfl rfl hl.1 rfl (lv_room (Nat.le_of_ble_eq_true rfl)) d_Mo_dividesModulo_120 ⟨Nat.le_of_ble_eq_true rfl, Nat.le_of_ble_eq_true rfl⟩) hS (fun r12 M13 N14 H locs hw hZ hS => ?_)
            obtain ⟨hw, eM13, eN14⟩ := hw
            rw [eM13, eN14] at hZ
            obtain ⟨hc, hw⟩ := hw
            refine z_last (pc := 123) hx hb hK hZ hS hc d_Mo_dividesModulo_123 (fun M15 H locs hM15 hZ hS => ?_)
            have hw := hw M15 hM15
            refine lv_iinc (pc := 124) (k := 6) (v := v10 + (1 : Int32)) (lv' := [(10, .int (v10 + (1 : Int32))), (0, .ref (b + 99)), (1, .ref (b + a1)), (2, .int a2), (5, .long a5), (7, .int v7), (8, .long v8)]) hx hb d_Mo_dividesModulo_124 hl rfl (by rfl) (by decide) rfl (fun ls hl => ?_)
            refine lv_goto (pc := 127) (tgt := 85) hx hb d_Mo_dividesModulo_127 (by decide) ?_
            exact ih85 (v10 + (1 : Int32)) M15 _ _ _ hZ hS (lv_sub hl [1, 2, 3, 4, 5, 6, 0] rfl) hw
      intro v7 M H ls locs hZ hS hl hw
      have hw : B_Mo_dividesModulo_57 P a1 a2 a5 (L_Mo_dividesModulo_57 P a1 a2 a5 n57) v7 M := hw
      unfold B_Mo_dividesModulo_57 at hw
      refine lv_iload (pc := 57) hx hb d_Mo_dividesModulo_57 (lv_at hl 4 rfl) ?_
      refine lv_if_lt (pc := 59) (tgt := 136) hx hb d_Mo_dividesModulo_59 (by decide) (fun hc => ?_) (fun hc => ?_)
      · have hw := hw.1 hc
        refine lv_aload_n (pc := 136) hx hb d_Mo_dividesModulo_136 rfl (lv_at hl 0 rfl) ?_
        refine zg_Mo_38 (pc := 137) hx hb hta hown hK hZ d_Mo_dividesModulo_137 ?_
        refine z_calli (pc := 140) (va_runS (As := [.ref (b + 109)]) (rest := []) ⟨hx, hb, hml, hown, hts⟩ (c_Mo_degreeOf l G b 109 M N hw) (va_cwS 1 hts (z_good (zgS wd814 wd815 wd7 wd816)) rfl rfl rfl hd_Mo_degreeOf ⟨Nat.le_of_ble_eq_true rfl, Nat.le_of_ble_eq_true rfl⟩) (z_preS hZ hK hT hS) rfl rfl hl.1 rfl (lv_room (Nat.le_of_ble_eq_true rfl)) d_Mo_dividesModulo_140 ⟨Nat.le_of_ble_eq_true rfl, Nat.le_of_ble_eq_true rfl⟩) hS (fun r5 M6 N7 H locs hw hZ hS => ?_)
        obtain ⟨hw, eM6, eN7⟩ := hw
        rw [eM6, eN7] at hZ
        refine lv_if_ge (pc := 143) (tgt := 150) hx hb d_Mo_dividesModulo_143 (by decide) (fun hc => ?_) (fun hc => ?_)
        · have hw := hw.1 hc
          refine lv_iconst (pc := 150) (v := 0) hx hb d_Mo_dividesModulo_150 (by decide) ?_
          exact z_zret hx hb hr hlocks hK hT hZ hS ⟨hw.1, ⟨hw.2, rfl⟩⟩ d_Mo_dividesModulo_151
        · have hw := hw.2 hc
          refine lv_iconst (pc := 146) (v := 1) hx hb d_Mo_dividesModulo_146 (by decide) ?_
          refine lv_goto (pc := 147) (tgt := 151) hx hb d_Mo_dividesModulo_147 (by decide) ?_
          exact z_zret hx hb hr hlocks hK hT hZ hS ⟨hw.1, ⟨hw.2, rfl⟩⟩ d_Mo_dividesModulo_151
      · have hw := hw.2 hc
        refine lv_aload_n (pc := 62) hx hb d_Mo_dividesModulo_62 rfl (lv_at hl 0 rfl) ?_
        refine zg_Mo_38 (pc := 63) hx hb hta hown hK hZ d_Mo_dividesModulo_63 ?_
        refine lv_iload (pc := 66) hx hb d_Mo_dividesModulo_66 (lv_at hl 4 rfl) ?_
        refine lv_iload_n (pc := 68) hx hb d_Mo_dividesModulo_68 rfl (lv_at hl 2 rfl) ?_
        refine lv_iadd (pc := 69) hx hb d_Mo_dividesModulo_69 ?_
        obtain ⟨hc, hw⟩ := hw
        refine z_lald (pc := 70) hx hb hK hZ hc d_Mo_dividesModulo_70 ?_
        refine lv_topl (fun x8 hx8 => ?_)
        have hw := hw x8 hx8
        refine lv_lstore (pc := 71) (lv' := [(8, .long x8), (0, .ref (b + 99)), (1, .ref (b + a1)), (2, .int a2), (5, .long a5), (7, .int v7)]) hx hb d_Mo_dividesModulo_71 hl (by decide) rfl (fun ls hl => ?_)
        refine lv_aload_n (pc := 73) hx hb d_Mo_dividesModulo_73 rfl (lv_at hl 1 rfl) ?_
        refine zg_Mo_41 (pc := 74) hx hb hta hown hK hZ d_Mo_dividesModulo_74 ?_
        refine lv_iload (pc := 77) hx hb d_Mo_dividesModulo_77 (lv_at hl 5 rfl) ?_
        refine lv_lload (pc := 79) hx hb d_Mo_dividesModulo_79 (lv_at hl 0 rfl) ?_
        obtain ⟨hc, hw⟩ := hw
        refine z_last (pc := 81) hx hb hK hZ hS hc d_Mo_dividesModulo_81 (fun M9 H locs hM9 hZ hS => ?_)
        have hw := hw M9 hM9
        refine lv_iconst (pc := 82) (v := 0) hx hb d_Mo_dividesModulo_82 (by decide) ?_
        refine lv_istore (pc := 83) (lv' := [(10, .int (0 : Int32)), (8, .long x8), (0, .ref (b + 99)), (1, .ref (b + a1)), (2, .int a2), (5, .long a5), (7, .int v7)]) hx hb d_Mo_dividesModulo_83 hl (by decide) rfl (fun ls hl => ?_)
        obtain ⟨n, hw⟩ := hw
        exact lp85 v7 x8 n (0 : Int32) M9 _ _ _ hZ hS (lv_sub hl [2, 3, 4, 5, 6, 1, 0] rfl) hw
  have lp3 : ∀ (n : Nat) (v7 : Int32) (M : zM) (H : Heap) (ls : Array Slot) (locs : List Loc), va_P G.1 zCl (zws G b M N) H → va_S (zA b) s.heap H locs → lv_has ls 11 [(0, .ref (b + 99)), (1, .ref (b + a1)), (2, .int a2), (3, .ref (b + a3)), (4, .int a4), (5, .long a5), (7, .int v7)] → L_Mo_dividesModulo_3 P a1 a2 a3 a4 a5 n v7 M → W p l e (headSpec ws_Mo_dividesModulo rm_Mo_dividesModulo).room s m ([.ref (b + 99), .ref (b + a1), .int a2, .ref (b + a3), .int a4, .long a5] : List Value).toArray below meth c H locs 0 0 (MQ below (zQi G b (fun r M' N' => P r M' ∧ N' = N)) ([.ref (b + 99), .ref (b + a1), .int a2, .ref (b + a3), .int a4, .long a5] : List Value).toArray s 0 0 (zA b)) (F0 m 3 ls []) := by
    intro  n
    induction n with
    | zero => intro v7 M H ls locs hZ hS hl hw; exact False.elim hw
    | succ n3 ih3 =>
      have j36 : ∀ (v7 : Int32) (t0 : Int64) (t1 : Int32) (M : zM) (H : Heap) (ls : Array Slot) (locs : List Loc), va_P G.1 zCl (zws G b M N) H → va_S (zA b) s.heap H locs → lv_has ls 11 [(0, .ref (b + 99)), (1, .ref (b + a1)), (2, .int a2), (3, .ref (b + a3)), (4, .int a4), (5, .long a5), (7, .int v7)] → J_Mo_dividesModulo_36 P (L_Mo_dividesModulo_3 P a1 a2 a3 a4 a5 n3) a1 a2 a3 a4 a5 v7 t0 t1 M → W p l e (headSpec ws_Mo_dividesModulo rm_Mo_dividesModulo).room s m ([.ref (b + 99), .ref (b + a1), .int a2, .ref (b + a3), .int a4, .long a5] : List Value).toArray below meth c H locs 0 0 (MQ below (zQi G b (fun r M' N' => P r M' ∧ N' = N)) ([.ref (b + 99), .ref (b + a1), .int a2, .ref (b + a3), .int a4, .long a5] : List Value).toArray s 0 0 (zA b)) (F0 m 36 ls [.long t0, .int t1, .ref (b + 109)]) := by
        intro v7 t0 t1 M H ls locs hZ hS hl hw
        unfold J_Mo_dividesModulo_36 at hw
        obtain ⟨hc, hw⟩ := hw
        refine z_last (pc := 36) hx hb hK hZ hS hc d_Mo_dividesModulo_36 (fun M10 H locs hM10 hZ hS => ?_)
        have hw := hw M10 hM10
        refine lv_aload_n (pc := 37) hx hb d_Mo_dividesModulo_37 rfl (lv_at hl 0 rfl) ?_
        refine zg_Mo_41 (pc := 38) hx hb hta hown hK hZ d_Mo_dividesModulo_38 ?_
        refine lv_iload (pc := 41) hx hb d_Mo_dividesModulo_41 (lv_at hl 6 rfl) ?_
        refine lv_lconst (pc := 43) (v := 0) hx hb d_Mo_dividesModulo_43 (by decide) ?_
        obtain ⟨hc, hw⟩ := hw
        refine z_last (pc := 44) hx hb hK hZ hS hc d_Mo_dividesModulo_44 (fun M11 H locs hM11 hZ hS => ?_)
        have hw := hw M11 hM11
        refine lv_iinc (pc := 45) (k := 6) (v := v7 + (1 : Int32)) (lv' := [(7, .int (v7 + (1 : Int32))), (0, .ref (b + 99)), (1, .ref (b + a1)), (2, .int a2), (3, .ref (b + a3)), (4, .int a4), (5, .long a5)]) hx hb d_Mo_dividesModulo_45 hl rfl (by rfl) (by decide) rfl (fun ls hl => ?_)
        refine lv_goto (pc := 48) (tgt := 3) hx hb d_Mo_dividesModulo_48 (by decide) ?_
        exact ih3 (v7 + (1 : Int32)) M11 _ _ _ hZ hS (lv_sub hl [1, 2, 3, 4, 5, 6, 0] rfl) hw
      intro v7 M H ls locs hZ hS hl hw
      have hw : B_Mo_dividesModulo_3 P a1 a2 a3 a4 a5 (L_Mo_dividesModulo_3 P a1 a2 a3 a4 a5 n3) v7 M := hw
      unfold B_Mo_dividesModulo_3 at hw
      refine lv_iload (pc := 3) hx hb d_Mo_dividesModulo_3 (lv_at hl 6 rfl) ?_
      refine lv_bipush (pc := 5) (v := 16) hx hb d_Mo_dividesModulo_5 (by decide) ?_
      refine lv_icmp_ge (pc := 7) (tgt := 51) hx hb d_Mo_dividesModulo_7 (by decide) (fun hc => ?_) (fun hc => ?_)
      · have hw := hw.1 hc
        refine lv_iload (pc := 51) hx hb d_Mo_dividesModulo_51 (lv_at hl 4 rfl) ?_
        refine lv_iload_n (pc := 53) hx hb d_Mo_dividesModulo_53 rfl (lv_at hl 2 rfl) ?_
        refine lv_isub (pc := 54) hx hb d_Mo_dividesModulo_54 ?_
        refine lv_topi (fun x1 hx1 => ?_)
        have hw := hw x1 hx1
        refine lv_istore (pc := 55) (lv' := [(7, .int x1), (0, .ref (b + 99)), (1, .ref (b + a1)), (2, .int a2), (3, .ref (b + a3)), (4, .int a4), (5, .long a5)]) hx hb d_Mo_dividesModulo_55 hl (by decide) rfl (fun ls hl => ?_)
        obtain ⟨n, hw⟩ := hw
        exact lp57  n x1 M _ _ _ hZ hS (lv_sub hl [1, 2, 3, 6, 0] rfl) hw
      · have hw := hw.2 hc
        refine lv_aload_n (pc := 10) hx hb d_Mo_dividesModulo_10 rfl (lv_at hl 0 rfl) ?_
        refine zg_Mo_38 (pc := 11) hx hb hta hown hK hZ d_Mo_dividesModulo_11 ?_
        refine lv_iload (pc := 14) hx hb d_Mo_dividesModulo_14 (lv_at hl 6 rfl) ?_
        refine lv_iload (pc := 16) hx hb d_Mo_dividesModulo_16 (lv_at hl 6 rfl) ?_
        refine lv_iload (pc := 18) hx hb d_Mo_dividesModulo_18 (lv_at hl 4 rfl) ?_
        refine lv_icmp_gt (pc := 20) (tgt := 35) hx hb d_Mo_dividesModulo_20 (by decide) (fun hc => ?_) (fun hc => ?_)
        · have hw := hw.1 hc
          refine lv_lconst (pc := 35) (v := 0) hx hb d_Mo_dividesModulo_35 (by decide) ?_
          exact j36 v7 (0 : Int64) v7 M _ _ _ hZ hS hl hw
        · have hw := hw.2 hc
          refine lv_aload_n (pc := 23) hx hb d_Mo_dividesModulo_23 rfl (lv_at hl 3 rfl) ?_
          refine lv_iload (pc := 24) hx hb d_Mo_dividesModulo_24 (lv_at hl 6 rfl) ?_
          obtain ⟨hc, hw⟩ := hw
          refine z_lald (pc := 26) hx hb hK hZ hc d_Mo_dividesModulo_26 ?_
          refine lv_lload (pc := 27) hx hb d_Mo_dividesModulo_27 (lv_at hl 5 rfl) ?_
          refine z_calll (pc := 29) (va_runS (As := [.long (M a3 v7.toNatClampNeg), .long a5]) (rest := [.int v7, .ref (b + 109)]) ⟨hx, hb, hml, hown, hts⟩ (c_Mo_left l G b (M a3 v7.toNatClampNeg) a5 M N hw) (va_cwS 2 hts (z_good (zgS wd902 wd903 wd7 wd904)) rfl rfl rfl hd_Mo_left ⟨Nat.le_of_ble_eq_true rfl, Nat.le_of_ble_eq_true rfl⟩) (z_preS hZ hK hT hS) rfl rfl hl.1 rfl (lv_room (Nat.le_of_ble_eq_true rfl)) d_Mo_dividesModulo_29 ⟨Nat.le_of_ble_eq_true rfl, Nat.le_of_ble_eq_true rfl⟩) hS (fun r2 M3 N4 H locs hw hZ hS => ?_)
          obtain ⟨hw, eM3, eN4⟩ := hw
          rw [eM3, eN4] at hZ
          refine lv_goto (pc := 32) (tgt := 36) hx hb d_Mo_dividesModulo_32 (by decide) ?_
          exact j36 v7 r2 v7 M _ _ _ hZ hS hl hw
  unfold w_Mo_dividesModulo at hw
  refine lv_iconst (pc := 0) (v := 0) hx hb d_Mo_dividesModulo_0 (by decide) ?_
  refine lv_istore (pc := 1) (lv' := [(7, .int (0 : Int32)), (0, .ref (b + 99)), (1, .ref (b + a1)), (2, .int a2), (3, .ref (b + a3)), (4, .int a4), (5, .long a5)]) hx hb d_Mo_dividesModulo_1 hl (by decide) rfl (fun ls hl => ?_)
  obtain ⟨n, hw⟩ := hw
  exact lp3  n (0 : Int32) M _ _ _ hZ hS (lv_sub hl [1, 2, 3, 4, 5, 6, 0] rfl) hw
theorem d_Mo_inverse_0 : decode prog_10_method_28_code 0 = .ok (.lconst 1, 1) := by decide +kernel
theorem d_Mo_inverse_1 : decode prog_10_method_28_code 1 = .ok (.lstore 4, 2) := by decide +kernel
theorem d_Mo_inverse_3 : decode prog_10_method_28_code 3 = .ok (.lload_n 0, 1) := by decide +kernel
theorem d_Mo_inverse_4 : decode prog_10_method_28_code 4 = .ok (.lstore 6, 2) := by decide +kernel
theorem d_Mo_inverse_6 : decode prog_10_method_28_code 6 = .ok (.lload_n 2, 1) := by decide +kernel
theorem d_Mo_inverse_7 : decode prog_10_method_28_code 7 = .ok (.ldc2_w 140, 3) := by decide +kernel
theorem d_Mo_inverse_10 : decode prog_10_method_28_code 10 = .ok (.lsub, 1) := by decide +kernel
theorem d_Mo_inverse_11 : decode prog_10_method_28_code 11 = .ok (.lstore 8, 2) := by decide +kernel
theorem d_Mo_inverse_13 : decode prog_10_method_28_code 13 = .ok (.lload 8, 2) := by decide +kernel
theorem d_Mo_inverse_15 : decode prog_10_method_28_code 15 = .ok (.lconst 0, 1) := by decide +kernel
theorem d_Mo_inverse_16 : decode prog_10_method_28_code 16 = .ok (.lcmp, 1) := by decide +kernel
theorem d_Mo_inverse_17 : decode prog_10_method_28_code 17 = .ok (.ifCond .le 48, 3) := by decide +kernel
theorem d_Mo_inverse_20 : decode prog_10_method_28_code 20 = .ok (.lload 8, 2) := by decide +kernel
theorem d_Mo_inverse_22 : decode prog_10_method_28_code 22 = .ok (.ldc2_w 140, 3) := by decide +kernel
theorem d_Mo_inverse_25 : decode prog_10_method_28_code 25 = .ok (.lrem, 1) := by decide +kernel
theorem d_Mo_inverse_26 : decode prog_10_method_28_code 26 = .ok (.lconst 1, 1) := by decide +kernel
theorem d_Mo_inverse_27 : decode prog_10_method_28_code 27 = .ok (.lcmp, 1) := by decide +kernel
theorem d_Mo_inverse_28 : decode prog_10_method_28_code 28 = .ok (.ifCond .ne 13, 3) := by decide +kernel
theorem d_Mo_inverse_31 : decode prog_10_method_28_code 31 = .ok (.lload 4, 2) := by decide +kernel
theorem d_Mo_inverse_33 : decode prog_10_method_28_code 33 = .ok (.lload 6, 2) := by decide +kernel
theorem d_Mo_inverse_35 : decode prog_10_method_28_code 35 = .ok (.lmul, 1) := by decide +kernel
theorem d_Mo_inverse_36 : decode prog_10_method_28_code 36 = .ok (.lload_n 2, 1) := by decide +kernel
theorem d_Mo_inverse_37 : decode prog_10_method_28_code 37 = .ok (.lrem, 1) := by decide +kernel
theorem d_Mo_inverse_38 : decode prog_10_method_28_code 38 = .ok (.goto 5, 3) := by decide +kernel
theorem d_Mo_inverse_41 : decode prog_10_method_28_code 41 = .ok (.lload 4, 2) := by decide +kernel
theorem d_Mo_inverse_43 : decode prog_10_method_28_code 43 = .ok (.lstore 4, 2) := by decide +kernel
theorem d_Mo_inverse_45 : decode prog_10_method_28_code 45 = .ok (.lload 6, 2) := by decide +kernel
theorem d_Mo_inverse_47 : decode prog_10_method_28_code 47 = .ok (.lload 6, 2) := by decide +kernel
theorem d_Mo_inverse_49 : decode prog_10_method_28_code 49 = .ok (.lmul, 1) := by decide +kernel
theorem d_Mo_inverse_50 : decode prog_10_method_28_code 50 = .ok (.lload_n 2, 1) := by decide +kernel
theorem d_Mo_inverse_51 : decode prog_10_method_28_code 51 = .ok (.lrem, 1) := by decide +kernel
theorem d_Mo_inverse_52 : decode prog_10_method_28_code 52 = .ok (.lstore 6, 2) := by decide +kernel
theorem d_Mo_inverse_54 : decode prog_10_method_28_code 54 = .ok (.lload 8, 2) := by decide +kernel
theorem d_Mo_inverse_56 : decode prog_10_method_28_code 56 = .ok (.ldc2_w 140, 3) := by decide +kernel
theorem d_Mo_inverse_59 : decode prog_10_method_28_code 59 = .ok (.ldiv, 1) := by decide +kernel
theorem d_Mo_inverse_60 : decode prog_10_method_28_code 60 = .ok (.lstore 8, 2) := by decide +kernel
theorem d_Mo_inverse_62 : decode prog_10_method_28_code 62 = .ok (.goto (-49), 3) := by decide +kernel
theorem d_Mo_inverse_65 : decode prog_10_method_28_code 65 = .ok (.lload 4, 2) := by decide +kernel
theorem d_Mo_inverse_67 : decode prog_10_method_28_code 67 = .ok (.lreturn, 1) := by decide +kernel
def J_Mo_inverse_43 (P : Int64 → Prop) (k13 : Int64 → Int64 → Int64 → Prop) (a2 : Int64) (v6 : Int64) (v8 : Int64) (t0 : Int64) : Prop := ¬ a2 = 0 ∧ ∀ x2 : Int64, x2 = (v6 * v6) - (v6 * v6) / a2 * a2 → ¬ (2 : Int64) = 0 ∧ ∀ x3 : Int64, x3 = v8 / (2 : Int64) → k13 t0 x2 x3
def B_Mo_inverse_13 (P : Int64 → Prop) (a2 : Int64) (k13 : Int64 → Int64 → Int64 → Prop) (v4 : Int64) (v6 : Int64) (v8 : Int64) : Prop := (v8 ≤ (0 : Int64) → P v4) ∧ (¬ v8 ≤ (0 : Int64) → ¬ (2 : Int64) = 0 ∧ (¬ (v8 - v8 / (2 : Int64) * (2 : Int64)) = (1 : Int64) → J_Mo_inverse_43 P k13 a2 v6 v8 v4) ∧ ((v8 - v8 / (2 : Int64) * (2 : Int64)) = (1 : Int64) → ¬ a2 = 0 ∧ J_Mo_inverse_43 P k13 a2 v6 v8 ((v4 * v6) - (v4 * v6) / a2 * a2)))
def L_Mo_inverse_13 (P : Int64 → Prop) (a2 : Int64) (n : Nat) : Int64 → Int64 → Int64 → Prop := Nat.rec (fun _ _ _ => False) (fun _ k => B_Mo_inverse_13 P a2 k) n
def w_Mo_inverse (a0 : Int64) (a2 : Int64) (P : Int64 → Prop) : Prop := ∀ x1 : Int64, x1 = a2 - (2 : Int64) → ∃ n, L_Mo_inverse_13 P a2 n (1 : Int64) a0 x1
def ws_Mo_inverse : List Cond := .code y_Mo_inverse prog_10_method_28_code 10 (Option.some Jvm.ClassFile.FieldType.long) :: zall
def rm_Mo_inverse : Room := { frames := 0, cells := 0, slots := 0, locals := 0 }
theorem hd_Mo_inverse : y_Mo_inverse.cls ≠ "java/lang/invoke/MethodHandle" ∧ y_Mo_inverse.cls ≠ "java/lang/invoke/VarHandle" ∧ (parseMethodDescriptor y_Mo_inverse.desc).map (fun d => d.parameters.length) = some 2 := by decide +kernel
set_option maxHeartbeats 4000000 in
set_option maxRecDepth 100000 in
theorem c_Mo_inverse (l : Launch) (G : zG) (b : Nat) (a0 : Int64) (a2 : Int64) (M : zM) (N : zN) {P : Int64 → Prop} (hw : w_Mo_inverse a0 a2  P) : Met l y_Mo_inverse ws_Mo_inverse rm_Mo_inverse (zPc G b M N [.long a0, .long a2]) (zQl G b (fun r M' N' => P r ∧ M' = M ∧ N' = N)) 0 0 (zA b) := by
  refine Met.ofW (cc := prog_10_method_28_code) (maxL := 10) (ret := (Option.some Jvm.ClassFile.FieldType.long)) (by decide) rfl ?_
  intro p e s m args below meth c s₁ B hml hv
  obtain ⟨rfl, hZ, hK, hT⟩ := hv
  have hx := B.exec
  have hb := B.bytes
  have hr := B.returns
  have hts := atoms_spec (ws := ws_Mo_inverse) B.pre
  have hta : ∀ w ∈ zall, w.before ([.long a0, .long a2] : List Value).toArray s = true := fun w h => hts w (List.mem_cons_of_mem _ h)
  have hown : s.vm.findClass R_Mo = some m.cls := findClass_of_methodNamed B.named
  have hlocks := B.notSynchronized
  have hS : va_S (zA b) s.heap s.heap [] := va_S.rf
  have hl := lv_entry ([.long a0, .long a2]) (n := 10) (Nat.le_of_ble_eq_true rfl)
  rw [lg_entry_eq]
  generalize (lg_sl ([.long a0, .long a2]) ++ List.replicate (10 - (lg_sl ([.long a0, .long a2])).length) Slot.unset).toArray = ls at hl ⊢
  have hl : lv_has ls 10 [(0, .long a0), (2, .long a2)] := hl
  have lp13 : ∀ (n : Nat) (v4 : Int64) (v6 : Int64) (v8 : Int64) (H : Heap) (ls : Array Slot) (locs : List Loc), va_P G.1 zCl (zws G b M N) H → va_S (zA b) s.heap H locs → lv_has ls 10 [(2, .long a2), (4, .long v4), (6, .long v6), (8, .long v8)] → L_Mo_inverse_13 P a2 n v4 v6 v8 → W p l e (headSpec ws_Mo_inverse rm_Mo_inverse).room s m ([.long a0, .long a2] : List Value).toArray below meth c H locs 0 0 (MQ below (zQl G b (fun r M' N' => P r ∧ M' = M ∧ N' = N)) ([.long a0, .long a2] : List Value).toArray s 0 0 (zA b)) (F0 m 13 ls []) := by
    intro  n
    induction n with
    | zero => intro v4 v6 v8 H ls locs hZ hS hl hw; exact False.elim hw
    | succ n13 ih13 =>
      have j43 : ∀ (v6 : Int64) (v8 : Int64) (t0 : Int64) (H : Heap) (ls : Array Slot) (locs : List Loc), va_P G.1 zCl (zws G b M N) H → va_S (zA b) s.heap H locs → lv_has ls 10 [(2, .long a2), (6, .long v6), (8, .long v8)] → J_Mo_inverse_43 P (L_Mo_inverse_13 P a2 n13) a2 v6 v8 t0 → W p l e (headSpec ws_Mo_inverse rm_Mo_inverse).room s m ([.long a0, .long a2] : List Value).toArray below meth c H locs 0 0 (MQ below (zQl G b (fun r M' N' => P r ∧ M' = M ∧ N' = N)) ([.long a0, .long a2] : List Value).toArray s 0 0 (zA b)) (F0 m 43 ls [.long t0]) := by
        intro v6 v8 t0 H ls locs hZ hS hl hw
        unfold J_Mo_inverse_43 at hw
        refine lv_lstore (pc := 43) (lv' := [(4, .long t0), (2, .long a2), (6, .long v6), (8, .long v8)]) hx hb d_Mo_inverse_43 hl (by decide) rfl (fun ls hl => ?_)
        refine lv_lload (pc := 45) hx hb d_Mo_inverse_45 (lv_at hl 2 rfl) ?_
        refine lv_lload (pc := 47) hx hb d_Mo_inverse_47 (lv_at hl 2 rfl) ?_
        refine lv_lmul (pc := 49) hx hb d_Mo_inverse_49 ?_
        refine lv_lload_n (pc := 50) hx hb d_Mo_inverse_50 rfl (lv_at hl 1 rfl) ?_
        obtain ⟨hc, hw⟩ := hw
        refine lv_lrem (pc := 51) hx hb d_Mo_inverse_51 hc ?_
        refine lv_topl (fun x2 hx2 => ?_)
        have hw := hw x2 hx2
        refine lv_lstore (pc := 52) (lv' := [(6, .long x2), (4, .long t0), (2, .long a2), (8, .long v8)]) hx hb d_Mo_inverse_52 hl (by decide) rfl (fun ls hl => ?_)
        refine lv_lload (pc := 54) hx hb d_Mo_inverse_54 (lv_at hl 3 rfl) ?_
        refine lv_ldc2 (pc := 56) (v := 2) hx hb hown (hta _ wd911) d_Mo_inverse_56 ?_
        obtain ⟨hc, hw⟩ := hw
        refine lv_ldiv (pc := 59) hx hb d_Mo_inverse_59 hc ?_
        refine lv_topl (fun x3 hx3 => ?_)
        have hw := hw x3 hx3
        refine lv_lstore (pc := 60) (lv' := [(8, .long x3), (6, .long x2), (4, .long t0), (2, .long a2)]) hx hb d_Mo_inverse_60 hl (by decide) rfl (fun ls hl => ?_)
        refine lv_goto (pc := 62) (tgt := 13) hx hb d_Mo_inverse_62 (by decide) ?_
        exact ih13 t0 x2 x3 _ _ _ hZ hS (lv_sub hl [3, 2, 1, 0] rfl) hw
      intro v4 v6 v8 H ls locs hZ hS hl hw
      have hw : B_Mo_inverse_13 P a2 (L_Mo_inverse_13 P a2 n13) v4 v6 v8 := hw
      unfold B_Mo_inverse_13 at hw
      refine lv_lload (pc := 13) hx hb d_Mo_inverse_13 (lv_at hl 3 rfl) ?_
      refine lv_lconst (pc := 15) (v := 0) hx hb d_Mo_inverse_15 (by decide) ?_
      refine z_lc_le (pc := 16) (tgt := 65) hx hb d_Mo_inverse_16 d_Mo_inverse_17 (by decide) (fun hc => ?_) (fun hc => ?_)
      · have hw := hw.1 hc
        refine lv_lload (pc := 65) hx hb d_Mo_inverse_65 (lv_at hl 1 rfl) ?_
        exact z_lret hx hb hr hlocks hK hT hZ hS ⟨hw, rfl, rfl⟩ d_Mo_inverse_67
      · have hw := hw.2 hc
        refine lv_lload (pc := 20) hx hb d_Mo_inverse_20 (lv_at hl 3 rfl) ?_
        refine lv_ldc2 (pc := 22) (v := 2) hx hb hown (hta _ wd911) d_Mo_inverse_22 ?_
        obtain ⟨hc, hw⟩ := hw
        refine lv_lrem (pc := 25) hx hb d_Mo_inverse_25 hc ?_
        refine lv_lconst (pc := 26) (v := 1) hx hb d_Mo_inverse_26 (by decide) ?_
        refine z_lc_ne (pc := 27) (tgt := 41) hx hb d_Mo_inverse_27 d_Mo_inverse_28 (by decide) (fun hc => ?_) (fun hc => ?_)
        · have hw := hw.1 hc
          refine lv_lload (pc := 41) hx hb d_Mo_inverse_41 (lv_at hl 1 rfl) ?_
          exact j43 v6 v8 v4 _ _ _ hZ hS (lv_sub hl [0, 2, 3] rfl) hw
        · have hw := hw.2 hc
          refine lv_lload (pc := 31) hx hb d_Mo_inverse_31 (lv_at hl 1 rfl) ?_
          refine lv_lload (pc := 33) hx hb d_Mo_inverse_33 (lv_at hl 2 rfl) ?_
          refine lv_lmul (pc := 35) hx hb d_Mo_inverse_35 ?_
          refine lv_lload_n (pc := 36) hx hb d_Mo_inverse_36 rfl (lv_at hl 0 rfl) ?_
          obtain ⟨hc, hw⟩ := hw
          refine lv_lrem (pc := 37) hx hb d_Mo_inverse_37 hc ?_
          refine lv_goto (pc := 38) (tgt := 43) hx hb d_Mo_inverse_38 (by decide) ?_
          exact j43 v6 v8 ((v4 * v6) - (v4 * v6) / a2 * a2) _ _ _ hZ hS (lv_sub hl [0, 2, 3] rfl) hw
  unfold w_Mo_inverse at hw
  refine lv_lconst (pc := 0) (v := 1) hx hb d_Mo_inverse_0 (by decide) ?_
  refine lv_lstore (pc := 1) (lv' := [(4, .long (1 : Int64)), (0, .long a0), (2, .long a2)]) hx hb d_Mo_inverse_1 hl (by decide) rfl (fun ls hl => ?_)
  refine lv_lload_n (pc := 3) hx hb d_Mo_inverse_3 rfl (lv_at hl 1 rfl) ?_
  refine lv_lstore (pc := 4) (lv' := [(6, .long a0), (4, .long (1 : Int64)), (0, .long a0), (2, .long a2)]) hx hb d_Mo_inverse_4 hl (by decide) rfl (fun ls hl => ?_)
  refine lv_lload_n (pc := 6) hx hb d_Mo_inverse_6 rfl (lv_at hl 3 rfl) ?_
  refine lv_ldc2 (pc := 7) (v := 2) hx hb hown (hta _ wd911) d_Mo_inverse_7 ?_
  refine lv_lsub (pc := 10) hx hb d_Mo_inverse_10 ?_
  refine lv_topl (fun x1 hx1 => ?_)
  have hw := hw x1 hx1
  refine lv_lstore (pc := 11) (lv' := [(8, .long x1), (6, .long a0), (4, .long (1 : Int64)), (0, .long a0), (2, .long a2)]) hx hb d_Mo_inverse_11 hl (by decide) rfl (fun ls hl => ?_)
  obtain ⟨n, hw⟩ := hw
  exact lp13  n (1 : Int64) a0 x1 _ _ _ hZ hS (lv_sub hl [4, 2, 1, 0] rfl) hw
theorem d_Mo_reduce_0 : decode prog_10_method_29_code 0 = .ok (.aload_n 1, 1) := by decide +kernel
theorem d_Mo_reduce_1 : decode prog_10_method_29_code 1 = .ok (.iload_n 2, 1) := by decide +kernel
theorem d_Mo_reduce_2 : decode prog_10_method_29_code 2 = .ok (.laload, 1) := by decide +kernel
theorem d_Mo_reduce_3 : decode prog_10_method_29_code 3 = .ok (.lload_n 3, 1) := by decide +kernel
theorem d_Mo_reduce_4 : decode prog_10_method_29_code 4 = .ok (.invokestatic 142, 3) := by decide +kernel
theorem d_Mo_reduce_7 : decode prog_10_method_29_code 7 = .ok (.lstore 5, 2) := by decide +kernel
theorem d_Mo_reduce_9 : decode prog_10_method_29_code 9 = .ok (.aload_n 0, 1) := by decide +kernel
theorem d_Mo_reduce_10 : decode prog_10_method_29_code 10 = .ok (.invokestatic 82, 3) := by decide +kernel
theorem d_Mo_reduce_13 : decode prog_10_method_29_code 13 = .ok (.istore 7, 2) := by decide +kernel
theorem d_Mo_reduce_15 : decode prog_10_method_29_code 15 = .ok (.iload 7, 2) := by decide +kernel
theorem d_Mo_reduce_17 : decode prog_10_method_29_code 17 = .ok (.iload_n 2, 1) := by decide +kernel
theorem d_Mo_reduce_18 : decode prog_10_method_29_code 18 = .ok (.if_icmp .lt 70, 3) := by decide +kernel
theorem d_Mo_reduce_21 : decode prog_10_method_29_code 21 = .ok (.aload_n 0, 1) := by decide +kernel
theorem d_Mo_reduce_22 : decode prog_10_method_29_code 22 = .ok (.iload 7, 2) := by decide +kernel
theorem d_Mo_reduce_24 : decode prog_10_method_29_code 24 = .ok (.laload, 1) := by decide +kernel
theorem d_Mo_reduce_25 : decode prog_10_method_29_code 25 = .ok (.lload 5, 2) := by decide +kernel
theorem d_Mo_reduce_27 : decode prog_10_method_29_code 27 = .ok (.lmul, 1) := by decide +kernel
theorem d_Mo_reduce_28 : decode prog_10_method_29_code 28 = .ok (.lload_n 3, 1) := by decide +kernel
theorem d_Mo_reduce_29 : decode prog_10_method_29_code 29 = .ok (.lrem, 1) := by decide +kernel
theorem d_Mo_reduce_30 : decode prog_10_method_29_code 30 = .ok (.lstore 8, 2) := by decide +kernel
theorem d_Mo_reduce_32 : decode prog_10_method_29_code 32 = .ok (.iconst 0, 1) := by decide +kernel
theorem d_Mo_reduce_33 : decode prog_10_method_29_code 33 = .ok (.istore 10, 2) := by decide +kernel
theorem d_Mo_reduce_35 : decode prog_10_method_29_code 35 = .ok (.iload 10, 2) := by decide +kernel
theorem d_Mo_reduce_37 : decode prog_10_method_29_code 37 = .ok (.iload_n 2, 1) := by decide +kernel
theorem d_Mo_reduce_38 : decode prog_10_method_29_code 38 = .ok (.if_icmp .gt 41, 3) := by decide +kernel
theorem d_Mo_reduce_41 : decode prog_10_method_29_code 41 = .ok (.aload_n 0, 1) := by decide +kernel
theorem d_Mo_reduce_42 : decode prog_10_method_29_code 42 = .ok (.iload 7, 2) := by decide +kernel
theorem d_Mo_reduce_44 : decode prog_10_method_29_code 44 = .ok (.iload_n 2, 1) := by decide +kernel
theorem d_Mo_reduce_45 : decode prog_10_method_29_code 45 = .ok (.isub, 1) := by decide +kernel
theorem d_Mo_reduce_46 : decode prog_10_method_29_code 46 = .ok (.iload 10, 2) := by decide +kernel
theorem d_Mo_reduce_48 : decode prog_10_method_29_code 48 = .ok (.iadd, 1) := by decide +kernel
theorem d_Mo_reduce_49 : decode prog_10_method_29_code 49 = .ok (.aload_n 0, 1) := by decide +kernel
theorem d_Mo_reduce_50 : decode prog_10_method_29_code 50 = .ok (.iload 7, 2) := by decide +kernel
theorem d_Mo_reduce_52 : decode prog_10_method_29_code 52 = .ok (.iload_n 2, 1) := by decide +kernel
theorem d_Mo_reduce_53 : decode prog_10_method_29_code 53 = .ok (.isub, 1) := by decide +kernel
theorem d_Mo_reduce_54 : decode prog_10_method_29_code 54 = .ok (.iload 10, 2) := by decide +kernel
theorem d_Mo_reduce_56 : decode prog_10_method_29_code 56 = .ok (.iadd, 1) := by decide +kernel
theorem d_Mo_reduce_57 : decode prog_10_method_29_code 57 = .ok (.laload, 1) := by decide +kernel
theorem d_Mo_reduce_58 : decode prog_10_method_29_code 58 = .ok (.lload 8, 2) := by decide +kernel
theorem d_Mo_reduce_60 : decode prog_10_method_29_code 60 = .ok (.aload_n 1, 1) := by decide +kernel
theorem d_Mo_reduce_61 : decode prog_10_method_29_code 61 = .ok (.iload 10, 2) := by decide +kernel
theorem d_Mo_reduce_63 : decode prog_10_method_29_code 63 = .ok (.laload, 1) := by decide +kernel
theorem d_Mo_reduce_64 : decode prog_10_method_29_code 64 = .ok (.lmul, 1) := by decide +kernel
theorem d_Mo_reduce_65 : decode prog_10_method_29_code 65 = .ok (.lload_n 3, 1) := by decide +kernel
theorem d_Mo_reduce_66 : decode prog_10_method_29_code 66 = .ok (.lrem, 1) := by decide +kernel
theorem d_Mo_reduce_67 : decode prog_10_method_29_code 67 = .ok (.lsub, 1) := by decide +kernel
theorem d_Mo_reduce_68 : decode prog_10_method_29_code 68 = .ok (.lload_n 3, 1) := by decide +kernel
theorem d_Mo_reduce_69 : decode prog_10_method_29_code 69 = .ok (.invokestatic 137, 3) := by decide +kernel
theorem d_Mo_reduce_72 : decode prog_10_method_29_code 72 = .ok (.lastore, 1) := by decide +kernel
theorem d_Mo_reduce_73 : decode prog_10_method_29_code 73 = .ok (.iinc 10 1, 3) := by decide +kernel
theorem d_Mo_reduce_76 : decode prog_10_method_29_code 76 = .ok (.goto (-41), 3) := by decide +kernel
theorem d_Mo_reduce_79 : decode prog_10_method_29_code 79 = .ok (.aload_n 0, 1) := by decide +kernel
theorem d_Mo_reduce_80 : decode prog_10_method_29_code 80 = .ok (.invokestatic 82, 3) := by decide +kernel
theorem d_Mo_reduce_83 : decode prog_10_method_29_code 83 = .ok (.istore 7, 2) := by decide +kernel
theorem d_Mo_reduce_85 : decode prog_10_method_29_code 85 = .ok (.goto (-70), 3) := by decide +kernel
theorem d_Mo_reduce_88 : decode prog_10_method_29_code 88 = .ok (.return_, 1) := by decide +kernel
def B_Mo_reduce_35 (P : zM → Prop) (k15 : Int32 → zM → Prop) (a0 : Nat) (a1 : Nat) (a2 : Int32) (a3 : Int64) (v5 : Int64) (v7 : Int32) (v8 : Int64) (k35 : Int32 → zM → Prop) (v10 : Int32) (M : zM) : Prop := (a2 < v10 → w_Mo_degreeOf a0 M (fun r8 => k15 r8 M)) ∧ (¬ a2 < v10 → vp_in ((v7 - a2) + v10) (zlong a0) ∧ vp_in v10 (zlong a1) ∧ ¬ a3 = 0 ∧ w_Mo_left ((M a0 ((v7 - a2) + v10).toNatClampNeg) - ((v8 * (M a1 v10.toNatClampNeg)) - (v8 * (M a1 v10.toNatClampNeg)) / a3 * a3)) a3  (fun r11 => vp_in ((v7 - a2) + v10) (zlong a0) ∧ ∀ M14 : zM, M14 = zput M a0 ((v7 - a2) + v10).toNatClampNeg r11 → k35 (v10 + (1 : Int32)) M14))
def L_Mo_reduce_35 (P : zM → Prop) (k15 : Int32 → zM → Prop) (a0 : Nat) (a1 : Nat) (a2 : Int32) (a3 : Int64) (v5 : Int64) (v7 : Int32) (v8 : Int64) (n : Nat) : Int32 → zM → Prop := Nat.rec (fun _ _ => False) (fun _ k => B_Mo_reduce_35 P k15 a0 a1 a2 a3 v5 v7 v8 k) n
def B_Mo_reduce_15 (P : zM → Prop) (a0 : Nat) (a1 : Nat) (a2 : Int32) (a3 : Int64) (v5 : Int64) (k15 : Int32 → zM → Prop) (v7 : Int32) (M : zM) : Prop := (v7 < a2 → P M) ∧ (¬ v7 < a2 → vp_in v7 (zlong a0) ∧ ¬ a3 = 0 ∧ ∀ x7 : Int64, x7 = ((M a0 v7.toNatClampNeg) * v5) - ((M a0 v7.toNatClampNeg) * v5) / a3 * a3 → ∃ n, L_Mo_reduce_35 P k15 a0 a1 a2 a3 v5 v7 x7 n (0 : Int32) M)
def L_Mo_reduce_15 (P : zM → Prop) (a0 : Nat) (a1 : Nat) (a2 : Int32) (a3 : Int64) (v5 : Int64) (n : Nat) : Int32 → zM → Prop := Nat.rec (fun _ _ => False) (fun _ k => B_Mo_reduce_15 P a0 a1 a2 a3 v5 k) n
def w_Mo_reduce (a0 : Nat) (a1 : Nat) (a2 : Int32) (a3 : Int64) (M : zM) (P : zM → Prop) : Prop := vp_in a2 (zlong a1) ∧ w_Mo_inverse (M a1 a2.toNatClampNeg) a3  (fun r1 => w_Mo_degreeOf a0 M (fun r4 => ∃ n, L_Mo_reduce_15 P a0 a1 a2 a3 r1 n r4 M))
def ws_Mo_reduce : List Cond := .code y_Mo_reduce prog_10_method_29_code 11 (Option.none : Option Jvm.ClassFile.FieldType) :: zall
def rm_Mo_reduce : Room := { frames := 1, cells := 0, slots := 0, locals := 29 }
theorem hd_Mo_reduce : y_Mo_reduce.cls ≠ "java/lang/invoke/MethodHandle" ∧ y_Mo_reduce.cls ≠ "java/lang/invoke/VarHandle" ∧ (parseMethodDescriptor y_Mo_reduce.desc).map (fun d => d.parameters.length) = some 4 := by decide +kernel
set_option maxHeartbeats 4000000 in
set_option maxRecDepth 100000 in
theorem c_Mo_reduce (l : Launch) (G : zG) (b : Nat) (a0 : Nat) (a1 : Nat) (a2 : Int32) (a3 : Int64) (M : zM) (N : zN) {P : zM → Prop} (hw : w_Mo_reduce a0 a1 a2 a3 M P) : Met l y_Mo_reduce ws_Mo_reduce rm_Mo_reduce (zPc G b M N [.ref (b + a0), .ref (b + a1), .int a2, .long a3]) (zQv G b (fun M' N' => P M' ∧ N' = N)) 0 0 (zA b) := by
  refine Met.ofW (cc := prog_10_method_29_code) (maxL := 11) (ret := (Option.none : Option Jvm.ClassFile.FieldType)) (by decide) rfl ?_
  intro p e s m args below meth c s₁ B hml hv
  obtain ⟨rfl, hZ, hK, hT⟩ := hv
  have hx := B.exec
  have hb := B.bytes
  have hr := B.returns
  have hts := atoms_spec (ws := ws_Mo_reduce) B.pre
  have hta : ∀ w ∈ zall, w.before ([.ref (b + a0), .ref (b + a1), .int a2, .long a3] : List Value).toArray s = true := fun w h => hts w (List.mem_cons_of_mem _ h)
  have hown : s.vm.findClass R_Mo = some m.cls := findClass_of_methodNamed B.named
  have hlocks := B.notSynchronized
  have hS : va_S (zA b) s.heap s.heap [] := va_S.rf
  have hl := lv_entry ([.ref (b + a0), .ref (b + a1), .int a2, .long a3]) (n := 11) (Nat.le_of_ble_eq_true rfl)
  rw [lg_entry_eq]
  generalize (lg_sl ([.ref (b + a0), .ref (b + a1), .int a2, .long a3]) ++ List.replicate (11 - (lg_sl ([.ref (b + a0), .ref (b + a1), .int a2, .long a3])).length) Slot.unset).toArray = ls at hl ⊢
  have hl : lv_has ls 11 [(0, .ref (b + a0)), (1, .ref (b + a1)), (2, .int a2), (3, .long a3)] := hl
  have lp15 : ∀ (v5 : Int64) (n : Nat) (v7 : Int32) (M : zM) (H : Heap) (ls : Array Slot) (locs : List Loc), va_P G.1 zCl (zws G b M N) H → va_S (zA b) s.heap H locs → lv_has ls 11 [(0, .ref (b + a0)), (1, .ref (b + a1)), (2, .int a2), (3, .long a3), (5, .long v5), (7, .int v7)] → L_Mo_reduce_15 P a0 a1 a2 a3 v5 n v7 M → W p l e (headSpec ws_Mo_reduce rm_Mo_reduce).room s m ([.ref (b + a0), .ref (b + a1), .int a2, .long a3] : List Value).toArray below meth c H locs 0 0 (MQ below (zQv G b (fun M' N' => P M' ∧ N' = N)) ([.ref (b + a0), .ref (b + a1), .int a2, .long a3] : List Value).toArray s 0 0 (zA b)) (F0 m 15 ls []) := by
    intro v5 n
    induction n with
    | zero => intro v7 M H ls locs hZ hS hl hw; exact False.elim hw
    | succ n15 ih15 =>
      have lp35 : ∀ (v7 : Int32) (v8 : Int64) (n : Nat) (v10 : Int32) (M : zM) (H : Heap) (ls : Array Slot) (locs : List Loc), va_P G.1 zCl (zws G b M N) H → va_S (zA b) s.heap H locs → lv_has ls 11 [(0, .ref (b + a0)), (1, .ref (b + a1)), (2, .int a2), (3, .long a3), (5, .long v5), (7, .int v7), (8, .long v8), (10, .int v10)] → L_Mo_reduce_35 P (L_Mo_reduce_15 P a0 a1 a2 a3 v5 n15) a0 a1 a2 a3 v5 v7 v8 n v10 M → W p l e (headSpec ws_Mo_reduce rm_Mo_reduce).room s m ([.ref (b + a0), .ref (b + a1), .int a2, .long a3] : List Value).toArray below meth c H locs 0 0 (MQ below (zQv G b (fun M' N' => P M' ∧ N' = N)) ([.ref (b + a0), .ref (b + a1), .int a2, .long a3] : List Value).toArray s 0 0 (zA b)) (F0 m 35 ls []) := by
        intro v7 v8 n
        induction n with
        | zero => intro v10 M H ls locs hZ hS hl hw; exact False.elim hw
        | succ n35 ih35 =>
          intro v10 M H ls locs hZ hS hl hw
          have hw : B_Mo_reduce_35 P (L_Mo_reduce_15 P a0 a1 a2 a3 v5 n15) a0 a1 a2 a3 v5 v7 v8 (L_Mo_reduce_35 P (L_Mo_reduce_15 P a0 a1 a2 a3 v5 n15) a0 a1 a2 a3 v5 v7 v8 n35) v10 M := hw
          unfold B_Mo_reduce_35 at hw
          refine lv_iload (pc := 35) hx hb d_Mo_reduce_35 (lv_at hl 7 rfl) ?_
          refine lv_iload_n (pc := 37) hx hb d_Mo_reduce_37 rfl (lv_at hl 2 rfl) ?_
          refine lv_icmp_gt (pc := 38) (tgt := 79) hx hb d_Mo_reduce_38 (by decide) (fun hc => ?_) (fun hc => ?_)
          · have hw := hw.1 hc
            refine lv_aload_n (pc := 79) hx hb d_Mo_reduce_79 rfl (lv_at hl 0 rfl) ?_
            refine z_calli (pc := 80) (va_runS (As := [.ref (b + a0)]) (rest := []) ⟨hx, hb, hml, hown, hts⟩ (c_Mo_degreeOf l G b a0 M N hw) (va_cwS 1 hts (z_good (zgS wd814 wd815 wd7 wd816)) rfl rfl rfl hd_Mo_degreeOf ⟨Nat.le_of_ble_eq_true rfl, Nat.le_of_ble_eq_true rfl⟩) (z_preS hZ hK hT hS) rfl rfl hl.1 rfl (lv_room (Nat.le_of_ble_eq_true rfl)) d_Mo_reduce_80 ⟨Nat.le_of_ble_eq_true rfl, Nat.le_of_ble_eq_true rfl⟩) hS (fun r8 M9 N10 H locs hw hZ hS => ?_)
            obtain ⟨hw, eM9, eN10⟩ := hw
            rw [eM9, eN10] at hZ
            refine lv_istore (pc := 83) (lv' := [(7, .int r8), (0, .ref (b + a0)), (1, .ref (b + a1)), (2, .int a2), (3, .long a3), (5, .long v5), (8, .long v8), (10, .int v10)]) hx hb d_Mo_reduce_83 hl (by decide) rfl (fun ls hl => ?_)
            refine lv_goto (pc := 85) (tgt := 15) hx hb d_Mo_reduce_85 (by decide) ?_
            exact ih15 r8 M _ _ _ hZ hS (lv_sub hl [1, 2, 3, 4, 5, 0] rfl) hw
          · have hw := hw.2 hc
            refine lv_aload_n (pc := 41) hx hb d_Mo_reduce_41 rfl (lv_at hl 0 rfl) ?_
            refine lv_iload (pc := 42) hx hb d_Mo_reduce_42 (lv_at hl 5 rfl) ?_
            refine lv_iload_n (pc := 44) hx hb d_Mo_reduce_44 rfl (lv_at hl 2 rfl) ?_
            refine lv_isub (pc := 45) hx hb d_Mo_reduce_45 ?_
            refine lv_iload (pc := 46) hx hb d_Mo_reduce_46 (lv_at hl 7 rfl) ?_
            refine lv_iadd (pc := 48) hx hb d_Mo_reduce_48 ?_
            refine lv_aload_n (pc := 49) hx hb d_Mo_reduce_49 rfl (lv_at hl 0 rfl) ?_
            refine lv_iload (pc := 50) hx hb d_Mo_reduce_50 (lv_at hl 5 rfl) ?_
            refine lv_iload_n (pc := 52) hx hb d_Mo_reduce_52 rfl (lv_at hl 2 rfl) ?_
            refine lv_isub (pc := 53) hx hb d_Mo_reduce_53 ?_
            refine lv_iload (pc := 54) hx hb d_Mo_reduce_54 (lv_at hl 7 rfl) ?_
            refine lv_iadd (pc := 56) hx hb d_Mo_reduce_56 ?_
            obtain ⟨hc, hw⟩ := hw
            refine z_lald (pc := 57) hx hb hK hZ hc d_Mo_reduce_57 ?_
            refine lv_lload (pc := 58) hx hb d_Mo_reduce_58 (lv_at hl 6 rfl) ?_
            refine lv_aload_n (pc := 60) hx hb d_Mo_reduce_60 rfl (lv_at hl 1 rfl) ?_
            refine lv_iload (pc := 61) hx hb d_Mo_reduce_61 (lv_at hl 7 rfl) ?_
            obtain ⟨hc, hw⟩ := hw
            refine z_lald (pc := 63) hx hb hK hZ hc d_Mo_reduce_63 ?_
            refine lv_lmul (pc := 64) hx hb d_Mo_reduce_64 ?_
            refine lv_lload_n (pc := 65) hx hb d_Mo_reduce_65 rfl (lv_at hl 3 rfl) ?_
            obtain ⟨hc, hw⟩ := hw
            refine lv_lrem (pc := 66) hx hb d_Mo_reduce_66 hc ?_
            refine lv_lsub (pc := 67) hx hb d_Mo_reduce_67 ?_
            refine lv_lload_n (pc := 68) hx hb d_Mo_reduce_68 rfl (lv_at hl 3 rfl) ?_
            refine z_calll (pc := 69) (va_runS (As := [.long ((M a0 ((v7 - a2) + v10).toNatClampNeg) - ((v8 * (M a1 v10.toNatClampNeg)) - (v8 * (M a1 v10.toNatClampNeg)) / a3 * a3)), .long a3]) (rest := [.int ((v7 - a2) + v10), .ref (b + a0)]) ⟨hx, hb, hml, hown, hts⟩ (c_Mo_left l G b ((M a0 ((v7 - a2) + v10).toNatClampNeg) - ((v8 * (M a1 v10.toNatClampNeg)) - (v8 * (M a1 v10.toNatClampNeg)) / a3 * a3)) a3 M N hw) (va_cwS 2 hts (z_good (zgS wd902 wd903 wd7 wd904)) rfl rfl rfl hd_Mo_left ⟨Nat.le_of_ble_eq_true rfl, Nat.le_of_ble_eq_true rfl⟩) (z_preS hZ hK hT hS) rfl rfl hl.1 rfl (lv_room (Nat.le_of_ble_eq_true rfl)) d_Mo_reduce_69 ⟨Nat.le_of_ble_eq_true rfl, Nat.le_of_ble_eq_true rfl⟩) hS (fun r11 M12 N13 H locs hw hZ hS => ?_)
            obtain ⟨hw, eM12, eN13⟩ := hw
            rw [eM12, eN13] at hZ
            obtain ⟨hc, hw⟩ := hw
            refine z_last (pc := 72) hx hb hK hZ hS hc d_Mo_reduce_72 (fun M14 H locs hM14 hZ hS => ?_)
            have hw := hw M14 hM14
            refine lv_iinc (pc := 73) (k := 7) (v := v10 + (1 : Int32)) (lv' := [(10, .int (v10 + (1 : Int32))), (0, .ref (b + a0)), (1, .ref (b + a1)), (2, .int a2), (3, .long a3), (5, .long v5), (7, .int v7), (8, .long v8)]) hx hb d_Mo_reduce_73 hl rfl (by rfl) (by decide) rfl (fun ls hl => ?_)
            refine lv_goto (pc := 76) (tgt := 35) hx hb d_Mo_reduce_76 (by decide) ?_
            exact ih35 (v10 + (1 : Int32)) M14 _ _ _ hZ hS (lv_sub hl [1, 2, 3, 4, 5, 6, 7, 0] rfl) hw
      intro v7 M H ls locs hZ hS hl hw
      have hw : B_Mo_reduce_15 P a0 a1 a2 a3 v5 (L_Mo_reduce_15 P a0 a1 a2 a3 v5 n15) v7 M := hw
      unfold B_Mo_reduce_15 at hw
      refine lv_iload (pc := 15) hx hb d_Mo_reduce_15 (lv_at hl 5 rfl) ?_
      refine lv_iload_n (pc := 17) hx hb d_Mo_reduce_17 rfl (lv_at hl 2 rfl) ?_
      refine lv_icmp_lt (pc := 18) (tgt := 88) hx hb d_Mo_reduce_18 (by decide) (fun hc => ?_) (fun hc => ?_)
      · have hw := hw.1 hc
        exact z_vret hx hb hr hlocks hK hT hZ hS ⟨hw, rfl⟩ d_Mo_reduce_88
      · have hw := hw.2 hc
        refine lv_aload_n (pc := 21) hx hb d_Mo_reduce_21 rfl (lv_at hl 0 rfl) ?_
        refine lv_iload (pc := 22) hx hb d_Mo_reduce_22 (lv_at hl 5 rfl) ?_
        obtain ⟨hc, hw⟩ := hw
        refine z_lald (pc := 24) hx hb hK hZ hc d_Mo_reduce_24 ?_
        refine lv_lload (pc := 25) hx hb d_Mo_reduce_25 (lv_at hl 4 rfl) ?_
        refine lv_lmul (pc := 27) hx hb d_Mo_reduce_27 ?_
        refine lv_lload_n (pc := 28) hx hb d_Mo_reduce_28 rfl (lv_at hl 3 rfl) ?_
        obtain ⟨hc, hw⟩ := hw
        refine lv_lrem (pc := 29) hx hb d_Mo_reduce_29 hc ?_
        refine lv_topl (fun x7 hx7 => ?_)
        have hw := hw x7 hx7
        refine lv_lstore (pc := 30) (lv' := [(8, .long x7), (0, .ref (b + a0)), (1, .ref (b + a1)), (2, .int a2), (3, .long a3), (5, .long v5), (7, .int v7)]) hx hb d_Mo_reduce_30 hl (by decide) rfl (fun ls hl => ?_)
        refine lv_iconst (pc := 32) (v := 0) hx hb d_Mo_reduce_32 (by decide) ?_
        refine lv_istore (pc := 33) (lv' := [(10, .int (0 : Int32)), (8, .long x7), (0, .ref (b + a0)), (1, .ref (b + a1)), (2, .int a2), (3, .long a3), (5, .long v5), (7, .int v7)]) hx hb d_Mo_reduce_33 hl (by decide) rfl (fun ls hl => ?_)
        obtain ⟨n, hw⟩ := hw
        exact lp35 v7 x7 n (0 : Int32) M _ _ _ hZ hS (lv_sub hl [2, 3, 4, 5, 6, 7, 1, 0] rfl) hw
  unfold w_Mo_reduce at hw
  refine lv_aload_n (pc := 0) hx hb d_Mo_reduce_0 rfl (lv_at hl 1 rfl) ?_
  refine lv_iload_n (pc := 1) hx hb d_Mo_reduce_1 rfl (lv_at hl 2 rfl) ?_
  obtain ⟨hc, hw⟩ := hw
  refine z_lald (pc := 2) hx hb hK hZ hc d_Mo_reduce_2 ?_
  refine lv_lload_n (pc := 3) hx hb d_Mo_reduce_3 rfl (lv_at hl 3 rfl) ?_
  refine z_calll (pc := 4) (va_runS (As := [.long (M a1 a2.toNatClampNeg), .long a3]) (rest := []) ⟨hx, hb, hml, hown, hts⟩ (c_Mo_inverse l G b (M a1 a2.toNatClampNeg) a3 M N hw) (va_cwS 2 hts (z_good (zgS wd908 wd909 wd7 wd910)) rfl rfl rfl hd_Mo_inverse ⟨Nat.le_of_ble_eq_true rfl, Nat.le_of_ble_eq_true rfl⟩) (z_preS hZ hK hT hS) rfl rfl hl.1 rfl (lv_room (Nat.le_of_ble_eq_true rfl)) d_Mo_reduce_4 ⟨Nat.le_of_ble_eq_true rfl, Nat.le_of_ble_eq_true rfl⟩) hS (fun r1 M2 N3 H locs hw hZ hS => ?_)
  obtain ⟨hw, eM2, eN3⟩ := hw
  rw [eM2, eN3] at hZ
  refine lv_lstore (pc := 7) (lv' := [(5, .long r1), (0, .ref (b + a0)), (1, .ref (b + a1)), (2, .int a2), (3, .long a3)]) hx hb d_Mo_reduce_7 hl (by decide) rfl (fun ls hl => ?_)
  refine lv_aload_n (pc := 9) hx hb d_Mo_reduce_9 rfl (lv_at hl 1 rfl) ?_
  refine z_calli (pc := 10) (va_runS (As := [.ref (b + a0)]) (rest := []) ⟨hx, hb, hml, hown, hts⟩ (c_Mo_degreeOf l G b a0 M N hw) (va_cwS 1 hts (z_good (zgS wd814 wd815 wd7 wd816)) rfl rfl rfl hd_Mo_degreeOf ⟨Nat.le_of_ble_eq_true rfl, Nat.le_of_ble_eq_true rfl⟩) (z_preS hZ hK hT hS) rfl rfl hl.1 rfl (lv_room (Nat.le_of_ble_eq_true rfl)) d_Mo_reduce_10 ⟨Nat.le_of_ble_eq_true rfl, Nat.le_of_ble_eq_true rfl⟩) hS (fun r4 M5 N6 H locs hw hZ hS => ?_)
  obtain ⟨hw, eM5, eN6⟩ := hw
  rw [eM5, eN6] at hZ
  refine lv_istore (pc := 13) (lv' := [(7, .int r4), (5, .long r1), (0, .ref (b + a0)), (1, .ref (b + a1)), (2, .int a2), (3, .long a3)]) hx hb d_Mo_reduce_13 hl (by decide) rfl (fun ls hl => ?_)
  obtain ⟨n, hw⟩ := hw
  exact lp15 r1 n r4 M _ _ _ hZ hS (lv_sub hl [2, 3, 4, 5, 1, 0] rfl) hw
theorem zg_Mo_47 {p : Program} {l : Launch} {e : Env} {R : Room} {s : State} {m : MethodId} {args : Array Value} {below : List Frame} {meth : Method} {c : Code} {H : Heap} {locs : List Loc} {cells slots : Nat} {Q : State → Prop} {cc : ByteArray} {pc : Nat} {ls : Array Slot} {rest : List Value} {G : zG} {b : Nat} {M : zM} {N : zN} (hx : p.tables.exec = Jvm.exec) (hb : c.code = cc) (hta : ∀ w ∈ zall, w.before args s = true) (hown : s.vm.findClass R_Mo = some m.cls) (hK : va_K G.1 zCl (zty G) s) (hZ : va_P G.1 zCl (zws G b M N) H) (hdg : decode cc pc = .ok (.getfield 47, 3)) (kk : W p l e R s m args below meth c H locs cells slots Q (F0 m (pc + 3) ls (.ref (b + 112) :: rest))) : W p l e R s m args below meth c H locs cells slots Q (F0 m pc ls (.ref (b + 99) :: rest)) :=
  va_get (D := G.1) (ci := 6) (v := .ref (b + 112)) (C := R_Mo) (T := T_Mo) (N := 23) hx hb hta hin_Mo hown hK hZ 99 zo_Mo rfl 16 (by decide) (hta _ wd743) (fun _ h9 => h9) rfl hdg kk
theorem zg_Mo_44 {p : Program} {l : Launch} {e : Env} {R : Room} {s : State} {m : MethodId} {args : Array Value} {below : List Frame} {meth : Method} {c : Code} {H : Heap} {locs : List Loc} {cells slots : Nat} {Q : State → Prop} {cc : ByteArray} {pc : Nat} {ls : Array Slot} {rest : List Value} {G : zG} {b : Nat} {M : zM} {N : zN} (hx : p.tables.exec = Jvm.exec) (hb : c.code = cc) (hta : ∀ w ∈ zall, w.before args s = true) (hown : s.vm.findClass R_Mo = some m.cls) (hK : va_K G.1 zCl (zty G) s) (hZ : va_P G.1 zCl (zws G b M N) H) (hdg : decode cc pc = .ok (.getfield 44, 3)) (kk : W p l e R s m args below meth c H locs cells slots Q (F0 m (pc + 3) ls (.ref (b + 111) :: rest))) : W p l e R s m args below meth c H locs cells slots Q (F0 m pc ls (.ref (b + 99) :: rest)) :=
  va_get (D := G.1) (ci := 6) (v := .ref (b + 111)) (C := R_Mo) (T := T_Mo) (N := 23) hx hb hta hin_Mo hown hK hZ 99 zo_Mo rfl 15 (by decide) (hta _ wd742) (fun _ h9 => h9) rfl hdg kk
theorem d_Mo_euclid_0 : decode prog_10_method_30_code 0 = .ok (.iconst 0, 1) := by decide +kernel
theorem d_Mo_euclid_1 : decode prog_10_method_30_code 1 = .ok (.istore 5, 2) := by decide +kernel
theorem d_Mo_euclid_3 : decode prog_10_method_30_code 3 = .ok (.iload 5, 2) := by decide +kernel
theorem d_Mo_euclid_5 : decode prog_10_method_30_code 5 = .ok (.bipush 16, 2) := by decide +kernel
theorem d_Mo_euclid_7 : decode prog_10_method_30_code 7 = .ok (.if_icmp .ge 39, 3) := by decide +kernel
theorem d_Mo_euclid_10 : decode prog_10_method_30_code 10 = .ok (.aload_n 0, 1) := by decide +kernel
theorem d_Mo_euclid_11 : decode prog_10_method_30_code 11 = .ok (.getfield 44, 3) := by decide +kernel
theorem d_Mo_euclid_14 : decode prog_10_method_30_code 14 = .ok (.iload 5, 2) := by decide +kernel
theorem d_Mo_euclid_16 : decode prog_10_method_30_code 16 = .ok (.aload_n 1, 1) := by decide +kernel
theorem d_Mo_euclid_17 : decode prog_10_method_30_code 17 = .ok (.iload 5, 2) := by decide +kernel
theorem d_Mo_euclid_19 : decode prog_10_method_30_code 19 = .ok (.laload, 1) := by decide +kernel
theorem d_Mo_euclid_20 : decode prog_10_method_30_code 20 = .ok (.lload_n 3, 1) := by decide +kernel
theorem d_Mo_euclid_21 : decode prog_10_method_30_code 21 = .ok (.invokestatic 137, 3) := by decide +kernel
theorem d_Mo_euclid_24 : decode prog_10_method_30_code 24 = .ok (.lastore, 1) := by decide +kernel
theorem d_Mo_euclid_25 : decode prog_10_method_30_code 25 = .ok (.aload_n 0, 1) := by decide +kernel
theorem d_Mo_euclid_26 : decode prog_10_method_30_code 26 = .ok (.getfield 47, 3) := by decide +kernel
theorem d_Mo_euclid_29 : decode prog_10_method_30_code 29 = .ok (.iload 5, 2) := by decide +kernel
theorem d_Mo_euclid_31 : decode prog_10_method_30_code 31 = .ok (.aload_n 2, 1) := by decide +kernel
theorem d_Mo_euclid_32 : decode prog_10_method_30_code 32 = .ok (.iload 5, 2) := by decide +kernel
theorem d_Mo_euclid_34 : decode prog_10_method_30_code 34 = .ok (.laload, 1) := by decide +kernel
theorem d_Mo_euclid_35 : decode prog_10_method_30_code 35 = .ok (.lload_n 3, 1) := by decide +kernel
theorem d_Mo_euclid_36 : decode prog_10_method_30_code 36 = .ok (.invokestatic 137, 3) := by decide +kernel
theorem d_Mo_euclid_39 : decode prog_10_method_30_code 39 = .ok (.lastore, 1) := by decide +kernel
theorem d_Mo_euclid_40 : decode prog_10_method_30_code 40 = .ok (.iinc 5 1, 3) := by decide +kernel
theorem d_Mo_euclid_43 : decode prog_10_method_30_code 43 = .ok (.goto (-40), 3) := by decide +kernel
theorem d_Mo_euclid_46 : decode prog_10_method_30_code 46 = .ok (.aload_n 0, 1) := by decide +kernel
theorem d_Mo_euclid_47 : decode prog_10_method_30_code 47 = .ok (.getfield 47, 3) := by decide +kernel
theorem d_Mo_euclid_50 : decode prog_10_method_30_code 50 = .ok (.invokestatic 82, 3) := by decide +kernel
theorem d_Mo_euclid_53 : decode prog_10_method_30_code 53 = .ok (.istore 5, 2) := by decide +kernel
theorem d_Mo_euclid_55 : decode prog_10_method_30_code 55 = .ok (.iload 5, 2) := by decide +kernel
theorem d_Mo_euclid_57 : decode prog_10_method_30_code 57 = .ok (.ifCond .lt 77, 3) := by decide +kernel
theorem d_Mo_euclid_60 : decode prog_10_method_30_code 60 = .ok (.aload_n 0, 1) := by decide +kernel
theorem d_Mo_euclid_61 : decode prog_10_method_30_code 61 = .ok (.getfield 44, 3) := by decide +kernel
theorem d_Mo_euclid_64 : decode prog_10_method_30_code 64 = .ok (.aload_n 0, 1) := by decide +kernel
theorem d_Mo_euclid_65 : decode prog_10_method_30_code 65 = .ok (.getfield 47, 3) := by decide +kernel
theorem d_Mo_euclid_68 : decode prog_10_method_30_code 68 = .ok (.iload 5, 2) := by decide +kernel
theorem d_Mo_euclid_70 : decode prog_10_method_30_code 70 = .ok (.lload_n 3, 1) := by decide +kernel
theorem d_Mo_euclid_71 : decode prog_10_method_30_code 71 = .ok (.invokestatic 145, 3) := by decide +kernel
theorem d_Mo_euclid_74 : decode prog_10_method_30_code 74 = .ok (.iconst 0, 1) := by decide +kernel
theorem d_Mo_euclid_75 : decode prog_10_method_30_code 75 = .ok (.istore 6, 2) := by decide +kernel
theorem d_Mo_euclid_77 : decode prog_10_method_30_code 77 = .ok (.iload 6, 2) := by decide +kernel
theorem d_Mo_euclid_79 : decode prog_10_method_30_code 79 = .ok (.bipush 16, 2) := by decide +kernel
theorem d_Mo_euclid_81 : decode prog_10_method_30_code 81 = .ok (.if_icmp .ge 41, 3) := by decide +kernel
theorem d_Mo_euclid_84 : decode prog_10_method_30_code 84 = .ok (.aload_n 0, 1) := by decide +kernel
theorem d_Mo_euclid_85 : decode prog_10_method_30_code 85 = .ok (.getfield 44, 3) := by decide +kernel
theorem d_Mo_euclid_88 : decode prog_10_method_30_code 88 = .ok (.iload 6, 2) := by decide +kernel
theorem d_Mo_euclid_90 : decode prog_10_method_30_code 90 = .ok (.laload, 1) := by decide +kernel
theorem d_Mo_euclid_91 : decode prog_10_method_30_code 91 = .ok (.lstore 7, 2) := by decide +kernel
theorem d_Mo_euclid_93 : decode prog_10_method_30_code 93 = .ok (.aload_n 0, 1) := by decide +kernel
theorem d_Mo_euclid_94 : decode prog_10_method_30_code 94 = .ok (.getfield 44, 3) := by decide +kernel
theorem d_Mo_euclid_97 : decode prog_10_method_30_code 97 = .ok (.iload 6, 2) := by decide +kernel
theorem d_Mo_euclid_99 : decode prog_10_method_30_code 99 = .ok (.aload_n 0, 1) := by decide +kernel
theorem d_Mo_euclid_100 : decode prog_10_method_30_code 100 = .ok (.getfield 47, 3) := by decide +kernel
theorem d_Mo_euclid_103 : decode prog_10_method_30_code 103 = .ok (.iload 6, 2) := by decide +kernel
theorem d_Mo_euclid_105 : decode prog_10_method_30_code 105 = .ok (.laload, 1) := by decide +kernel
theorem d_Mo_euclid_106 : decode prog_10_method_30_code 106 = .ok (.lastore, 1) := by decide +kernel
theorem d_Mo_euclid_107 : decode prog_10_method_30_code 107 = .ok (.aload_n 0, 1) := by decide +kernel
theorem d_Mo_euclid_108 : decode prog_10_method_30_code 108 = .ok (.getfield 47, 3) := by decide +kernel
theorem d_Mo_euclid_111 : decode prog_10_method_30_code 111 = .ok (.iload 6, 2) := by decide +kernel
theorem d_Mo_euclid_113 : decode prog_10_method_30_code 113 = .ok (.lload 7, 2) := by decide +kernel
theorem d_Mo_euclid_115 : decode prog_10_method_30_code 115 = .ok (.lastore, 1) := by decide +kernel
theorem d_Mo_euclid_116 : decode prog_10_method_30_code 116 = .ok (.iinc 6 1, 3) := by decide +kernel
theorem d_Mo_euclid_119 : decode prog_10_method_30_code 119 = .ok (.goto (-42), 3) := by decide +kernel
theorem d_Mo_euclid_122 : decode prog_10_method_30_code 122 = .ok (.aload_n 0, 1) := by decide +kernel
theorem d_Mo_euclid_123 : decode prog_10_method_30_code 123 = .ok (.getfield 47, 3) := by decide +kernel
theorem d_Mo_euclid_126 : decode prog_10_method_30_code 126 = .ok (.invokestatic 82, 3) := by decide +kernel
theorem d_Mo_euclid_129 : decode prog_10_method_30_code 129 = .ok (.istore 5, 2) := by decide +kernel
theorem d_Mo_euclid_131 : decode prog_10_method_30_code 131 = .ok (.goto (-76), 3) := by decide +kernel
theorem d_Mo_euclid_134 : decode prog_10_method_30_code 134 = .ok (.aload_n 0, 1) := by decide +kernel
theorem d_Mo_euclid_135 : decode prog_10_method_30_code 135 = .ok (.getfield 44, 3) := by decide +kernel
theorem d_Mo_euclid_138 : decode prog_10_method_30_code 138 = .ok (.invokestatic 82, 3) := by decide +kernel
theorem d_Mo_euclid_141 : decode prog_10_method_30_code 141 = .ok (.istore 6, 2) := by decide +kernel
theorem d_Mo_euclid_143 : decode prog_10_method_30_code 143 = .ok (.aload_n 0, 1) := by decide +kernel
theorem d_Mo_euclid_144 : decode prog_10_method_30_code 144 = .ok (.getfield 44, 3) := by decide +kernel
theorem d_Mo_euclid_147 : decode prog_10_method_30_code 147 = .ok (.iload 6, 2) := by decide +kernel
theorem d_Mo_euclid_149 : decode prog_10_method_30_code 149 = .ok (.laload, 1) := by decide +kernel
theorem d_Mo_euclid_150 : decode prog_10_method_30_code 150 = .ok (.lload_n 3, 1) := by decide +kernel
theorem d_Mo_euclid_151 : decode prog_10_method_30_code 151 = .ok (.invokestatic 142, 3) := by decide +kernel
theorem d_Mo_euclid_154 : decode prog_10_method_30_code 154 = .ok (.lstore 7, 2) := by decide +kernel
theorem d_Mo_euclid_156 : decode prog_10_method_30_code 156 = .ok (.iconst 0, 1) := by decide +kernel
theorem d_Mo_euclid_157 : decode prog_10_method_30_code 157 = .ok (.istore 9, 2) := by decide +kernel
theorem d_Mo_euclid_159 : decode prog_10_method_30_code 159 = .ok (.iload 9, 2) := by decide +kernel
theorem d_Mo_euclid_161 : decode prog_10_method_30_code 161 = .ok (.iload 6, 2) := by decide +kernel
theorem d_Mo_euclid_163 : decode prog_10_method_30_code 163 = .ok (.if_icmp .gt 28, 3) := by decide +kernel
theorem d_Mo_euclid_166 : decode prog_10_method_30_code 166 = .ok (.aload_n 0, 1) := by decide +kernel
theorem d_Mo_euclid_167 : decode prog_10_method_30_code 167 = .ok (.getfield 44, 3) := by decide +kernel
theorem d_Mo_euclid_170 : decode prog_10_method_30_code 170 = .ok (.iload 9, 2) := by decide +kernel
theorem d_Mo_euclid_172 : decode prog_10_method_30_code 172 = .ok (.aload_n 0, 1) := by decide +kernel
theorem d_Mo_euclid_173 : decode prog_10_method_30_code 173 = .ok (.getfield 44, 3) := by decide +kernel
theorem d_Mo_euclid_176 : decode prog_10_method_30_code 176 = .ok (.iload 9, 2) := by decide +kernel
theorem d_Mo_euclid_178 : decode prog_10_method_30_code 178 = .ok (.laload, 1) := by decide +kernel
theorem d_Mo_euclid_179 : decode prog_10_method_30_code 179 = .ok (.lload 7, 2) := by decide +kernel
theorem d_Mo_euclid_181 : decode prog_10_method_30_code 181 = .ok (.lmul, 1) := by decide +kernel
theorem d_Mo_euclid_182 : decode prog_10_method_30_code 182 = .ok (.lload_n 3, 1) := by decide +kernel
theorem d_Mo_euclid_183 : decode prog_10_method_30_code 183 = .ok (.lrem, 1) := by decide +kernel
theorem d_Mo_euclid_184 : decode prog_10_method_30_code 184 = .ok (.lastore, 1) := by decide +kernel
theorem d_Mo_euclid_185 : decode prog_10_method_30_code 185 = .ok (.iinc 9 1, 3) := by decide +kernel
theorem d_Mo_euclid_188 : decode prog_10_method_30_code 188 = .ok (.goto (-29), 3) := by decide +kernel
theorem d_Mo_euclid_191 : decode prog_10_method_30_code 191 = .ok (.iload 6, 2) := by decide +kernel
theorem d_Mo_euclid_193 : decode prog_10_method_30_code 193 = .ok (.ireturn, 1) := by decide +kernel
def B_Mo_euclid_159 (P : Int32 → zM → Prop) (a3 : Int64) (v6 : Int32) (v7 : Int64) (k159 : Int32 → zM → Prop) (v9 : Int32) (M : zM) : Prop := (v6 < v9 → P v6 M) ∧ (¬ v6 < v9 → vp_in v9 (zlong 111) ∧ ¬ a3 = 0 ∧ vp_in v9 (zlong 111) ∧ ∀ M21 : zM, M21 = zput M 111 v9.toNatClampNeg (((M 111 v9.toNatClampNeg) * v7) - ((M 111 v9.toNatClampNeg) * v7) / a3 * a3) → k159 (v9 + (1 : Int32)) M21)
def L_Mo_euclid_159 (P : Int32 → zM → Prop) (a3 : Int64) (v6 : Int32) (v7 : Int64) (n : Nat) : Int32 → zM → Prop := Nat.rec (fun _ _ => False) (fun _ k => B_Mo_euclid_159 P a3 v6 v7 k) n
def B_Mo_euclid_77 (P : Int32 → zM → Prop) (k55 : Int32 → zM → Prop) (a3 : Int64) (k77 : Int32 → zM → Prop) (v6 : Int32) (M : zM) : Prop := ((16 : Int32) ≤ v6 → w_Mo_degreeOf 112 M (fun r22 => k55 r22 M)) ∧ (¬ (16 : Int32) ≤ v6 → vp_in v6 (zlong 111) ∧ ∀ x25 : Int64, x25 = M 111 v6.toNatClampNeg → vp_in v6 (zlong 112) ∧ vp_in v6 (zlong 111) ∧ ∀ M26 : zM, M26 = zput M 111 v6.toNatClampNeg (M 112 v6.toNatClampNeg) → vp_in v6 (zlong 112) ∧ ∀ M27 : zM, M27 = zput M26 112 v6.toNatClampNeg x25 → k77 (v6 + (1 : Int32)) M27)
def L_Mo_euclid_77 (P : Int32 → zM → Prop) (k55 : Int32 → zM → Prop) (a3 : Int64) (n : Nat) : Int32 → zM → Prop := Nat.rec (fun _ _ => False) (fun _ k => B_Mo_euclid_77 P k55 a3 k) n
def B_Mo_euclid_55 (P : Int32 → zM → Prop) (a3 : Int64) (k55 : Int32 → zM → Prop) (v5 : Int32) (M : zM) : Prop := (v5 < 0 → w_Mo_degreeOf 111 M (fun r12 => vp_in r12 (zlong 111) ∧ w_Mo_inverse (M 111 r12.toNatClampNeg) a3  (fun r15 => ∃ n, L_Mo_euclid_159 P a3 r12 r15 n (0 : Int32) M))) ∧ (¬ v5 < 0 → w_Mo_reduce 111 112 v5 a3 M (fun M19 => ∃ n, L_Mo_euclid_77 P k55 a3 n (0 : Int32) M19))
def L_Mo_euclid_55 (P : Int32 → zM → Prop) (a3 : Int64) (n : Nat) : Int32 → zM → Prop := Nat.rec (fun _ _ => False) (fun _ k => B_Mo_euclid_55 P a3 k) n
def B_Mo_euclid_3 (P : Int32 → zM → Prop) (a1 : Nat) (a2 : Nat) (a3 : Int64) (k3 : Int32 → zM → Prop) (v5 : Int32) (M : zM) : Prop := ((16 : Int32) ≤ v5 → w_Mo_degreeOf 112 M (fun r1 => ∃ n, L_Mo_euclid_55 P a3 n r1 M)) ∧ (¬ (16 : Int32) ≤ v5 → vp_in v5 (zlong a1) ∧ w_Mo_left (M a1 v5.toNatClampNeg) a3  (fun r4 => vp_in v5 (zlong 111) ∧ ∀ M7 : zM, M7 = zput M 111 v5.toNatClampNeg r4 → vp_in v5 (zlong a2) ∧ w_Mo_left (M7 a2 v5.toNatClampNeg) a3  (fun r8 => vp_in v5 (zlong 112) ∧ ∀ M11 : zM, M11 = zput M7 112 v5.toNatClampNeg r8 → k3 (v5 + (1 : Int32)) M11)))
def L_Mo_euclid_3 (P : Int32 → zM → Prop) (a1 : Nat) (a2 : Nat) (a3 : Int64) (n : Nat) : Int32 → zM → Prop := Nat.rec (fun _ _ => False) (fun _ k => B_Mo_euclid_3 P a1 a2 a3 k) n
def w_Mo_euclid (a1 : Nat) (a2 : Nat) (a3 : Int64) (M : zM) (P : Int32 → zM → Prop) : Prop := ∃ n, L_Mo_euclid_3 P a1 a2 a3 n (0 : Int32) M
def ws_Mo_euclid : List Cond := .code y_Mo_euclid prog_10_method_30_code 10 (Option.some Jvm.ClassFile.FieldType.int) :: zall
def rm_Mo_euclid : Room := { frames := 2, cells := 0, slots := 0, locals := 59 }
theorem hd_Mo_euclid : y_Mo_euclid.cls ≠ "java/lang/invoke/MethodHandle" ∧ y_Mo_euclid.cls ≠ "java/lang/invoke/VarHandle" ∧ (parseMethodDescriptor y_Mo_euclid.desc).map (fun d => d.parameters.length) = some 3 := by decide +kernel
set_option maxHeartbeats 4000000 in
set_option maxRecDepth 100000 in
theorem c_Mo_euclid (l : Launch) (G : zG) (b : Nat) (a1 : Nat) (a2 : Nat) (a3 : Int64) (M : zM) (N : zN) {P : Int32 → zM → Prop} (hw : w_Mo_euclid a1 a2 a3 M P) : Met l y_Mo_euclid ws_Mo_euclid rm_Mo_euclid (zPc G b M N [.ref (b + 99), .ref (b + a1), .ref (b + a2), .long a3]) (zQi G b (fun r M' N' => P r M' ∧ N' = N)) 0 0 (zA b) := by
  refine Met.ofW (cc := prog_10_method_30_code) (maxL := 10) (ret := (Option.some Jvm.ClassFile.FieldType.int)) (by decide) rfl ?_
  intro p e s m args below meth c s₁ B hml hv
  obtain ⟨rfl, hZ, hK, hT⟩ := hv
  have hx := B.exec
  have hb := B.bytes
  have hr := B.returns
  have hts := atoms_spec (ws := ws_Mo_euclid) B.pre
  have hta : ∀ w ∈ zall, w.before ([.ref (b + 99), .ref (b + a1), .ref (b + a2), .long a3] : List Value).toArray s = true := fun w h => hts w (List.mem_cons_of_mem _ h)
  have hown : s.vm.findClass R_Mo = some m.cls := findClass_of_methodNamed B.named
  have hlocks := B.notSynchronized
  have hS : va_S (zA b) s.heap s.heap [] := va_S.rf
  have hl := lv_entry ([.ref (b + 99), .ref (b + a1), .ref (b + a2), .long a3]) (n := 10) (Nat.le_of_ble_eq_true rfl)
  rw [lg_entry_eq]
  generalize (lg_sl ([.ref (b + 99), .ref (b + a1), .ref (b + a2), .long a3]) ++ List.replicate (10 - (lg_sl ([.ref (b + 99), .ref (b + a1), .ref (b + a2), .long a3])).length) Slot.unset).toArray = ls at hl ⊢
  have hl : lv_has ls 10 [(0, .ref (b + 99)), (1, .ref (b + a1)), (2, .ref (b + a2)), (3, .long a3)] := hl
  have lp159 : ∀ (v6 : Int32) (v7 : Int64) (n : Nat) (v9 : Int32) (M : zM) (H : Heap) (ls : Array Slot) (locs : List Loc), va_P G.1 zCl (zws G b M N) H → va_S (zA b) s.heap H locs → lv_has ls 10 [(0, .ref (b + 99)), (3, .long a3), (6, .int v6), (7, .long v7), (9, .int v9)] → L_Mo_euclid_159 P a3 v6 v7 n v9 M → W p l e (headSpec ws_Mo_euclid rm_Mo_euclid).room s m ([.ref (b + 99), .ref (b + a1), .ref (b + a2), .long a3] : List Value).toArray below meth c H locs 0 0 (MQ below (zQi G b (fun r M' N' => P r M' ∧ N' = N)) ([.ref (b + 99), .ref (b + a1), .ref (b + a2), .long a3] : List Value).toArray s 0 0 (zA b)) (F0 m 159 ls []) := by
    intro v6 v7 n
    induction n with
    | zero => intro v9 M H ls locs hZ hS hl hw; exact False.elim hw
    | succ n159 ih159 =>
      intro v9 M H ls locs hZ hS hl hw
      have hw : B_Mo_euclid_159 P a3 v6 v7 (L_Mo_euclid_159 P a3 v6 v7 n159) v9 M := hw
      unfold B_Mo_euclid_159 at hw
      refine lv_iload (pc := 159) hx hb d_Mo_euclid_159 (lv_at hl 4 rfl) ?_
      refine lv_iload (pc := 161) hx hb d_Mo_euclid_161 (lv_at hl 2 rfl) ?_
      refine lv_icmp_gt (pc := 163) (tgt := 191) hx hb d_Mo_euclid_163 (by decide) (fun hc => ?_) (fun hc => ?_)
      · have hw := hw.1 hc
        refine lv_iload (pc := 191) hx hb d_Mo_euclid_191 (lv_at hl 2 rfl) ?_
        exact z_iret hx hb hr hlocks hK hT hZ hS ⟨hw, rfl⟩ d_Mo_euclid_193
      · have hw := hw.2 hc
        refine lv_aload_n (pc := 166) hx hb d_Mo_euclid_166 rfl (lv_at hl 0 rfl) ?_
        refine zg_Mo_44 (pc := 167) hx hb hta hown hK hZ d_Mo_euclid_167 ?_
        refine lv_iload (pc := 170) hx hb d_Mo_euclid_170 (lv_at hl 4 rfl) ?_
        refine lv_aload_n (pc := 172) hx hb d_Mo_euclid_172 rfl (lv_at hl 0 rfl) ?_
        refine zg_Mo_44 (pc := 173) hx hb hta hown hK hZ d_Mo_euclid_173 ?_
        refine lv_iload (pc := 176) hx hb d_Mo_euclid_176 (lv_at hl 4 rfl) ?_
        obtain ⟨hc, hw⟩ := hw
        refine z_lald (pc := 178) hx hb hK hZ hc d_Mo_euclid_178 ?_
        refine lv_lload (pc := 179) hx hb d_Mo_euclid_179 (lv_at hl 3 rfl) ?_
        refine lv_lmul (pc := 181) hx hb d_Mo_euclid_181 ?_
        refine lv_lload_n (pc := 182) hx hb d_Mo_euclid_182 rfl (lv_at hl 1 rfl) ?_
        obtain ⟨hc, hw⟩ := hw
        refine lv_lrem (pc := 183) hx hb d_Mo_euclid_183 hc ?_
        obtain ⟨hc, hw⟩ := hw
        refine z_last (pc := 184) hx hb hK hZ hS hc d_Mo_euclid_184 (fun M21 H locs hM21 hZ hS => ?_)
        have hw := hw M21 hM21
        refine lv_iinc (pc := 185) (k := 4) (v := v9 + (1 : Int32)) (lv' := [(9, .int (v9 + (1 : Int32))), (0, .ref (b + 99)), (3, .long a3), (6, .int v6), (7, .long v7)]) hx hb d_Mo_euclid_185 hl rfl (by rfl) (by decide) rfl (fun ls hl => ?_)
        refine lv_goto (pc := 188) (tgt := 159) hx hb d_Mo_euclid_188 (by decide) ?_
        exact ih159 (v9 + (1 : Int32)) M21 _ _ _ hZ hS (lv_sub hl [1, 2, 3, 4, 0] rfl) hw
  have lp55 : ∀ (n : Nat) (v5 : Int32) (M : zM) (H : Heap) (ls : Array Slot) (locs : List Loc), va_P G.1 zCl (zws G b M N) H → va_S (zA b) s.heap H locs → lv_has ls 10 [(0, .ref (b + 99)), (3, .long a3), (5, .int v5)] → L_Mo_euclid_55 P a3 n v5 M → W p l e (headSpec ws_Mo_euclid rm_Mo_euclid).room s m ([.ref (b + 99), .ref (b + a1), .ref (b + a2), .long a3] : List Value).toArray below meth c H locs 0 0 (MQ below (zQi G b (fun r M' N' => P r M' ∧ N' = N)) ([.ref (b + 99), .ref (b + a1), .ref (b + a2), .long a3] : List Value).toArray s 0 0 (zA b)) (F0 m 55 ls []) := by
    intro  n
    induction n with
    | zero => intro v5 M H ls locs hZ hS hl hw; exact False.elim hw
    | succ n55 ih55 =>
      have lp77 : ∀ (n : Nat) (v6 : Int32) (M : zM) (H : Heap) (ls : Array Slot) (locs : List Loc), va_P G.1 zCl (zws G b M N) H → va_S (zA b) s.heap H locs → lv_has ls 10 [(0, .ref (b + 99)), (3, .long a3), (6, .int v6)] → L_Mo_euclid_77 P (L_Mo_euclid_55 P a3 n55) a3 n v6 M → W p l e (headSpec ws_Mo_euclid rm_Mo_euclid).room s m ([.ref (b + 99), .ref (b + a1), .ref (b + a2), .long a3] : List Value).toArray below meth c H locs 0 0 (MQ below (zQi G b (fun r M' N' => P r M' ∧ N' = N)) ([.ref (b + 99), .ref (b + a1), .ref (b + a2), .long a3] : List Value).toArray s 0 0 (zA b)) (F0 m 77 ls []) := by
        intro  n
        induction n with
        | zero => intro v6 M H ls locs hZ hS hl hw; exact False.elim hw
        | succ n77 ih77 =>
          intro v6 M H ls locs hZ hS hl hw
          have hw : B_Mo_euclid_77 P (L_Mo_euclid_55 P a3 n55) a3 (L_Mo_euclid_77 P (L_Mo_euclid_55 P a3 n55) a3 n77) v6 M := hw
          unfold B_Mo_euclid_77 at hw
          refine lv_iload (pc := 77) hx hb d_Mo_euclid_77 (lv_at hl 2 rfl) ?_
          refine lv_bipush (pc := 79) (v := 16) hx hb d_Mo_euclid_79 (by decide) ?_
          refine lv_icmp_ge (pc := 81) (tgt := 122) hx hb d_Mo_euclid_81 (by decide) (fun hc => ?_) (fun hc => ?_)
          · have hw := hw.1 hc
            refine lv_aload_n (pc := 122) hx hb d_Mo_euclid_122 rfl (lv_at hl 0 rfl) ?_
            refine zg_Mo_47 (pc := 123) hx hb hta hown hK hZ d_Mo_euclid_123 ?_
            refine z_calli (pc := 126) (va_runS (As := [.ref (b + 112)]) (rest := []) ⟨hx, hb, hml, hown, hts⟩ (c_Mo_degreeOf l G b 112 M N hw) (va_cwS 1 hts (z_good (zgS wd814 wd815 wd7 wd816)) rfl rfl rfl hd_Mo_degreeOf ⟨Nat.le_of_ble_eq_true rfl, Nat.le_of_ble_eq_true rfl⟩) (z_preS hZ hK hT hS) rfl rfl hl.1 rfl (lv_room (Nat.le_of_ble_eq_true rfl)) d_Mo_euclid_126 ⟨Nat.le_of_ble_eq_true rfl, Nat.le_of_ble_eq_true rfl⟩) hS (fun r22 M23 N24 H locs hw hZ hS => ?_)
            obtain ⟨hw, eM23, eN24⟩ := hw
            rw [eM23, eN24] at hZ
            refine lv_istore (pc := 129) (lv' := [(5, .int r22), (0, .ref (b + 99)), (3, .long a3), (6, .int v6)]) hx hb d_Mo_euclid_129 hl (by decide) rfl (fun ls hl => ?_)
            refine lv_goto (pc := 131) (tgt := 55) hx hb d_Mo_euclid_131 (by decide) ?_
            exact ih55 r22 M _ _ _ hZ hS (lv_sub hl [1, 2, 0] rfl) hw
          · have hw := hw.2 hc
            refine lv_aload_n (pc := 84) hx hb d_Mo_euclid_84 rfl (lv_at hl 0 rfl) ?_
            refine zg_Mo_44 (pc := 85) hx hb hta hown hK hZ d_Mo_euclid_85 ?_
            refine lv_iload (pc := 88) hx hb d_Mo_euclid_88 (lv_at hl 2 rfl) ?_
            obtain ⟨hc, hw⟩ := hw
            refine z_lald (pc := 90) hx hb hK hZ hc d_Mo_euclid_90 ?_
            refine lv_topl (fun x25 hx25 => ?_)
            have hw := hw x25 hx25
            refine lv_lstore (pc := 91) (lv' := [(7, .long x25), (0, .ref (b + 99)), (3, .long a3), (6, .int v6)]) hx hb d_Mo_euclid_91 hl (by decide) rfl (fun ls hl => ?_)
            refine lv_aload_n (pc := 93) hx hb d_Mo_euclid_93 rfl (lv_at hl 1 rfl) ?_
            refine zg_Mo_44 (pc := 94) hx hb hta hown hK hZ d_Mo_euclid_94 ?_
            refine lv_iload (pc := 97) hx hb d_Mo_euclid_97 (lv_at hl 3 rfl) ?_
            refine lv_aload_n (pc := 99) hx hb d_Mo_euclid_99 rfl (lv_at hl 1 rfl) ?_
            refine zg_Mo_47 (pc := 100) hx hb hta hown hK hZ d_Mo_euclid_100 ?_
            refine lv_iload (pc := 103) hx hb d_Mo_euclid_103 (lv_at hl 3 rfl) ?_
            obtain ⟨hc, hw⟩ := hw
            refine z_lald (pc := 105) hx hb hK hZ hc d_Mo_euclid_105 ?_
            obtain ⟨hc, hw⟩ := hw
            refine z_last (pc := 106) hx hb hK hZ hS hc d_Mo_euclid_106 (fun M26 H locs hM26 hZ hS => ?_)
            have hw := hw M26 hM26
            refine lv_aload_n (pc := 107) hx hb d_Mo_euclid_107 rfl (lv_at hl 1 rfl) ?_
            refine zg_Mo_47 (pc := 108) hx hb hta hown hK hZ d_Mo_euclid_108 ?_
            refine lv_iload (pc := 111) hx hb d_Mo_euclid_111 (lv_at hl 3 rfl) ?_
            refine lv_lload (pc := 113) hx hb d_Mo_euclid_113 (lv_at hl 0 rfl) ?_
            obtain ⟨hc, hw⟩ := hw
            refine z_last (pc := 115) hx hb hK hZ hS hc d_Mo_euclid_115 (fun M27 H locs hM27 hZ hS => ?_)
            have hw := hw M27 hM27
            refine lv_iinc (pc := 116) (k := 3) (v := v6 + (1 : Int32)) (lv' := [(6, .int (v6 + (1 : Int32))), (7, .long x25), (0, .ref (b + 99)), (3, .long a3)]) hx hb d_Mo_euclid_116 hl rfl (by rfl) (by decide) rfl (fun ls hl => ?_)
            refine lv_goto (pc := 119) (tgt := 77) hx hb d_Mo_euclid_119 (by decide) ?_
            exact ih77 (v6 + (1 : Int32)) M27 _ _ _ hZ hS (lv_sub hl [2, 3, 0] rfl) hw
      intro v5 M H ls locs hZ hS hl hw
      have hw : B_Mo_euclid_55 P a3 (L_Mo_euclid_55 P a3 n55) v5 M := hw
      unfold B_Mo_euclid_55 at hw
      refine lv_iload (pc := 55) hx hb d_Mo_euclid_55 (lv_at hl 2 rfl) ?_
      refine lv_if_lt (pc := 57) (tgt := 134) hx hb d_Mo_euclid_57 (by decide) (fun hc => ?_) (fun hc => ?_)
      · have hw := hw.1 hc
        refine lv_aload_n (pc := 134) hx hb d_Mo_euclid_134 rfl (lv_at hl 0 rfl) ?_
        refine zg_Mo_44 (pc := 135) hx hb hta hown hK hZ d_Mo_euclid_135 ?_
        refine z_calli (pc := 138) (va_runS (As := [.ref (b + 111)]) (rest := []) ⟨hx, hb, hml, hown, hts⟩ (c_Mo_degreeOf l G b 111 M N hw) (va_cwS 1 hts (z_good (zgS wd814 wd815 wd7 wd816)) rfl rfl rfl hd_Mo_degreeOf ⟨Nat.le_of_ble_eq_true rfl, Nat.le_of_ble_eq_true rfl⟩) (z_preS hZ hK hT hS) rfl rfl hl.1 rfl (lv_room (Nat.le_of_ble_eq_true rfl)) d_Mo_euclid_138 ⟨Nat.le_of_ble_eq_true rfl, Nat.le_of_ble_eq_true rfl⟩) hS (fun r12 M13 N14 H locs hw hZ hS => ?_)
        obtain ⟨hw, eM13, eN14⟩ := hw
        rw [eM13, eN14] at hZ
        refine lv_istore (pc := 141) (lv' := [(6, .int r12), (0, .ref (b + 99)), (3, .long a3), (5, .int v5)]) hx hb d_Mo_euclid_141 hl (by decide) rfl (fun ls hl => ?_)
        refine lv_aload_n (pc := 143) hx hb d_Mo_euclid_143 rfl (lv_at hl 1 rfl) ?_
        refine zg_Mo_44 (pc := 144) hx hb hta hown hK hZ d_Mo_euclid_144 ?_
        refine lv_iload (pc := 147) hx hb d_Mo_euclid_147 (lv_at hl 0 rfl) ?_
        obtain ⟨hc, hw⟩ := hw
        refine z_lald (pc := 149) hx hb hK hZ hc d_Mo_euclid_149 ?_
        refine lv_lload_n (pc := 150) hx hb d_Mo_euclid_150 rfl (lv_at hl 2 rfl) ?_
        refine z_calll (pc := 151) (va_runS (As := [.long (M 111 r12.toNatClampNeg), .long a3]) (rest := []) ⟨hx, hb, hml, hown, hts⟩ (c_Mo_inverse l G b (M 111 r12.toNatClampNeg) a3 M N hw) (va_cwS 2 hts (z_good (zgS wd908 wd909 wd7 wd910)) rfl rfl rfl hd_Mo_inverse ⟨Nat.le_of_ble_eq_true rfl, Nat.le_of_ble_eq_true rfl⟩) (z_preS hZ hK hT hS) rfl rfl hl.1 rfl (lv_room (Nat.le_of_ble_eq_true rfl)) d_Mo_euclid_151 ⟨Nat.le_of_ble_eq_true rfl, Nat.le_of_ble_eq_true rfl⟩) hS (fun r15 M16 N17 H locs hw hZ hS => ?_)
        obtain ⟨hw, eM16, eN17⟩ := hw
        rw [eM16, eN17] at hZ
        refine lv_lstore (pc := 154) (lv' := [(7, .long r15), (6, .int r12), (0, .ref (b + 99)), (3, .long a3), (5, .int v5)]) hx hb d_Mo_euclid_154 hl (by decide) rfl (fun ls hl => ?_)
        refine lv_iconst (pc := 156) (v := 0) hx hb d_Mo_euclid_156 (by decide) ?_
        refine lv_istore (pc := 157) (lv' := [(9, .int (0 : Int32)), (7, .long r15), (6, .int r12), (0, .ref (b + 99)), (3, .long a3), (5, .int v5)]) hx hb d_Mo_euclid_157 hl (by decide) rfl (fun ls hl => ?_)
        obtain ⟨n, hw⟩ := hw
        exact lp159 r12 r15 n (0 : Int32) M _ _ _ hZ hS (lv_sub hl [3, 4, 2, 1, 0] rfl) hw
      · have hw := hw.2 hc
        refine lv_aload_n (pc := 60) hx hb d_Mo_euclid_60 rfl (lv_at hl 0 rfl) ?_
        refine zg_Mo_44 (pc := 61) hx hb hta hown hK hZ d_Mo_euclid_61 ?_
        refine lv_aload_n (pc := 64) hx hb d_Mo_euclid_64 rfl (lv_at hl 0 rfl) ?_
        refine zg_Mo_47 (pc := 65) hx hb hta hown hK hZ d_Mo_euclid_65 ?_
        refine lv_iload (pc := 68) hx hb d_Mo_euclid_68 (lv_at hl 2 rfl) ?_
        refine lv_lload_n (pc := 70) hx hb d_Mo_euclid_70 rfl (lv_at hl 1 rfl) ?_
        refine z_callv (pc := 71) (va_runS (As := [.ref (b + 111), .ref (b + 112), .int v5, .long a3]) (rest := []) ⟨hx, hb, hml, hown, hts⟩ (c_Mo_reduce l G b 111 112 v5 a3 M N hw) (va_cwS 4 hts (z_good (zgS wd905 wd906 wd7 wd907)) rfl rfl rfl hd_Mo_reduce ⟨Nat.le_of_ble_eq_true rfl, Nat.le_of_ble_eq_true rfl⟩) (z_preS hZ hK hT hS) rfl rfl hl.1 rfl (lv_room (Nat.le_of_ble_eq_true rfl)) d_Mo_euclid_71 ⟨Nat.le_of_ble_eq_true rfl, Nat.le_of_ble_eq_true rfl⟩) hS (fun M19 N20 H locs hw hZ hS => ?_)
        obtain ⟨hw, eN20⟩ := hw
        rw [eN20] at hZ
        refine lv_iconst (pc := 74) (v := 0) hx hb d_Mo_euclid_74 (by decide) ?_
        refine lv_istore (pc := 75) (lv' := [(6, .int (0 : Int32)), (0, .ref (b + 99)), (3, .long a3), (5, .int v5)]) hx hb d_Mo_euclid_75 hl (by decide) rfl (fun ls hl => ?_)
        obtain ⟨n, hw⟩ := hw
        exact lp77  n (0 : Int32) M19 _ _ _ hZ hS (lv_sub hl [1, 2, 0] rfl) hw
  have lp3 : ∀ (n : Nat) (v5 : Int32) (M : zM) (H : Heap) (ls : Array Slot) (locs : List Loc), va_P G.1 zCl (zws G b M N) H → va_S (zA b) s.heap H locs → lv_has ls 10 [(0, .ref (b + 99)), (1, .ref (b + a1)), (2, .ref (b + a2)), (3, .long a3), (5, .int v5)] → L_Mo_euclid_3 P a1 a2 a3 n v5 M → W p l e (headSpec ws_Mo_euclid rm_Mo_euclid).room s m ([.ref (b + 99), .ref (b + a1), .ref (b + a2), .long a3] : List Value).toArray below meth c H locs 0 0 (MQ below (zQi G b (fun r M' N' => P r M' ∧ N' = N)) ([.ref (b + 99), .ref (b + a1), .ref (b + a2), .long a3] : List Value).toArray s 0 0 (zA b)) (F0 m 3 ls []) := by
    intro  n
    induction n with
    | zero => intro v5 M H ls locs hZ hS hl hw; exact False.elim hw
    | succ n3 ih3 =>
      intro v5 M H ls locs hZ hS hl hw
      have hw : B_Mo_euclid_3 P a1 a2 a3 (L_Mo_euclid_3 P a1 a2 a3 n3) v5 M := hw
      unfold B_Mo_euclid_3 at hw
      refine lv_iload (pc := 3) hx hb d_Mo_euclid_3 (lv_at hl 4 rfl) ?_
      refine lv_bipush (pc := 5) (v := 16) hx hb d_Mo_euclid_5 (by decide) ?_
      refine lv_icmp_ge (pc := 7) (tgt := 46) hx hb d_Mo_euclid_7 (by decide) (fun hc => ?_) (fun hc => ?_)
      · have hw := hw.1 hc
        refine lv_aload_n (pc := 46) hx hb d_Mo_euclid_46 rfl (lv_at hl 0 rfl) ?_
        refine zg_Mo_47 (pc := 47) hx hb hta hown hK hZ d_Mo_euclid_47 ?_
        refine z_calli (pc := 50) (va_runS (As := [.ref (b + 112)]) (rest := []) ⟨hx, hb, hml, hown, hts⟩ (c_Mo_degreeOf l G b 112 M N hw) (va_cwS 1 hts (z_good (zgS wd814 wd815 wd7 wd816)) rfl rfl rfl hd_Mo_degreeOf ⟨Nat.le_of_ble_eq_true rfl, Nat.le_of_ble_eq_true rfl⟩) (z_preS hZ hK hT hS) rfl rfl hl.1 rfl (lv_room (Nat.le_of_ble_eq_true rfl)) d_Mo_euclid_50 ⟨Nat.le_of_ble_eq_true rfl, Nat.le_of_ble_eq_true rfl⟩) hS (fun r1 M2 N3 H locs hw hZ hS => ?_)
        obtain ⟨hw, eM2, eN3⟩ := hw
        rw [eM2, eN3] at hZ
        refine lv_istore (pc := 53) (lv' := [(5, .int r1), (0, .ref (b + 99)), (1, .ref (b + a1)), (2, .ref (b + a2)), (3, .long a3)]) hx hb d_Mo_euclid_53 hl (by decide) rfl (fun ls hl => ?_)
        obtain ⟨n, hw⟩ := hw
        exact lp55  n r1 M _ _ _ hZ hS (lv_sub hl [1, 4, 0] rfl) hw
      · have hw := hw.2 hc
        refine lv_aload_n (pc := 10) hx hb d_Mo_euclid_10 rfl (lv_at hl 0 rfl) ?_
        refine zg_Mo_44 (pc := 11) hx hb hta hown hK hZ d_Mo_euclid_11 ?_
        refine lv_iload (pc := 14) hx hb d_Mo_euclid_14 (lv_at hl 4 rfl) ?_
        refine lv_aload_n (pc := 16) hx hb d_Mo_euclid_16 rfl (lv_at hl 1 rfl) ?_
        refine lv_iload (pc := 17) hx hb d_Mo_euclid_17 (lv_at hl 4 rfl) ?_
        obtain ⟨hc, hw⟩ := hw
        refine z_lald (pc := 19) hx hb hK hZ hc d_Mo_euclid_19 ?_
        refine lv_lload_n (pc := 20) hx hb d_Mo_euclid_20 rfl (lv_at hl 3 rfl) ?_
        refine z_calll (pc := 21) (va_runS (As := [.long (M a1 v5.toNatClampNeg), .long a3]) (rest := [.int v5, .ref (b + 111)]) ⟨hx, hb, hml, hown, hts⟩ (c_Mo_left l G b (M a1 v5.toNatClampNeg) a3 M N hw) (va_cwS 2 hts (z_good (zgS wd902 wd903 wd7 wd904)) rfl rfl rfl hd_Mo_left ⟨Nat.le_of_ble_eq_true rfl, Nat.le_of_ble_eq_true rfl⟩) (z_preS hZ hK hT hS) rfl rfl hl.1 rfl (lv_room (Nat.le_of_ble_eq_true rfl)) d_Mo_euclid_21 ⟨Nat.le_of_ble_eq_true rfl, Nat.le_of_ble_eq_true rfl⟩) hS (fun r4 M5 N6 H locs hw hZ hS => ?_)
        obtain ⟨hw, eM5, eN6⟩ := hw
        rw [eM5, eN6] at hZ
        obtain ⟨hc, hw⟩ := hw
        refine z_last (pc := 24) hx hb hK hZ hS hc d_Mo_euclid_24 (fun M7 H locs hM7 hZ hS => ?_)
        have hw := hw M7 hM7
        refine lv_aload_n (pc := 25) hx hb d_Mo_euclid_25 rfl (lv_at hl 0 rfl) ?_
        refine zg_Mo_47 (pc := 26) hx hb hta hown hK hZ d_Mo_euclid_26 ?_
        refine lv_iload (pc := 29) hx hb d_Mo_euclid_29 (lv_at hl 4 rfl) ?_
        refine lv_aload_n (pc := 31) hx hb d_Mo_euclid_31 rfl (lv_at hl 2 rfl) ?_
        refine lv_iload (pc := 32) hx hb d_Mo_euclid_32 (lv_at hl 4 rfl) ?_
        obtain ⟨hc, hw⟩ := hw
        refine z_lald (pc := 34) hx hb hK hZ hc d_Mo_euclid_34 ?_
        refine lv_lload_n (pc := 35) hx hb d_Mo_euclid_35 rfl (lv_at hl 3 rfl) ?_
        refine z_calll (pc := 36) (va_runS (As := [.long (M7 a2 v5.toNatClampNeg), .long a3]) (rest := [.int v5, .ref (b + 112)]) ⟨hx, hb, hml, hown, hts⟩ (c_Mo_left l G b (M7 a2 v5.toNatClampNeg) a3 M7 N hw) (va_cwS 2 hts (z_good (zgS wd902 wd903 wd7 wd904)) rfl rfl rfl hd_Mo_left ⟨Nat.le_of_ble_eq_true rfl, Nat.le_of_ble_eq_true rfl⟩) (z_preS hZ hK hT hS) rfl rfl hl.1 rfl (lv_room (Nat.le_of_ble_eq_true rfl)) d_Mo_euclid_36 ⟨Nat.le_of_ble_eq_true rfl, Nat.le_of_ble_eq_true rfl⟩) hS (fun r8 M9 N10 H locs hw hZ hS => ?_)
        obtain ⟨hw, eM9, eN10⟩ := hw
        rw [eM9, eN10] at hZ
        obtain ⟨hc, hw⟩ := hw
        refine z_last (pc := 39) hx hb hK hZ hS hc d_Mo_euclid_39 (fun M11 H locs hM11 hZ hS => ?_)
        have hw := hw M11 hM11
        refine lv_iinc (pc := 40) (k := 4) (v := v5 + (1 : Int32)) (lv' := [(5, .int (v5 + (1 : Int32))), (0, .ref (b + 99)), (1, .ref (b + a1)), (2, .ref (b + a2)), (3, .long a3)]) hx hb d_Mo_euclid_40 hl rfl (by rfl) (by decide) rfl (fun ls hl => ?_)
        refine lv_goto (pc := 43) (tgt := 3) hx hb d_Mo_euclid_43 (by decide) ?_
        exact ih3 (v5 + (1 : Int32)) M11 _ _ _ hZ hS (lv_sub hl [1, 2, 3, 4, 0] rfl) hw
  unfold w_Mo_euclid at hw
  refine lv_iconst (pc := 0) (v := 0) hx hb d_Mo_euclid_0 (by decide) ?_
  refine lv_istore (pc := 1) (lv' := [(5, .int (0 : Int32)), (0, .ref (b + 99)), (1, .ref (b + a1)), (2, .ref (b + a2)), (3, .long a3)]) hx hb d_Mo_euclid_1 hl (by decide) rfl (fun ls hl => ?_)
  obtain ⟨n, hw⟩ := hw
  exact lp3  n (0 : Int32) M _ _ _ hZ hS (lv_sub hl [1, 2, 3, 4, 0] rfl) hw
theorem zg_Mo_62 {p : Program} {l : Launch} {e : Env} {R : Room} {s : State} {m : MethodId} {args : Array Value} {below : List Frame} {meth : Method} {c : Code} {H : Heap} {locs : List Loc} {cells slots : Nat} {Q : State → Prop} {cc : ByteArray} {pc : Nat} {ls : Array Slot} {rest : List Value} {G : zG} {b : Nat} {M : zM} {N : zN} (hx : p.tables.exec = Jvm.exec) (hb : c.code = cc) (hta : ∀ w ∈ zall, w.before args s = true) (hown : s.vm.findClass R_Mo = some m.cls) (hK : va_K G.1 zCl (zty G) s) (hZ : va_P G.1 zCl (zws G b M N) H) (hdg : decode cc pc = .ok (.getfield 62, 3)) (kk : W p l e R s m args below meth c H locs cells slots Q (F0 m (pc + 3) ls (.ref (b + 117) :: rest))) : W p l e R s m args below meth c H locs cells slots Q (F0 m pc ls (.ref (b + 99) :: rest)) :=
  va_get (D := G.1) (ci := 6) (v := .ref (b + 117)) (C := R_Mo) (T := T_Mo) (N := 23) hx hb hta hin_Mo hown hK hZ 99 zo_Mo rfl 21 (by decide) (hta _ wd748) (fun _ h9 => h9) rfl hdg kk
theorem d_Mo_guess_0 : decode prog_10_method_31_code 0 = .ok (.iconst 0, 1) := by decide +kernel
theorem d_Mo_guess_1 : decode prog_10_method_31_code 1 = .ok (.istore 7, 2) := by decide +kernel
theorem d_Mo_guess_3 : decode prog_10_method_31_code 3 = .ok (.iload 7, 2) := by decide +kernel
theorem d_Mo_guess_5 : decode prog_10_method_31_code 5 = .ok (.bipush 16, 2) := by decide +kernel
theorem d_Mo_guess_7 : decode prog_10_method_31_code 7 = .ok (.if_icmp .ge 78, 3) := by decide +kernel
theorem d_Mo_guess_10 : decode prog_10_method_31_code 10 = .ok (.iload 7, 2) := by decide +kernel
theorem d_Mo_guess_12 : decode prog_10_method_31_code 12 = .ok (.iload 4, 2) := by decide +kernel
theorem d_Mo_guess_14 : decode prog_10_method_31_code 14 = .ok (.if_icmp .ge 15, 3) := by decide +kernel
theorem d_Mo_guess_17 : decode prog_10_method_31_code 17 = .ok (.lload_n 1, 1) := by decide +kernel
theorem d_Mo_guess_18 : decode prog_10_method_31_code 18 = .ok (.aload_n 3, 1) := by decide +kernel
theorem d_Mo_guess_19 : decode prog_10_method_31_code 19 = .ok (.iload 7, 2) := by decide +kernel
theorem d_Mo_guess_21 : decode prog_10_method_31_code 21 = .ok (.laload, 1) := by decide +kernel
theorem d_Mo_guess_22 : decode prog_10_method_31_code 22 = .ok (.lmul, 1) := by decide +kernel
theorem d_Mo_guess_23 : decode prog_10_method_31_code 23 = .ok (.lload 5, 2) := by decide +kernel
theorem d_Mo_guess_25 : decode prog_10_method_31_code 25 = .ok (.lrem, 1) := by decide +kernel
theorem d_Mo_guess_26 : decode prog_10_method_31_code 26 = .ok (.goto 15, 3) := by decide +kernel
theorem d_Mo_guess_29 : decode prog_10_method_31_code 29 = .ok (.iload 7, 2) := by decide +kernel
theorem d_Mo_guess_31 : decode prog_10_method_31_code 31 = .ok (.iload 4, 2) := by decide +kernel
theorem d_Mo_guess_33 : decode prog_10_method_31_code 33 = .ok (.if_icmp .ne 7, 3) := by decide +kernel
theorem d_Mo_guess_36 : decode prog_10_method_31_code 36 = .ok (.lload_n 1, 1) := by decide +kernel
theorem d_Mo_guess_37 : decode prog_10_method_31_code 37 = .ok (.goto 4, 3) := by decide +kernel
theorem d_Mo_guess_40 : decode prog_10_method_31_code 40 = .ok (.lconst 0, 1) := by decide +kernel
theorem d_Mo_guess_41 : decode prog_10_method_31_code 41 = .ok (.lstore 8, 2) := by decide +kernel
theorem d_Mo_guess_43 : decode prog_10_method_31_code 43 = .ok (.aload_n 0, 1) := by decide +kernel
theorem d_Mo_guess_44 : decode prog_10_method_31_code 44 = .ok (.getfield 62, 3) := by decide +kernel
theorem d_Mo_guess_47 : decode prog_10_method_31_code 47 = .ok (.iload 7, 2) := by decide +kernel
theorem d_Mo_guess_49 : decode prog_10_method_31_code 49 = .ok (.iload 7, 2) := by decide +kernel
theorem d_Mo_guess_51 : decode prog_10_method_31_code 51 = .ok (.iload 4, 2) := by decide +kernel
theorem d_Mo_guess_53 : decode prog_10_method_31_code 53 = .ok (.if_icmp .ge 23, 3) := by decide +kernel
theorem d_Mo_guess_56 : decode prog_10_method_31_code 56 = .ok (.ldc2_w 140, 3) := by decide +kernel
theorem d_Mo_guess_59 : decode prog_10_method_31_code 59 = .ok (.lload 8, 2) := by decide +kernel
theorem d_Mo_guess_61 : decode prog_10_method_31_code 61 = .ok (.lmul, 1) := by decide +kernel
theorem d_Mo_guess_62 : decode prog_10_method_31_code 62 = .ok (.lload 5, 2) := by decide +kernel
theorem d_Mo_guess_64 : decode prog_10_method_31_code 64 = .ok (.lcmp, 1) := by decide +kernel
theorem d_Mo_guess_65 : decode prog_10_method_31_code 65 = .ok (.ifCond .le 11, 3) := by decide +kernel
theorem d_Mo_guess_68 : decode prog_10_method_31_code 68 = .ok (.lload 8, 2) := by decide +kernel
theorem d_Mo_guess_70 : decode prog_10_method_31_code 70 = .ok (.lload 5, 2) := by decide +kernel
theorem d_Mo_guess_72 : decode prog_10_method_31_code 72 = .ok (.lsub, 1) := by decide +kernel
theorem d_Mo_guess_73 : decode prog_10_method_31_code 73 = .ok (.goto 5, 3) := by decide +kernel
theorem d_Mo_guess_76 : decode prog_10_method_31_code 76 = .ok (.lload 8, 2) := by decide +kernel
theorem d_Mo_guess_78 : decode prog_10_method_31_code 78 = .ok (.lastore, 1) := by decide +kernel
theorem d_Mo_guess_79 : decode prog_10_method_31_code 79 = .ok (.iinc 7 1, 3) := by decide +kernel
theorem d_Mo_guess_82 : decode prog_10_method_31_code 82 = .ok (.goto (-79), 3) := by decide +kernel
theorem d_Mo_guess_85 : decode prog_10_method_31_code 85 = .ok (.return_, 1) := by decide +kernel
def J_Mo_guess_41 (P : zM → Prop) (k3 : Int32 → zM → Prop) (a1 : Int64) (a3 : Nat) (a4 : Int32) (a5 : Int64) (v7 : Int32) (t0 : Int64) (M : zM) : Prop := (a4 ≤ v7 → vp_in v7 (zlong 117) ∧ ∀ M1 : zM, M1 = zput M 117 v7.toNatClampNeg t0 → k3 (v7 + (1 : Int32)) M1) ∧ (¬ a4 ≤ v7 → (((2 : Int64) * t0) ≤ a5 → vp_in v7 (zlong 117) ∧ ∀ M2 : zM, M2 = zput M 117 v7.toNatClampNeg t0 → k3 (v7 + (1 : Int32)) M2) ∧ (¬ ((2 : Int64) * t0) ≤ a5 → vp_in v7 (zlong 117) ∧ ∀ M3 : zM, M3 = zput M 117 v7.toNatClampNeg (t0 - a5) → k3 (v7 + (1 : Int32)) M3))
def B_Mo_guess_3 (P : zM → Prop) (a1 : Int64) (a3 : Nat) (a4 : Int32) (a5 : Int64) (k3 : Int32 → zM → Prop) (v7 : Int32) (M : zM) : Prop := ((16 : Int32) ≤ v7 → P M) ∧ (¬ (16 : Int32) ≤ v7 → (a4 ≤ v7 → (¬ v7 = a4 → J_Mo_guess_41 P k3 a1 a3 a4 a5 v7 (0 : Int64) M) ∧ (v7 = a4 → J_Mo_guess_41 P k3 a1 a3 a4 a5 v7 a1 M)) ∧ (¬ a4 ≤ v7 → vp_in v7 (zlong a3) ∧ ¬ a5 = 0 ∧ J_Mo_guess_41 P k3 a1 a3 a4 a5 v7 ((a1 * (M a3 v7.toNatClampNeg)) - (a1 * (M a3 v7.toNatClampNeg)) / a5 * a5) M))
def L_Mo_guess_3 (P : zM → Prop) (a1 : Int64) (a3 : Nat) (a4 : Int32) (a5 : Int64) (n : Nat) : Int32 → zM → Prop := Nat.rec (fun _ _ => False) (fun _ k => B_Mo_guess_3 P a1 a3 a4 a5 k) n
def w_Mo_guess (a1 : Int64) (a3 : Nat) (a4 : Int32) (a5 : Int64) (M : zM) (P : zM → Prop) : Prop := ∃ n, L_Mo_guess_3 P a1 a3 a4 a5 n (0 : Int32) M
def ws_Mo_guess : List Cond := .code y_Mo_guess prog_10_method_31_code 10 (Option.none : Option Jvm.ClassFile.FieldType) :: zall
def rm_Mo_guess : Room := { frames := 0, cells := 0, slots := 0, locals := 0 }
theorem hd_Mo_guess : y_Mo_guess.cls ≠ "java/lang/invoke/MethodHandle" ∧ y_Mo_guess.cls ≠ "java/lang/invoke/VarHandle" ∧ (parseMethodDescriptor y_Mo_guess.desc).map (fun d => d.parameters.length) = some 4 := by decide +kernel
set_option maxHeartbeats 4000000 in
set_option maxRecDepth 100000 in
theorem c_Mo_guess (l : Launch) (G : zG) (b : Nat) (a1 : Int64) (a3 : Nat) (a4 : Int32) (a5 : Int64) (M : zM) (N : zN) {P : zM → Prop} (hw : w_Mo_guess a1 a3 a4 a5 M P) : Met l y_Mo_guess ws_Mo_guess rm_Mo_guess (zPc G b M N [.ref (b + 99), .long a1, .ref (b + a3), .int a4, .long a5]) (zQv G b (fun M' N' => P M' ∧ N' = N)) 0 0 (zA b) := by
  refine Met.ofW (cc := prog_10_method_31_code) (maxL := 10) (ret := (Option.none : Option Jvm.ClassFile.FieldType)) (by decide) rfl ?_
  intro p e s m args below meth c s₁ B hml hv
  obtain ⟨rfl, hZ, hK, hT⟩ := hv
  have hx := B.exec
  have hb := B.bytes
  have hr := B.returns
  have hts := atoms_spec (ws := ws_Mo_guess) B.pre
  have hta : ∀ w ∈ zall, w.before ([.ref (b + 99), .long a1, .ref (b + a3), .int a4, .long a5] : List Value).toArray s = true := fun w h => hts w (List.mem_cons_of_mem _ h)
  have hown : s.vm.findClass R_Mo = some m.cls := findClass_of_methodNamed B.named
  have hlocks := B.notSynchronized
  have hS : va_S (zA b) s.heap s.heap [] := va_S.rf
  have hl := lv_entry ([.ref (b + 99), .long a1, .ref (b + a3), .int a4, .long a5]) (n := 10) (Nat.le_of_ble_eq_true rfl)
  rw [lg_entry_eq]
  generalize (lg_sl ([.ref (b + 99), .long a1, .ref (b + a3), .int a4, .long a5]) ++ List.replicate (10 - (lg_sl ([.ref (b + 99), .long a1, .ref (b + a3), .int a4, .long a5])).length) Slot.unset).toArray = ls at hl ⊢
  have hl : lv_has ls 10 [(0, .ref (b + 99)), (1, .long a1), (3, .ref (b + a3)), (4, .int a4), (5, .long a5)] := hl
  have lp3 : ∀ (n : Nat) (v7 : Int32) (M : zM) (H : Heap) (ls : Array Slot) (locs : List Loc), va_P G.1 zCl (zws G b M N) H → va_S (zA b) s.heap H locs → lv_has ls 10 [(0, .ref (b + 99)), (1, .long a1), (3, .ref (b + a3)), (4, .int a4), (5, .long a5), (7, .int v7)] → L_Mo_guess_3 P a1 a3 a4 a5 n v7 M → W p l e (headSpec ws_Mo_guess rm_Mo_guess).room s m ([.ref (b + 99), .long a1, .ref (b + a3), .int a4, .long a5] : List Value).toArray below meth c H locs 0 0 (MQ below (zQv G b (fun M' N' => P M' ∧ N' = N)) ([.ref (b + 99), .long a1, .ref (b + a3), .int a4, .long a5] : List Value).toArray s 0 0 (zA b)) (F0 m 3 ls []) := by
    intro  n
    induction n with
    | zero => intro v7 M H ls locs hZ hS hl hw; exact False.elim hw
    | succ n3 ih3 =>
      have j41 : ∀ (v7 : Int32) (t0 : Int64) (M : zM) (H : Heap) (ls : Array Slot) (locs : List Loc), va_P G.1 zCl (zws G b M N) H → va_S (zA b) s.heap H locs → lv_has ls 10 [(0, .ref (b + 99)), (1, .long a1), (3, .ref (b + a3)), (4, .int a4), (5, .long a5), (7, .int v7)] → J_Mo_guess_41 P (L_Mo_guess_3 P a1 a3 a4 a5 n3) a1 a3 a4 a5 v7 t0 M → W p l e (headSpec ws_Mo_guess rm_Mo_guess).room s m ([.ref (b + 99), .long a1, .ref (b + a3), .int a4, .long a5] : List Value).toArray below meth c H locs 0 0 (MQ below (zQv G b (fun M' N' => P M' ∧ N' = N)) ([.ref (b + 99), .long a1, .ref (b + a3), .int a4, .long a5] : List Value).toArray s 0 0 (zA b)) (F0 m 41 ls [.long t0]) := by
        intro v7 t0 M H ls locs hZ hS hl hw
        unfold J_Mo_guess_41 at hw
        refine lv_lstore (pc := 41) (lv' := [(8, .long t0), (0, .ref (b + 99)), (1, .long a1), (3, .ref (b + a3)), (4, .int a4), (5, .long a5), (7, .int v7)]) hx hb d_Mo_guess_41 hl (by decide) rfl (fun ls hl => ?_)
        refine lv_aload_n (pc := 43) hx hb d_Mo_guess_43 rfl (lv_at hl 1 rfl) ?_
        refine zg_Mo_62 (pc := 44) hx hb hta hown hK hZ d_Mo_guess_44 ?_
        refine lv_iload (pc := 47) hx hb d_Mo_guess_47 (lv_at hl 6 rfl) ?_
        refine lv_iload (pc := 49) hx hb d_Mo_guess_49 (lv_at hl 6 rfl) ?_
        refine lv_iload (pc := 51) hx hb d_Mo_guess_51 (lv_at hl 4 rfl) ?_
        refine lv_icmp_ge (pc := 53) (tgt := 76) hx hb d_Mo_guess_53 (by decide) (fun hc => ?_) (fun hc => ?_)
        · have hw := hw.1 hc
          refine lv_lload (pc := 76) hx hb d_Mo_guess_76 (lv_at hl 0 rfl) ?_
          obtain ⟨hc, hw⟩ := hw
          refine z_last (pc := 78) hx hb hK hZ hS hc d_Mo_guess_78 (fun M1 H locs hM1 hZ hS => ?_)
          have hw := hw M1 hM1
          refine lv_iinc (pc := 79) (k := 6) (v := v7 + (1 : Int32)) (lv' := [(7, .int (v7 + (1 : Int32))), (8, .long t0), (0, .ref (b + 99)), (1, .long a1), (3, .ref (b + a3)), (4, .int a4), (5, .long a5)]) hx hb d_Mo_guess_79 hl rfl (by rfl) (by decide) rfl (fun ls hl => ?_)
          refine lv_goto (pc := 82) (tgt := 3) hx hb d_Mo_guess_82 (by decide) ?_
          exact ih3 (v7 + (1 : Int32)) M1 _ _ _ hZ hS (lv_sub hl [2, 3, 4, 5, 6, 0] rfl) hw
        · have hw := hw.2 hc
          refine lv_ldc2 (pc := 56) (v := 2) hx hb hown (hta _ wd911) d_Mo_guess_56 ?_
          refine lv_lload (pc := 59) hx hb d_Mo_guess_59 (lv_at hl 0 rfl) ?_
          refine lv_lmul (pc := 61) hx hb d_Mo_guess_61 ?_
          refine lv_lload (pc := 62) hx hb d_Mo_guess_62 (lv_at hl 5 rfl) ?_
          refine z_lc_le (pc := 64) (tgt := 76) hx hb d_Mo_guess_64 d_Mo_guess_65 (by decide) (fun hc => ?_) (fun hc => ?_)
          · have hw := hw.1 hc
            refine lv_lload (pc := 76) hx hb d_Mo_guess_76 (lv_at hl 0 rfl) ?_
            obtain ⟨hc, hw⟩ := hw
            refine z_last (pc := 78) hx hb hK hZ hS hc d_Mo_guess_78 (fun M2 H locs hM2 hZ hS => ?_)
            have hw := hw M2 hM2
            refine lv_iinc (pc := 79) (k := 6) (v := v7 + (1 : Int32)) (lv' := [(7, .int (v7 + (1 : Int32))), (8, .long t0), (0, .ref (b + 99)), (1, .long a1), (3, .ref (b + a3)), (4, .int a4), (5, .long a5)]) hx hb d_Mo_guess_79 hl rfl (by rfl) (by decide) rfl (fun ls hl => ?_)
            refine lv_goto (pc := 82) (tgt := 3) hx hb d_Mo_guess_82 (by decide) ?_
            exact ih3 (v7 + (1 : Int32)) M2 _ _ _ hZ hS (lv_sub hl [2, 3, 4, 5, 6, 0] rfl) hw
          · have hw := hw.2 hc
            refine lv_lload (pc := 68) hx hb d_Mo_guess_68 (lv_at hl 0 rfl) ?_
            refine lv_lload (pc := 70) hx hb d_Mo_guess_70 (lv_at hl 5 rfl) ?_
            refine lv_lsub (pc := 72) hx hb d_Mo_guess_72 ?_
            refine lv_goto (pc := 73) (tgt := 78) hx hb d_Mo_guess_73 (by decide) ?_
            obtain ⟨hc, hw⟩ := hw
            refine z_last (pc := 78) hx hb hK hZ hS hc d_Mo_guess_78 (fun M3 H locs hM3 hZ hS => ?_)
            have hw := hw M3 hM3
            refine lv_iinc (pc := 79) (k := 6) (v := v7 + (1 : Int32)) (lv' := [(7, .int (v7 + (1 : Int32))), (8, .long t0), (0, .ref (b + 99)), (1, .long a1), (3, .ref (b + a3)), (4, .int a4), (5, .long a5)]) hx hb d_Mo_guess_79 hl rfl (by rfl) (by decide) rfl (fun ls hl => ?_)
            refine lv_goto (pc := 82) (tgt := 3) hx hb d_Mo_guess_82 (by decide) ?_
            exact ih3 (v7 + (1 : Int32)) M3 _ _ _ hZ hS (lv_sub hl [2, 3, 4, 5, 6, 0] rfl) hw
      intro v7 M H ls locs hZ hS hl hw
      have hw : B_Mo_guess_3 P a1 a3 a4 a5 (L_Mo_guess_3 P a1 a3 a4 a5 n3) v7 M := hw
      unfold B_Mo_guess_3 at hw
      refine lv_iload (pc := 3) hx hb d_Mo_guess_3 (lv_at hl 5 rfl) ?_
      refine lv_bipush (pc := 5) (v := 16) hx hb d_Mo_guess_5 (by decide) ?_
      refine lv_icmp_ge (pc := 7) (tgt := 85) hx hb d_Mo_guess_7 (by decide) (fun hc => ?_) (fun hc => ?_)
      · have hw := hw.1 hc
        exact z_vret hx hb hr hlocks hK hT hZ hS ⟨hw, rfl⟩ d_Mo_guess_85
      · have hw := hw.2 hc
        refine lv_iload (pc := 10) hx hb d_Mo_guess_10 (lv_at hl 5 rfl) ?_
        refine lv_iload (pc := 12) hx hb d_Mo_guess_12 (lv_at hl 3 rfl) ?_
        refine lv_icmp_ge (pc := 14) (tgt := 29) hx hb d_Mo_guess_14 (by decide) (fun hc => ?_) (fun hc => ?_)
        · have hw := hw.1 hc
          refine lv_iload (pc := 29) hx hb d_Mo_guess_29 (lv_at hl 5 rfl) ?_
          refine lv_iload (pc := 31) hx hb d_Mo_guess_31 (lv_at hl 3 rfl) ?_
          refine lv_icmp_ne (pc := 33) (tgt := 40) hx hb d_Mo_guess_33 (by decide) (fun hc => ?_) (fun hc => ?_)
          · have hw := hw.1 hc
            refine lv_lconst (pc := 40) (v := 0) hx hb d_Mo_guess_40 (by decide) ?_
            exact j41 v7 (0 : Int64) M _ _ _ hZ hS hl hw
          · have hw := hw.2 hc
            refine lv_lload_n (pc := 36) hx hb d_Mo_guess_36 rfl (lv_at hl 1 rfl) ?_
            refine lv_goto (pc := 37) (tgt := 41) hx hb d_Mo_guess_37 (by decide) ?_
            exact j41 v7 a1 M _ _ _ hZ hS hl hw
        · have hw := hw.2 hc
          refine lv_lload_n (pc := 17) hx hb d_Mo_guess_17 rfl (lv_at hl 1 rfl) ?_
          refine lv_aload_n (pc := 18) hx hb d_Mo_guess_18 rfl (lv_at hl 2 rfl) ?_
          refine lv_iload (pc := 19) hx hb d_Mo_guess_19 (lv_at hl 5 rfl) ?_
          obtain ⟨hc, hw⟩ := hw
          refine z_lald (pc := 21) hx hb hK hZ hc d_Mo_guess_21 ?_
          refine lv_lmul (pc := 22) hx hb d_Mo_guess_22 ?_
          refine lv_lload (pc := 23) hx hb d_Mo_guess_23 (lv_at hl 4 rfl) ?_
          obtain ⟨hc, hw⟩ := hw
          refine lv_lrem (pc := 25) hx hb d_Mo_guess_25 hc ?_
          refine lv_goto (pc := 26) (tgt := 41) hx hb d_Mo_guess_26 (by decide) ?_
          exact j41 v7 ((a1 * (M a3 v7.toNatClampNeg)) - (a1 * (M a3 v7.toNatClampNeg)) / a5 * a5) M _ _ _ hZ hS hl hw
  unfold w_Mo_guess at hw
  refine lv_iconst (pc := 0) (v := 0) hx hb d_Mo_guess_0 (by decide) ?_
  refine lv_istore (pc := 1) (lv' := [(7, .int (0 : Int32)), (0, .ref (b + 99)), (1, .long a1), (3, .ref (b + a3)), (4, .int a4), (5, .long a5)]) hx hb d_Mo_guess_1 hl (by decide) rfl (fun ls hl => ?_)
  obtain ⟨n, hw⟩ := hw
  exact lp3  n (0 : Int32) M _ _ _ hZ hS (lv_sub hl [1, 2, 3, 4, 5, 0] rfl) hw
theorem wsel25 : Cond.selects R_Mo y_Mo_guess y_Mo_guess ∈ zall := List.mem_filter.mpr ⟨List.mem_append_left _ (List.mem_of_getElem? (i := 25) rfl), by decide +kernel⟩
theorem d_Mo_isShared_0 : decode prog_10_method_32_code 0 = .ok (.aload_n 0, 1) := by decide +kernel
theorem d_Mo_isShared_1 : decode prog_10_method_32_code 1 = .ok (.lload_n 1, 1) := by decide +kernel
theorem d_Mo_isShared_2 : decode prog_10_method_32_code 2 = .ok (.aload_n 0, 1) := by decide +kernel
theorem d_Mo_isShared_3 : decode prog_10_method_32_code 3 = .ok (.getfield 44, 3) := by decide +kernel
theorem d_Mo_isShared_6 : decode prog_10_method_32_code 6 = .ok (.iload_n 3, 1) := by decide +kernel
theorem d_Mo_isShared_7 : decode prog_10_method_32_code 7 = .ok (.lload 4, 2) := by decide +kernel
theorem d_Mo_isShared_9 : decode prog_10_method_32_code 9 = .ok (.invokevirtual 149, 3) := by decide +kernel
theorem d_Mo_isShared_12 : decode prog_10_method_32_code 12 = .ok (.aload_n 0, 1) := by decide +kernel
theorem d_Mo_isShared_13 : decode prog_10_method_32_code 13 = .ok (.getfield 62, 3) := by decide +kernel
theorem d_Mo_isShared_16 : decode prog_10_method_32_code 16 = .ok (.invokestatic 133, 3) := by decide +kernel
theorem d_Mo_isShared_19 : decode prog_10_method_32_code 19 = .ok (.lconst 1, 1) := by decide +kernel
theorem d_Mo_isShared_20 : decode prog_10_method_32_code 20 = .ok (.lcmp, 1) := by decide +kernel
theorem d_Mo_isShared_21 : decode prog_10_method_32_code 21 = .ok (.ifCond .ne 33, 3) := by decide +kernel
theorem d_Mo_isShared_24 : decode prog_10_method_32_code 24 = .ok (.aload_n 0, 1) := by decide +kernel
theorem d_Mo_isShared_25 : decode prog_10_method_32_code 25 = .ok (.aload_n 0, 1) := by decide +kernel
theorem d_Mo_isShared_26 : decode prog_10_method_32_code 26 = .ok (.getfield 62, 3) := by decide +kernel
theorem d_Mo_isShared_29 : decode prog_10_method_32_code 29 = .ok (.aload 6, 2) := by decide +kernel
theorem d_Mo_isShared_31 : decode prog_10_method_32_code 31 = .ok (.invokevirtual 129, 3) := by decide +kernel
theorem d_Mo_isShared_34 : decode prog_10_method_32_code 34 = .ok (.ifCond .eq 20, 3) := by decide +kernel
theorem d_Mo_isShared_37 : decode prog_10_method_32_code 37 = .ok (.aload_n 0, 1) := by decide +kernel
theorem d_Mo_isShared_38 : decode prog_10_method_32_code 38 = .ok (.aload_n 0, 1) := by decide +kernel
theorem d_Mo_isShared_39 : decode prog_10_method_32_code 39 = .ok (.getfield 62, 3) := by decide +kernel
theorem d_Mo_isShared_42 : decode prog_10_method_32_code 42 = .ok (.aload 7, 2) := by decide +kernel
theorem d_Mo_isShared_44 : decode prog_10_method_32_code 44 = .ok (.invokevirtual 129, 3) := by decide +kernel
theorem d_Mo_isShared_47 : decode prog_10_method_32_code 47 = .ok (.ifCond .eq 7, 3) := by decide +kernel
theorem d_Mo_isShared_50 : decode prog_10_method_32_code 50 = .ok (.iconst 1, 1) := by decide +kernel
theorem d_Mo_isShared_51 : decode prog_10_method_32_code 51 = .ok (.goto 4, 3) := by decide +kernel
theorem d_Mo_isShared_54 : decode prog_10_method_32_code 54 = .ok (.iconst 0, 1) := by decide +kernel
theorem d_Mo_isShared_55 : decode prog_10_method_32_code 55 = .ok (.ireturn, 1) := by decide +kernel
def w_Mo_isShared (a1 : Int64) (a3 : Int32) (a4 : Int64) (a6 : Nat) (a7 : Nat) (M : zM) (P : Int32 → zM → Prop) : Prop := w_Mo_guess a1 111 a3 a4 M (fun M2 => w_Mo_contentOf 117 M2 (fun r4 => (¬ r4 = (1 : Int64) → narrow .boolean (.int (0 : Int32)) = .int (0 : Int32) ∧ P (0 : Int32) M2) ∧ (r4 = (1 : Int64) → w_Mo_divides 117 a6 M2 (fun r7 M8 => (r7 = 0 → narrow .boolean (.int (0 : Int32)) = .int (0 : Int32) ∧ P (0 : Int32) M8) ∧ (¬ r7 = 0 → w_Mo_divides 117 a7 M8 (fun r10 M11 => (r10 = 0 → narrow .boolean (.int (0 : Int32)) = .int (0 : Int32) ∧ P (0 : Int32) M11) ∧ (¬ r10 = 0 → narrow .boolean (.int (1 : Int32)) = .int (1 : Int32) ∧ P (1 : Int32) M11)))))))
def ws_Mo_isShared : List Cond := .code y_Mo_isShared prog_10_method_32_code 8 (Option.some Jvm.ClassFile.FieldType.boolean) :: zall
def rm_Mo_isShared : Room := { frames := 3, cells := 0, slots := 0, locals := 73 }
theorem hd_Mo_isShared : y_Mo_isShared.cls ≠ "java/lang/invoke/MethodHandle" ∧ y_Mo_isShared.cls ≠ "java/lang/invoke/VarHandle" ∧ (parseMethodDescriptor y_Mo_isShared.desc).map (fun d => d.parameters.length) = some 5 := by decide +kernel
set_option maxHeartbeats 4000000 in
set_option maxRecDepth 100000 in
theorem c_Mo_isShared (l : Launch) (G : zG) (b : Nat) (a1 : Int64) (a3 : Int32) (a4 : Int64) (a6 : Nat) (a7 : Nat) (M : zM) (N : zN) {P : Int32 → zM → Prop} (hw : w_Mo_isShared a1 a3 a4 a6 a7 M P) : Met l y_Mo_isShared ws_Mo_isShared rm_Mo_isShared (zPc G b M N [.ref (b + 99), .long a1, .int a3, .long a4, .ref (b + a6), .ref (b + a7)]) (zQi G b (fun r M' N' => P r M' ∧ N' = N)) 0 0 (zA b) := by
  refine Met.ofW (cc := prog_10_method_32_code) (maxL := 8) (ret := (Option.some Jvm.ClassFile.FieldType.boolean)) (by decide) rfl ?_
  intro p e s m args below meth c s₁ B hml hv
  obtain ⟨rfl, hZ, hK, hT⟩ := hv
  have hx := B.exec
  have hb := B.bytes
  have hr := B.returns
  have hts := atoms_spec (ws := ws_Mo_isShared) B.pre
  have hta : ∀ w ∈ zall, w.before ([.ref (b + 99), .long a1, .int a3, .long a4, .ref (b + a6), .ref (b + a7)] : List Value).toArray s = true := fun w h => hts w (List.mem_cons_of_mem _ h)
  have hown : s.vm.findClass R_Mo = some m.cls := findClass_of_methodNamed B.named
  have hlocks := B.notSynchronized
  have hS : va_S (zA b) s.heap s.heap [] := va_S.rf
  have hl := lv_entry ([.ref (b + 99), .long a1, .int a3, .long a4, .ref (b + a6), .ref (b + a7)]) (n := 8) (Nat.le_of_ble_eq_true rfl)
  rw [lg_entry_eq]
  generalize (lg_sl ([.ref (b + 99), .long a1, .int a3, .long a4, .ref (b + a6), .ref (b + a7)]) ++ List.replicate (8 - (lg_sl ([.ref (b + 99), .long a1, .int a3, .long a4, .ref (b + a6), .ref (b + a7)])).length) Slot.unset).toArray = ls at hl ⊢
  have hl : lv_has ls 8 [(0, .ref (b + 99)), (1, .long a1), (3, .int a3), (4, .long a4), (6, .ref (b + a6)), (7, .ref (b + a7))] := hl
  unfold w_Mo_isShared at hw
  refine lv_aload_n (pc := 0) hx hb d_Mo_isShared_0 rfl (lv_at hl 0 rfl) ?_
  refine lv_lload_n (pc := 1) hx hb d_Mo_isShared_1 rfl (lv_at hl 1 rfl) ?_
  refine lv_aload_n (pc := 2) hx hb d_Mo_isShared_2 rfl (lv_at hl 0 rfl) ?_
  refine zg_Mo_44 (pc := 3) hx hb hta hown hK hZ d_Mo_isShared_3 ?_
  refine lv_iload_n (pc := 6) hx hb d_Mo_isShared_6 rfl (lv_at hl 2 rfl) ?_
  refine lv_lload (pc := 7) hx hb d_Mo_isShared_7 (lv_at hl 3 rfl) ?_
  refine z_callv (pc := 9) (va_runV (C := R_Mo) (b := b + 99) (As := [.long a1, .ref (b + 111), .int a3, .long a4]) (rest := []) ⟨hx, hb, hml, hown, hts⟩ (c_Mo_guess l G b a1 111 a3 a4 M N hw) (cwV 4 hts (z_good (zgV wd916 wd918 wsel25 wd7 wd919)) rfl rfl rfl ⟨rfl, hd_Mo_guess⟩ ⟨Nat.le_of_ble_eq_true rfl, Nat.le_of_ble_eq_true rfl⟩) (z_preV zo_Mo rfl rfl hZ hK hT hS) rfl rfl hl.1 rfl (lv_room (Nat.le_of_ble_eq_true rfl)) d_Mo_isShared_9 ⟨Nat.le_of_ble_eq_true rfl, Nat.le_of_ble_eq_true rfl⟩) hS (fun M2 N3 H locs hw hZ hS => ?_)
  obtain ⟨hw, eN3⟩ := hw
  rw [eN3] at hZ
  refine lv_aload_n (pc := 12) hx hb d_Mo_isShared_12 rfl (lv_at hl 0 rfl) ?_
  refine zg_Mo_62 (pc := 13) hx hb hta hown hK hZ d_Mo_isShared_13 ?_
  refine z_calll (pc := 16) (va_runS (As := [.ref (b + 117)]) (rest := []) ⟨hx, hb, hml, hown, hts⟩ (c_Mo_contentOf l G b 117 M2 N hw) (va_cwS 1 hts (z_good (zgS wd880 wd881 wd7 wd882)) rfl rfl rfl hd_Mo_contentOf ⟨Nat.le_of_ble_eq_true rfl, Nat.le_of_ble_eq_true rfl⟩) (z_preS hZ hK hT hS) rfl rfl hl.1 rfl (lv_room (Nat.le_of_ble_eq_true rfl)) d_Mo_isShared_16 ⟨Nat.le_of_ble_eq_true rfl, Nat.le_of_ble_eq_true rfl⟩) hS (fun r4 M5 N6 H locs hw hZ hS => ?_)
  obtain ⟨hw, eM5, eN6⟩ := hw
  rw [eM5, eN6] at hZ
  refine lv_lconst (pc := 19) (v := 1) hx hb d_Mo_isShared_19 (by decide) ?_
  refine z_lc_ne (pc := 20) (tgt := 54) hx hb d_Mo_isShared_20 d_Mo_isShared_21 (by decide) (fun hc => ?_) (fun hc => ?_)
  · have hw := hw.1 hc
    refine lv_iconst (pc := 54) (v := 0) hx hb d_Mo_isShared_54 (by decide) ?_
    exact z_zret hx hb hr hlocks hK hT hZ hS ⟨hw.1, ⟨hw.2, rfl⟩⟩ d_Mo_isShared_55
  · have hw := hw.2 hc
    refine lv_aload_n (pc := 24) hx hb d_Mo_isShared_24 rfl (lv_at hl 0 rfl) ?_
    refine lv_aload_n (pc := 25) hx hb d_Mo_isShared_25 rfl (lv_at hl 0 rfl) ?_
    refine zg_Mo_62 (pc := 26) hx hb hta hown hK hZ d_Mo_isShared_26 ?_
    refine lv_aload (pc := 29) hx hb d_Mo_isShared_29 (lv_at hl 4 rfl) ?_
    refine z_calli (pc := 31) (va_runV (C := R_Mo) (b := b + 99) (As := [.ref (b + 117), .ref (b + a6)]) (rest := []) ⟨hx, hb, hml, hown, hts⟩ (c_Mo_divides l G b 117 a6 M2 N hw) (cwV 2 hts (z_good (zgV wd861 wd863 wsel21 wd7 wd864)) rfl rfl rfl ⟨rfl, hd_Mo_divides⟩ ⟨Nat.le_of_ble_eq_true rfl, Nat.le_of_ble_eq_true rfl⟩) (z_preV zo_Mo rfl rfl hZ hK hT hS) rfl rfl hl.1 rfl (lv_room (Nat.le_of_ble_eq_true rfl)) d_Mo_isShared_31 ⟨Nat.le_of_ble_eq_true rfl, Nat.le_of_ble_eq_true rfl⟩) hS (fun r7 M8 N9 H locs hw hZ hS => ?_)
    obtain ⟨hw, eN9⟩ := hw
    rw [eN9] at hZ
    refine lv_if_eq (pc := 34) (tgt := 54) hx hb d_Mo_isShared_34 (by decide) (fun hc => ?_) (fun hc => ?_)
    · have hw := hw.1 hc
      refine lv_iconst (pc := 54) (v := 0) hx hb d_Mo_isShared_54 (by decide) ?_
      exact z_zret hx hb hr hlocks hK hT hZ hS ⟨hw.1, ⟨hw.2, rfl⟩⟩ d_Mo_isShared_55
    · have hw := hw.2 hc
      refine lv_aload_n (pc := 37) hx hb d_Mo_isShared_37 rfl (lv_at hl 0 rfl) ?_
      refine lv_aload_n (pc := 38) hx hb d_Mo_isShared_38 rfl (lv_at hl 0 rfl) ?_
      refine zg_Mo_62 (pc := 39) hx hb hta hown hK hZ d_Mo_isShared_39 ?_
      refine lv_aload (pc := 42) hx hb d_Mo_isShared_42 (lv_at hl 5 rfl) ?_
      refine z_calli (pc := 44) (va_runV (C := R_Mo) (b := b + 99) (As := [.ref (b + 117), .ref (b + a7)]) (rest := []) ⟨hx, hb, hml, hown, hts⟩ (c_Mo_divides l G b 117 a7 M8 N hw) (cwV 2 hts (z_good (zgV wd861 wd863 wsel21 wd7 wd864)) rfl rfl rfl ⟨rfl, hd_Mo_divides⟩ ⟨Nat.le_of_ble_eq_true rfl, Nat.le_of_ble_eq_true rfl⟩) (z_preV zo_Mo rfl rfl hZ hK hT hS) rfl rfl hl.1 rfl (lv_room (Nat.le_of_ble_eq_true rfl)) d_Mo_isShared_44 ⟨Nat.le_of_ble_eq_true rfl, Nat.le_of_ble_eq_true rfl⟩) hS (fun r10 M11 N12 H locs hw hZ hS => ?_)
      obtain ⟨hw, eN12⟩ := hw
      rw [eN12] at hZ
      refine lv_if_eq (pc := 47) (tgt := 54) hx hb d_Mo_isShared_47 (by decide) (fun hc => ?_) (fun hc => ?_)
      · have hw := hw.1 hc
        refine lv_iconst (pc := 54) (v := 0) hx hb d_Mo_isShared_54 (by decide) ?_
        exact z_zret hx hb hr hlocks hK hT hZ hS ⟨hw.1, ⟨hw.2, rfl⟩⟩ d_Mo_isShared_55
      · have hw := hw.2 hc
        refine lv_iconst (pc := 50) (v := 1) hx hb d_Mo_isShared_50 (by decide) ?_
        refine lv_goto (pc := 51) (tgt := 55) hx hb d_Mo_isShared_51 (by decide) ?_
        exact z_zret hx hb hr hlocks hK hT hZ hS ⟨hw.1, ⟨hw.2, rfl⟩⟩ d_Mo_isShared_55
