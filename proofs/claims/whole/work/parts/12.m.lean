theorem d_Re_makeMonic_0 : decode prog_6_method_6_code 0 = .ok (.aload_n 0, 1) := by decide +kernel
theorem d_Re_makeMonic_1 : decode prog_6_method_6_code 1 = .ok (.invokestatic 17, 3) := by decide +kernel
theorem d_Re_makeMonic_4 : decode prog_6_method_6_code 4 = .ok (.istore_n 3, 1) := by decide +kernel
theorem d_Re_makeMonic_5 : decode prog_6_method_6_code 5 = .ok (.iload_n 3, 1) := by decide +kernel
theorem d_Re_makeMonic_6 : decode prog_6_method_6_code 6 = .ok (.ifCond .ge 7, 3) := by decide +kernel
theorem d_Re_makeMonic_9 : decode prog_6_method_6_code 9 = .ok (.lconst 0, 1) := by decide +kernel
theorem d_Re_makeMonic_10 : decode prog_6_method_6_code 10 = .ok (.goto 10, 3) := by decide +kernel
theorem d_Re_makeMonic_13 : decode prog_6_method_6_code 13 = .ok (.aload_n 0, 1) := by decide +kernel
theorem d_Re_makeMonic_14 : decode prog_6_method_6_code 14 = .ok (.iload_n 3, 1) := by decide +kernel
theorem d_Re_makeMonic_15 : decode prog_6_method_6_code 15 = .ok (.laload, 1) := by decide +kernel
theorem d_Re_makeMonic_16 : decode prog_6_method_6_code 16 = .ok (.lload_n 1, 1) := by decide +kernel
theorem d_Re_makeMonic_17 : decode prog_6_method_6_code 17 = .ok (.invokestatic 23, 3) := by decide +kernel
theorem d_Re_makeMonic_20 : decode prog_6_method_6_code 20 = .ok (.lstore 4, 2) := by decide +kernel
theorem d_Re_makeMonic_22 : decode prog_6_method_6_code 22 = .ok (.iconst 0, 1) := by decide +kernel
theorem d_Re_makeMonic_23 : decode prog_6_method_6_code 23 = .ok (.istore 6, 2) := by decide +kernel
theorem d_Re_makeMonic_25 : decode prog_6_method_6_code 25 = .ok (.iload 6, 2) := by decide +kernel
theorem d_Re_makeMonic_27 : decode prog_6_method_6_code 27 = .ok (.bipush 8, 2) := by decide +kernel
theorem d_Re_makeMonic_29 : decode prog_6_method_6_code 29 = .ok (.if_icmp .ge 24, 3) := by decide +kernel
theorem d_Re_makeMonic_32 : decode prog_6_method_6_code 32 = .ok (.aload_n 0, 1) := by decide +kernel
theorem d_Re_makeMonic_33 : decode prog_6_method_6_code 33 = .ok (.iload 6, 2) := by decide +kernel
theorem d_Re_makeMonic_35 : decode prog_6_method_6_code 35 = .ok (.aload_n 0, 1) := by decide +kernel
theorem d_Re_makeMonic_36 : decode prog_6_method_6_code 36 = .ok (.iload 6, 2) := by decide +kernel
theorem d_Re_makeMonic_38 : decode prog_6_method_6_code 38 = .ok (.laload, 1) := by decide +kernel
theorem d_Re_makeMonic_39 : decode prog_6_method_6_code 39 = .ok (.lload 4, 2) := by decide +kernel
theorem d_Re_makeMonic_41 : decode prog_6_method_6_code 41 = .ok (.lmul, 1) := by decide +kernel
theorem d_Re_makeMonic_42 : decode prog_6_method_6_code 42 = .ok (.lload_n 1, 1) := by decide +kernel
theorem d_Re_makeMonic_43 : decode prog_6_method_6_code 43 = .ok (.invokestatic 9, 3) := by decide +kernel
theorem d_Re_makeMonic_46 : decode prog_6_method_6_code 46 = .ok (.lastore, 1) := by decide +kernel
theorem d_Re_makeMonic_47 : decode prog_6_method_6_code 47 = .ok (.iinc 6 1, 3) := by decide +kernel
theorem d_Re_makeMonic_50 : decode prog_6_method_6_code 50 = .ok (.goto (-25), 3) := by decide +kernel
theorem d_Re_makeMonic_53 : decode prog_6_method_6_code 53 = .ok (.return_, 1) := by decide +kernel
def B_Re_makeMonic_25 (P : zM → Prop) (a0 : Nat) (a1 : Int64) (v4 : Int64) (k25 : Int32 → zM → Prop) (v6 : Int32) (M : zM) : Prop := ((8 : Int32) ≤ v6 → P M) ∧ (¬ (8 : Int32) ≤ v6 → vp_in v6 (zlong a0) ∧ w_Re_residue ((M a0 v6.toNatClampNeg) * v4) a1  (fun r7 => vp_in v6 (zlong a0) ∧ ∀ M10 : zM, M10 = zput M a0 v6.toNatClampNeg r7 → k25 (v6 + (1 : Int32)) M10))
def L_Re_makeMonic_25 (P : zM → Prop) (a0 : Nat) (a1 : Int64) (v4 : Int64) (n : Nat) : Int32 → zM → Prop := Nat.rec (fun _ _ => False) (fun _ k => B_Re_makeMonic_25 P a0 a1 v4 k) n
def w_Re_makeMonic (a0 : Nat) (a1 : Int64) (M : zM) (P : zM → Prop) : Prop := w_Ro_degreeOf a0 M (fun r1 => (0 ≤ r1 → vp_in r1 (zlong a0) ∧ w_Re_inverseOf (M a0 r1.toNatClampNeg) a1  (fun r4 => ∃ n, L_Re_makeMonic_25 P a0 a1 r4 n (0 : Int32) M)) ∧ (¬ 0 ≤ r1 → ∃ n, L_Re_makeMonic_25 P a0 a1 (0 : Int64) n (0 : Int32) M))
def ws_Re_makeMonic : List Cond := .code y_Re_makeMonic prog_6_method_6_code 7 (Option.none : Option Jvm.ClassFile.FieldType) :: zall
def rm_Re_makeMonic : Room := { frames := 1, cells := 0, slots := 0, locals := 29 }
theorem hd_Re_makeMonic : y_Re_makeMonic.cls ≠ "java/lang/invoke/MethodHandle" ∧ y_Re_makeMonic.cls ≠ "java/lang/invoke/VarHandle" ∧ (parseMethodDescriptor y_Re_makeMonic.desc).map (fun d => d.parameters.length) = some 2 := by decide +kernel
set_option maxHeartbeats 4000000 in
set_option maxRecDepth 100000 in
theorem c_Re_makeMonic (l : Launch) (G : zG) (b : Nat) (a0 : Nat) (a1 : Int64) (M : zM) (N : zN) {P : zM → Prop} (hw : w_Re_makeMonic a0 a1 M P) : Met l y_Re_makeMonic ws_Re_makeMonic rm_Re_makeMonic (zPc G b M N [.ref (b + a0), .long a1]) (zQv G b (fun M' N' => P M' ∧ N' = N)) 0 0 (zA b) := by
  refine Met.ofW (cc := prog_6_method_6_code) (maxL := 7) (ret := (Option.none : Option Jvm.ClassFile.FieldType)) (by decide) rfl ?_
  intro p e s m args below meth c s₁ B hml hv
  obtain ⟨rfl, hZ, hK, hT⟩ := hv
  have hx := B.exec
  have hb := B.bytes
  have hr := B.returns
  have hts := atoms_spec (ws := ws_Re_makeMonic) B.pre
  have hta : ∀ w ∈ zall, w.before ([.ref (b + a0), .long a1] : List Value).toArray s = true := fun w h => hts w (List.mem_cons_of_mem _ h)
  have hown : s.vm.findClass R_Re = some m.cls := findClass_of_methodNamed B.named
  have hlocks := B.notSynchronized
  have hS : va_S (zA b) s.heap s.heap [] := va_S.rf
  have hl := lv_entry ([.ref (b + a0), .long a1]) (n := 7) (Nat.le_of_ble_eq_true rfl)
  rw [lg_entry_eq]
  generalize (lg_sl ([.ref (b + a0), .long a1]) ++ List.replicate (7 - (lg_sl ([.ref (b + a0), .long a1])).length) Slot.unset).toArray = ls at hl ⊢
  have hl : lv_has ls 7 [(0, .ref (b + a0)), (1, .long a1)] := hl
  have lp25 : ∀ (v4 : Int64) (n : Nat) (v6 : Int32) (M : zM) (H : Heap) (ls : Array Slot) (locs : List Loc), va_P G.1 zCl (zws G b M N) H → va_S (zA b) s.heap H locs → lv_has ls 7 [(0, .ref (b + a0)), (1, .long a1), (4, .long v4), (6, .int v6)] → L_Re_makeMonic_25 P a0 a1 v4 n v6 M → W p l e (headSpec ws_Re_makeMonic rm_Re_makeMonic).room s m ([.ref (b + a0), .long a1] : List Value).toArray below meth c H locs 0 0 (MQ below (zQv G b (fun M' N' => P M' ∧ N' = N)) ([.ref (b + a0), .long a1] : List Value).toArray s 0 0 (zA b)) (F0 m 25 ls []) := by
    intro v4 n
    induction n with
    | zero => intro v6 M H ls locs hZ hS hl hw; exact False.elim hw
    | succ n25 ih25 =>
      intro v6 M H ls locs hZ hS hl hw
      have hw : B_Re_makeMonic_25 P a0 a1 v4 (L_Re_makeMonic_25 P a0 a1 v4 n25) v6 M := hw
      unfold B_Re_makeMonic_25 at hw
      refine lv_iload (pc := 25) hx hb d_Re_makeMonic_25 (lv_at hl 3 rfl) ?_
      refine lv_bipush (pc := 27) (v := 8) hx hb d_Re_makeMonic_27 (by decide) ?_
      refine lv_icmp_ge (pc := 29) (tgt := 53) hx hb d_Re_makeMonic_29 (by decide) (fun hc => ?_) (fun hc => ?_)
      · have hw := hw.1 hc
        exact z_vret hx hb hr hlocks hK hT hZ hS ⟨hw, rfl⟩ d_Re_makeMonic_53
      · have hw := hw.2 hc
        refine lv_aload_n (pc := 32) hx hb d_Re_makeMonic_32 rfl (lv_at hl 0 rfl) ?_
        refine lv_iload (pc := 33) hx hb d_Re_makeMonic_33 (lv_at hl 3 rfl) ?_
        refine lv_aload_n (pc := 35) hx hb d_Re_makeMonic_35 rfl (lv_at hl 0 rfl) ?_
        refine lv_iload (pc := 36) hx hb d_Re_makeMonic_36 (lv_at hl 3 rfl) ?_
        obtain ⟨hc, hw⟩ := hw
        refine z_lald (pc := 38) hx hb hK hZ hc d_Re_makeMonic_38 ?_
        refine lv_lload (pc := 39) hx hb d_Re_makeMonic_39 (lv_at hl 2 rfl) ?_
        refine lv_lmul (pc := 41) hx hb d_Re_makeMonic_41 ?_
        refine lv_lload_n (pc := 42) hx hb d_Re_makeMonic_42 rfl (lv_at hl 1 rfl) ?_
        refine z_calll (pc := 43) (va_runS (As := [.long ((M a0 v6.toNatClampNeg) * v4), .long a1]) (rest := [.int v6, .ref (b + a0)]) ⟨hx, hb, hml, hown, hts⟩ (c_Re_residue l G b ((M a0 v6.toNatClampNeg) * v4) a1 M N hw) (va_cwS 2 hts (z_good (zgS wd465 wd466 wd18 wd467)) rfl rfl rfl hd_Re_residue ⟨Nat.le_of_ble_eq_true rfl, Nat.le_of_ble_eq_true rfl⟩) (z_preS hZ hK hT hS) rfl rfl hl.1 rfl (lv_room (Nat.le_of_ble_eq_true rfl)) d_Re_makeMonic_43 ⟨Nat.le_of_ble_eq_true rfl, Nat.le_of_ble_eq_true rfl⟩) hS (fun r7 M8 N9 H locs hw hZ hS => ?_)
        obtain ⟨hw, eM8, eN9⟩ := hw
        rw [eM8, eN9] at hZ
        obtain ⟨hc, hw⟩ := hw
        refine z_last (pc := 46) hx hb hK hZ hS hc d_Re_makeMonic_46 (fun M10 H locs hM10 hZ hS => ?_)
        have hw := hw M10 hM10
        refine lv_iinc (pc := 47) (k := 3) (v := v6 + (1 : Int32)) (lv' := [(6, .int (v6 + (1 : Int32))), (0, .ref (b + a0)), (1, .long a1), (4, .long v4)]) hx hb d_Re_makeMonic_47 hl rfl (by rfl) (by decide) rfl (fun ls hl => ?_)
        refine lv_goto (pc := 50) (tgt := 25) hx hb d_Re_makeMonic_50 (by decide) ?_
        exact ih25 (v6 + (1 : Int32)) M10 _ _ _ hZ hS (lv_sub hl [1, 2, 3, 0] rfl) hw
  unfold w_Re_makeMonic at hw
  refine lv_aload_n (pc := 0) hx hb d_Re_makeMonic_0 rfl (lv_at hl 0 rfl) ?_
  refine z_calli (pc := 1) (va_runS (As := [.ref (b + a0)]) (rest := []) ⟨hx, hb, hml, hown, hts⟩ (c_Ro_degreeOf l G b a0 M N hw) (va_cwS 1 hts (z_good (zgS wd471 wd312 wd13 wd313)) rfl rfl rfl hd_Ro_degreeOf ⟨Nat.le_of_ble_eq_true rfl, Nat.le_of_ble_eq_true rfl⟩) (z_preS hZ hK hT hS) rfl rfl hl.1 rfl (lv_room (Nat.le_of_ble_eq_true rfl)) d_Re_makeMonic_1 ⟨Nat.le_of_ble_eq_true rfl, Nat.le_of_ble_eq_true rfl⟩) hS (fun r1 M2 N3 H locs hw hZ hS => ?_)
  obtain ⟨hw, eM2, eN3⟩ := hw
  rw [eM2, eN3] at hZ
  refine lv_istore_n (pc := 4) (lv' := [(3, .int r1), (0, .ref (b + a0)), (1, .long a1)]) hx hb d_Re_makeMonic_4 rfl hl (by decide) rfl (fun ls hl => ?_)
  refine lv_iload_n (pc := 5) hx hb d_Re_makeMonic_5 rfl (lv_at hl 0 rfl) ?_
  refine lv_if_ge (pc := 6) (tgt := 13) hx hb d_Re_makeMonic_6 (by decide) (fun hc => ?_) (fun hc => ?_)
  · have hw := hw.1 hc
    refine lv_aload_n (pc := 13) hx hb d_Re_makeMonic_13 rfl (lv_at hl 1 rfl) ?_
    refine lv_iload_n (pc := 14) hx hb d_Re_makeMonic_14 rfl (lv_at hl 0 rfl) ?_
    obtain ⟨hc, hw⟩ := hw
    refine z_lald (pc := 15) hx hb hK hZ hc d_Re_makeMonic_15 ?_
    refine lv_lload_n (pc := 16) hx hb d_Re_makeMonic_16 rfl (lv_at hl 2 rfl) ?_
    refine z_calll (pc := 17) (va_runS (As := [.long (M a0 r1.toNatClampNeg), .long a1]) (rest := []) ⟨hx, hb, hml, hown, hts⟩ (c_Re_inverseOf l G b (M a0 r1.toNatClampNeg) a1 M N hw) (va_cwS 2 hts (z_good (zgS wd476 wd477 wd18 wd478)) rfl rfl rfl hd_Re_inverseOf ⟨Nat.le_of_ble_eq_true rfl, Nat.le_of_ble_eq_true rfl⟩) (z_preS hZ hK hT hS) rfl rfl hl.1 rfl (lv_room (Nat.le_of_ble_eq_true rfl)) d_Re_makeMonic_17 ⟨Nat.le_of_ble_eq_true rfl, Nat.le_of_ble_eq_true rfl⟩) hS (fun r4 M5 N6 H locs hw hZ hS => ?_)
    obtain ⟨hw, eM5, eN6⟩ := hw
    rw [eM5, eN6] at hZ
    refine lv_lstore (pc := 20) (lv' := [(4, .long r4), (3, .int r1), (0, .ref (b + a0)), (1, .long a1)]) hx hb d_Re_makeMonic_20 hl (by decide) rfl (fun ls hl => ?_)
    refine lv_iconst (pc := 22) (v := 0) hx hb d_Re_makeMonic_22 (by decide) ?_
    refine lv_istore (pc := 23) (lv' := [(6, .int (0 : Int32)), (4, .long r4), (3, .int r1), (0, .ref (b + a0)), (1, .long a1)]) hx hb d_Re_makeMonic_23 hl (by decide) rfl (fun ls hl => ?_)
    obtain ⟨n, hw⟩ := hw
    exact lp25 r4 n (0 : Int32) M _ _ _ hZ hS (lv_sub hl [3, 4, 1, 0] rfl) hw
  · have hw := hw.2 hc
    refine lv_lconst (pc := 9) (v := 0) hx hb d_Re_makeMonic_9 (by decide) ?_
    refine lv_goto (pc := 10) (tgt := 20) hx hb d_Re_makeMonic_10 (by decide) ?_
    refine lv_lstore (pc := 20) (lv' := [(4, .long (0 : Int64)), (3, .int r1), (0, .ref (b + a0)), (1, .long a1)]) hx hb d_Re_makeMonic_20 hl (by decide) rfl (fun ls hl => ?_)
    refine lv_iconst (pc := 22) (v := 0) hx hb d_Re_makeMonic_22 (by decide) ?_
    refine lv_istore (pc := 23) (lv' := [(6, .int (0 : Int32)), (4, .long (0 : Int64)), (3, .int r1), (0, .ref (b + a0)), (1, .long a1)]) hx hb d_Re_makeMonic_23 hl (by decide) rfl (fun ls hl => ?_)
    obtain ⟨n, hw⟩ := hw
    exact lp25 (0 : Int64) n (0 : Int32) M _ _ _ hZ hS (lv_sub hl [3, 4, 1, 0] rfl) hw
theorem d_Re_commonOf_0 : decode prog_6_method_8_code 0 = .ok (.aload_n 0, 1) := by decide +kernel
theorem d_Re_commonOf_1 : decode prog_6_method_8_code 1 = .ok (.astore 5, 2) := by decide +kernel
theorem d_Re_commonOf_3 : decode prog_6_method_8_code 3 = .ok (.aload_n 1, 1) := by decide +kernel
theorem d_Re_commonOf_4 : decode prog_6_method_8_code 4 = .ok (.astore 6, 2) := by decide +kernel
theorem d_Re_commonOf_6 : decode prog_6_method_8_code 6 = .ok (.iconst 0, 1) := by decide +kernel
theorem d_Re_commonOf_7 : decode prog_6_method_8_code 7 = .ok (.istore 7, 2) := by decide +kernel
theorem d_Re_commonOf_9 : decode prog_6_method_8_code 9 = .ok (.iload 7, 2) := by decide +kernel
theorem d_Re_commonOf_11 : decode prog_6_method_8_code 11 = .ok (.bipush 16, 2) := by decide +kernel
theorem d_Re_commonOf_13 : decode prog_6_method_8_code 13 = .ok (.if_icmp .ge 38, 3) := by decide +kernel
theorem d_Re_commonOf_16 : decode prog_6_method_8_code 16 = .ok (.aload 6, 2) := by decide +kernel
theorem d_Re_commonOf_18 : decode prog_6_method_8_code 18 = .ok (.invokestatic 17, 3) := by decide +kernel
theorem d_Re_commonOf_21 : decode prog_6_method_8_code 21 = .ok (.ifCond .lt 30, 3) := by decide +kernel
theorem d_Re_commonOf_24 : decode prog_6_method_8_code 24 = .ok (.aload 5, 2) := by decide +kernel
theorem d_Re_commonOf_26 : decode prog_6_method_8_code 26 = .ok (.aload 6, 2) := by decide +kernel
theorem d_Re_commonOf_28 : decode prog_6_method_8_code 28 = .ok (.aload_n 2, 1) := by decide +kernel
theorem d_Re_commonOf_29 : decode prog_6_method_8_code 29 = .ok (.lload_n 3, 1) := by decide +kernel
theorem d_Re_commonOf_30 : decode prog_6_method_8_code 30 = .ok (.invokestatic 32, 3) := by decide +kernel
theorem d_Re_commonOf_33 : decode prog_6_method_8_code 33 = .ok (.aload 5, 2) := by decide +kernel
theorem d_Re_commonOf_35 : decode prog_6_method_8_code 35 = .ok (.astore 8, 2) := by decide +kernel
theorem d_Re_commonOf_37 : decode prog_6_method_8_code 37 = .ok (.aload 6, 2) := by decide +kernel
theorem d_Re_commonOf_39 : decode prog_6_method_8_code 39 = .ok (.astore 5, 2) := by decide +kernel
theorem d_Re_commonOf_41 : decode prog_6_method_8_code 41 = .ok (.aload 8, 2) := by decide +kernel
theorem d_Re_commonOf_43 : decode prog_6_method_8_code 43 = .ok (.astore 6, 2) := by decide +kernel
theorem d_Re_commonOf_45 : decode prog_6_method_8_code 45 = .ok (.iinc 7 1, 3) := by decide +kernel
theorem d_Re_commonOf_48 : decode prog_6_method_8_code 48 = .ok (.goto (-39), 3) := by decide +kernel
theorem d_Re_commonOf_51 : decode prog_6_method_8_code 51 = .ok (.aload 5, 2) := by decide +kernel
theorem d_Re_commonOf_53 : decode prog_6_method_8_code 53 = .ok (.lload_n 3, 1) := by decide +kernel
theorem d_Re_commonOf_54 : decode prog_6_method_8_code 54 = .ok (.invokestatic 36, 3) := by decide +kernel
theorem d_Re_commonOf_57 : decode prog_6_method_8_code 57 = .ok (.aload 5, 2) := by decide +kernel
theorem d_Re_commonOf_59 : decode prog_6_method_8_code 59 = .ok (.areturn, 1) := by decide +kernel
def J_Re_commonOf_51 (P : Nat → zM → Prop) (a3 : Int64) (v5 : Nat) (M : zM) : Prop := w_Re_makeMonic v5 a3 M (fun M8 => P v5 M8)
def B_Re_commonOf_9 (P : Nat → zM → Prop) (a2 : Nat) (a3 : Int64) (k9 : Nat → Nat → Int32 → zM → Prop) (v5 : Nat) (v6 : Nat) (v7 : Int32) (M : zM) : Prop := ((16 : Int32) ≤ v7 → J_Re_commonOf_51 P a3 v5 M) ∧ (¬ (16 : Int32) ≤ v7 → w_Ro_degreeOf v6 M (fun r1 => (r1 < 0 → J_Re_commonOf_51 P a3 v5 M) ∧ (¬ r1 < 0 → w_Re_divideOut v5 v6 a2 a3 M (fun M5 => k9 v6 v5 (v7 + (1 : Int32)) M5))))
def L_Re_commonOf_9 (P : Nat → zM → Prop) (a2 : Nat) (a3 : Int64) (n : Nat) : Nat → Nat → Int32 → zM → Prop := Nat.rec (fun _ _ _ _ => False) (fun _ k => B_Re_commonOf_9 P a2 a3 k) n
def w_Re_commonOf (a0 : Nat) (a1 : Nat) (a2 : Nat) (a3 : Int64) (M : zM) (P : Nat → zM → Prop) : Prop := ∃ n, L_Re_commonOf_9 P a2 a3 n a0 a1 (0 : Int32) M
def ws_Re_commonOf : List Cond := .code y_Re_commonOf prog_6_method_8_code 9 (Option.some (Jvm.ClassFile.FieldType.array Jvm.ClassFile.FieldType.long)) :: zall
def rm_Re_commonOf : Room := { frames := 2, cells := 0, slots := 0, locals := 60 }
theorem hd_Re_commonOf : y_Re_commonOf.cls ≠ "java/lang/invoke/MethodHandle" ∧ y_Re_commonOf.cls ≠ "java/lang/invoke/VarHandle" ∧ (parseMethodDescriptor y_Re_commonOf.desc).map (fun d => d.parameters.length) = some 4 := by decide +kernel
set_option maxHeartbeats 4000000 in
set_option maxRecDepth 100000 in
theorem c_Re_commonOf (l : Launch) (G : zG) (b : Nat) (a0 : Nat) (a1 : Nat) (a2 : Nat) (a3 : Int64) (M : zM) (N : zN) {P : Nat → zM → Prop} (hw : w_Re_commonOf a0 a1 a2 a3 M P) : Met l y_Re_commonOf ws_Re_commonOf rm_Re_commonOf (zPc G b M N [.ref (b + a0), .ref (b + a1), .ref (b + a2), .long a3]) (zQr G b (fun r M' N' => P r M' ∧ N' = N)) 0 0 (zA b) := by
  refine Met.ofW (cc := prog_6_method_8_code) (maxL := 9) (ret := (Option.some (Jvm.ClassFile.FieldType.array Jvm.ClassFile.FieldType.long))) (by decide) rfl ?_
  intro p e s m args below meth c s₁ B hml hv
  obtain ⟨rfl, hZ, hK, hT⟩ := hv
  have hx := B.exec
  have hb := B.bytes
  have hr := B.returns
  have hts := atoms_spec (ws := ws_Re_commonOf) B.pre
  have hta : ∀ w ∈ zall, w.before ([.ref (b + a0), .ref (b + a1), .ref (b + a2), .long a3] : List Value).toArray s = true := fun w h => hts w (List.mem_cons_of_mem _ h)
  have hown : s.vm.findClass R_Re = some m.cls := findClass_of_methodNamed B.named
  have hlocks := B.notSynchronized
  have hS : va_S (zA b) s.heap s.heap [] := va_S.rf
  have hl := lv_entry ([.ref (b + a0), .ref (b + a1), .ref (b + a2), .long a3]) (n := 9) (Nat.le_of_ble_eq_true rfl)
  rw [lg_entry_eq]
  generalize (lg_sl ([.ref (b + a0), .ref (b + a1), .ref (b + a2), .long a3]) ++ List.replicate (9 - (lg_sl ([.ref (b + a0), .ref (b + a1), .ref (b + a2), .long a3])).length) Slot.unset).toArray = ls at hl ⊢
  have hl : lv_has ls 9 [(0, .ref (b + a0)), (1, .ref (b + a1)), (2, .ref (b + a2)), (3, .long a3)] := hl
  have j51 : ∀ (v5 : Nat) (M : zM) (H : Heap) (ls : Array Slot) (locs : List Loc), va_P G.1 zCl (zws G b M N) H → va_S (zA b) s.heap H locs → lv_has ls 9 [(3, .long a3), (5, .ref (b + v5))] → J_Re_commonOf_51 P a3 v5 M → W p l e (headSpec ws_Re_commonOf rm_Re_commonOf).room s m ([.ref (b + a0), .ref (b + a1), .ref (b + a2), .long a3] : List Value).toArray below meth c H locs 0 0 (MQ below (zQr G b (fun r M' N' => P r M' ∧ N' = N)) ([.ref (b + a0), .ref (b + a1), .ref (b + a2), .long a3] : List Value).toArray s 0 0 (zA b)) (F0 m 51 ls []) := by
    intro v5 M H ls locs hZ hS hl hw
    unfold J_Re_commonOf_51 at hw
    refine lv_aload (pc := 51) hx hb d_Re_commonOf_51 (lv_at hl 1 rfl) ?_
    refine lv_lload_n (pc := 53) hx hb d_Re_commonOf_53 rfl (lv_at hl 0 rfl) ?_
    refine z_callv (pc := 54) (va_runS (As := [.ref (b + v5), .long a3]) (rest := []) ⟨hx, hb, hml, hown, hts⟩ (c_Re_makeMonic l G b v5 a3 M N hw) (va_cwS 2 hts (z_good (zgS wd480 wd481 wd18 wd482)) rfl rfl rfl hd_Re_makeMonic ⟨Nat.le_of_ble_eq_true rfl, Nat.le_of_ble_eq_true rfl⟩) (z_preS hZ hK hT hS) rfl rfl hl.1 rfl (lv_room (Nat.le_of_ble_eq_true rfl)) d_Re_commonOf_54 ⟨Nat.le_of_ble_eq_true rfl, Nat.le_of_ble_eq_true rfl⟩) hS (fun M8 N9 H locs hw hZ hS => ?_)
    obtain ⟨hw, eN9⟩ := hw
    rw [eN9] at hZ
    refine lv_aload (pc := 57) hx hb d_Re_commonOf_57 (lv_at hl 1 rfl) ?_
    exact z_aret hx hb hr hlocks hK hT hZ hS ⟨hw, rfl⟩ d_Re_commonOf_59
  have lp9 : ∀ (n : Nat) (v5 : Nat) (v6 : Nat) (v7 : Int32) (M : zM) (H : Heap) (ls : Array Slot) (locs : List Loc), va_P G.1 zCl (zws G b M N) H → va_S (zA b) s.heap H locs → lv_has ls 9 [(2, .ref (b + a2)), (3, .long a3), (5, .ref (b + v5)), (6, .ref (b + v6)), (7, .int v7)] → L_Re_commonOf_9 P a2 a3 n v5 v6 v7 M → W p l e (headSpec ws_Re_commonOf rm_Re_commonOf).room s m ([.ref (b + a0), .ref (b + a1), .ref (b + a2), .long a3] : List Value).toArray below meth c H locs 0 0 (MQ below (zQr G b (fun r M' N' => P r M' ∧ N' = N)) ([.ref (b + a0), .ref (b + a1), .ref (b + a2), .long a3] : List Value).toArray s 0 0 (zA b)) (F0 m 9 ls []) := by
    intro  n
    induction n with
    | zero => intro v5 v6 v7 M H ls locs hZ hS hl hw; exact False.elim hw
    | succ n9 ih9 =>
      intro v5 v6 v7 M H ls locs hZ hS hl hw
      have hw : B_Re_commonOf_9 P a2 a3 (L_Re_commonOf_9 P a2 a3 n9) v5 v6 v7 M := hw
      unfold B_Re_commonOf_9 at hw
      refine lv_iload (pc := 9) hx hb d_Re_commonOf_9 (lv_at hl 4 rfl) ?_
      refine lv_bipush (pc := 11) (v := 16) hx hb d_Re_commonOf_11 (by decide) ?_
      refine lv_icmp_ge (pc := 13) (tgt := 51) hx hb d_Re_commonOf_13 (by decide) (fun hc => ?_) (fun hc => ?_)
      · have hw := hw.1 hc
        exact j51 v5 M _ _ _ hZ hS (lv_sub hl [1, 2] rfl) hw
      · have hw := hw.2 hc
        refine lv_aload (pc := 16) hx hb d_Re_commonOf_16 (lv_at hl 3 rfl) ?_
        refine z_calli (pc := 18) (va_runS (As := [.ref (b + v6)]) (rest := []) ⟨hx, hb, hml, hown, hts⟩ (c_Ro_degreeOf l G b v6 M N hw) (va_cwS 1 hts (z_good (zgS wd471 wd312 wd13 wd313)) rfl rfl rfl hd_Ro_degreeOf ⟨Nat.le_of_ble_eq_true rfl, Nat.le_of_ble_eq_true rfl⟩) (z_preS hZ hK hT hS) rfl rfl hl.1 rfl (lv_room (Nat.le_of_ble_eq_true rfl)) d_Re_commonOf_18 ⟨Nat.le_of_ble_eq_true rfl, Nat.le_of_ble_eq_true rfl⟩) hS (fun r1 M2 N3 H locs hw hZ hS => ?_)
        obtain ⟨hw, eM2, eN3⟩ := hw
        rw [eM2, eN3] at hZ
        refine lv_if_lt (pc := 21) (tgt := 51) hx hb d_Re_commonOf_21 (by decide) (fun hc => ?_) (fun hc => ?_)
        · have hw := hw.1 hc
          exact j51 v5 M _ _ _ hZ hS (lv_sub hl [1, 2] rfl) hw
        · have hw := hw.2 hc
          refine lv_aload (pc := 24) hx hb d_Re_commonOf_24 (lv_at hl 2 rfl) ?_
          refine lv_aload (pc := 26) hx hb d_Re_commonOf_26 (lv_at hl 3 rfl) ?_
          refine lv_aload_n (pc := 28) hx hb d_Re_commonOf_28 rfl (lv_at hl 0 rfl) ?_
          refine lv_lload_n (pc := 29) hx hb d_Re_commonOf_29 rfl (lv_at hl 1 rfl) ?_
          refine z_callv (pc := 30) (va_runS (As := [.ref (b + v5), .ref (b + v6), .ref (b + a2), .long a3]) (rest := []) ⟨hx, hb, hml, hown, hts⟩ (c_Re_divideOut l G b v5 v6 a2 a3 M N hw) (va_cwS 4 hts (z_good (zgS wd472 wd473 wd18 wd474)) rfl rfl rfl hd_Re_divideOut ⟨Nat.le_of_ble_eq_true rfl, Nat.le_of_ble_eq_true rfl⟩) (z_preS hZ hK hT hS) rfl rfl hl.1 rfl (lv_room (Nat.le_of_ble_eq_true rfl)) d_Re_commonOf_30 ⟨Nat.le_of_ble_eq_true rfl, Nat.le_of_ble_eq_true rfl⟩) hS (fun M5 N6 H locs hw hZ hS => ?_)
          obtain ⟨hw, eN6⟩ := hw
          rw [eN6] at hZ
          refine lv_aload (pc := 33) hx hb d_Re_commonOf_33 (lv_at hl 2 rfl) ?_
          refine lv_astore (pc := 35) (lv' := [(8, .ref (b + v5)), (2, .ref (b + a2)), (3, .long a3), (5, .ref (b + v5)), (6, .ref (b + v6)), (7, .int v7)]) hx hb d_Re_commonOf_35 hl (by decide) rfl (fun ls hl => ?_)
          refine lv_aload (pc := 37) hx hb d_Re_commonOf_37 (lv_at hl 4 rfl) ?_
          refine lv_astore (pc := 39) (lv' := [(5, .ref (b + v6)), (8, .ref (b + v5)), (2, .ref (b + a2)), (3, .long a3), (6, .ref (b + v6)), (7, .int v7)]) hx hb d_Re_commonOf_39 hl (by decide) rfl (fun ls hl => ?_)
          refine lv_aload (pc := 41) hx hb d_Re_commonOf_41 (lv_at hl 1 rfl) ?_
          refine lv_astore (pc := 43) (lv' := [(6, .ref (b + v5)), (5, .ref (b + v6)), (8, .ref (b + v5)), (2, .ref (b + a2)), (3, .long a3), (7, .int v7)]) hx hb d_Re_commonOf_43 hl (by decide) rfl (fun ls hl => ?_)
          refine lv_iinc (pc := 45) (k := 5) (v := v7 + (1 : Int32)) (lv' := [(7, .int (v7 + (1 : Int32))), (6, .ref (b + v5)), (5, .ref (b + v6)), (8, .ref (b + v5)), (2, .ref (b + a2)), (3, .long a3)]) hx hb d_Re_commonOf_45 hl rfl (by rfl) (by decide) rfl (fun ls hl => ?_)
          refine lv_goto (pc := 48) (tgt := 9) hx hb d_Re_commonOf_48 (by decide) ?_
          exact ih9 v6 v5 (v7 + (1 : Int32)) M5 _ _ _ hZ hS (lv_sub hl [4, 5, 2, 1, 0] rfl) hw
  unfold w_Re_commonOf at hw
  refine lv_aload_n (pc := 0) hx hb d_Re_commonOf_0 rfl (lv_at hl 0 rfl) ?_
  refine lv_astore (pc := 1) (lv' := [(5, .ref (b + a0)), (0, .ref (b + a0)), (1, .ref (b + a1)), (2, .ref (b + a2)), (3, .long a3)]) hx hb d_Re_commonOf_1 hl (by decide) rfl (fun ls hl => ?_)
  refine lv_aload_n (pc := 3) hx hb d_Re_commonOf_3 rfl (lv_at hl 2 rfl) ?_
  refine lv_astore (pc := 4) (lv' := [(6, .ref (b + a1)), (5, .ref (b + a0)), (0, .ref (b + a0)), (1, .ref (b + a1)), (2, .ref (b + a2)), (3, .long a3)]) hx hb d_Re_commonOf_4 hl (by decide) rfl (fun ls hl => ?_)
  refine lv_iconst (pc := 6) (v := 0) hx hb d_Re_commonOf_6 (by decide) ?_
  refine lv_istore (pc := 7) (lv' := [(7, .int (0 : Int32)), (6, .ref (b + a1)), (5, .ref (b + a0)), (0, .ref (b + a0)), (1, .ref (b + a1)), (2, .ref (b + a2)), (3, .long a3)]) hx hb d_Re_commonOf_7 hl (by decide) rfl (fun ls hl => ?_)
  obtain ⟨n, hw⟩ := hw
  exact lp9  n a0 a1 (0 : Int32) M _ _ _ hZ hS (lv_sub hl [5, 6, 2, 1, 0] rfl) hw
theorem d_Re_nearest_0 : decode prog_6_method_3_code 0 = .ok (.lload_n 0, 1) := by decide +kernel
theorem d_Re_nearest_1 : decode prog_6_method_3_code 1 = .ok (.lload_n 2, 1) := by decide +kernel
theorem d_Re_nearest_2 : decode prog_6_method_3_code 2 = .ok (.invokestatic 9, 3) := by decide +kernel
theorem d_Re_nearest_5 : decode prog_6_method_3_code 5 = .ok (.lstore 4, 2) := by decide +kernel
theorem d_Re_nearest_7 : decode prog_6_method_3_code 7 = .ok (.lload 4, 2) := by decide +kernel
theorem d_Re_nearest_9 : decode prog_6_method_3_code 9 = .ok (.lload_n 2, 1) := by decide +kernel
theorem d_Re_nearest_10 : decode prog_6_method_3_code 10 = .ok (.ldc2_w 15, 3) := by decide +kernel
theorem d_Re_nearest_13 : decode prog_6_method_3_code 13 = .ok (.ldiv, 1) := by decide +kernel
theorem d_Re_nearest_14 : decode prog_6_method_3_code 14 = .ok (.lcmp, 1) := by decide +kernel
theorem d_Re_nearest_15 : decode prog_6_method_3_code 15 = .ok (.ifCond .le 10, 3) := by decide +kernel
theorem d_Re_nearest_18 : decode prog_6_method_3_code 18 = .ok (.lload 4, 2) := by decide +kernel
theorem d_Re_nearest_20 : decode prog_6_method_3_code 20 = .ok (.lload_n 2, 1) := by decide +kernel
theorem d_Re_nearest_21 : decode prog_6_method_3_code 21 = .ok (.lsub, 1) := by decide +kernel
theorem d_Re_nearest_22 : decode prog_6_method_3_code 22 = .ok (.goto 5, 3) := by decide +kernel
theorem d_Re_nearest_25 : decode prog_6_method_3_code 25 = .ok (.lload 4, 2) := by decide +kernel
theorem d_Re_nearest_27 : decode prog_6_method_3_code 27 = .ok (.lreturn, 1) := by decide +kernel
def w_Re_nearest (a0 : Int64) (a2 : Int64) (P : Int64 → Prop) : Prop := w_Re_residue a0 a2  (fun r1 => ¬ (2 : Int64) = 0 ∧ (r1 ≤ (a2 / (2 : Int64)) → P r1) ∧ (¬ r1 ≤ (a2 / (2 : Int64)) → P (r1 - a2)))
def ws_Re_nearest : List Cond := .code y_Re_nearest prog_6_method_3_code 6 (Option.some Jvm.ClassFile.FieldType.long) :: zall
def rm_Re_nearest : Room := { frames := 1, cells := 0, slots := 0, locals := 25 }
theorem hd_Re_nearest : y_Re_nearest.cls ≠ "java/lang/invoke/MethodHandle" ∧ y_Re_nearest.cls ≠ "java/lang/invoke/VarHandle" ∧ (parseMethodDescriptor y_Re_nearest.desc).map (fun d => d.parameters.length) = some 2 := by decide +kernel
set_option maxHeartbeats 4000000 in
set_option maxRecDepth 100000 in
theorem c_Re_nearest (l : Launch) (G : zG) (b : Nat) (a0 : Int64) (a2 : Int64) (M : zM) (N : zN) {P : Int64 → Prop} (hw : w_Re_nearest a0 a2  P) : Met l y_Re_nearest ws_Re_nearest rm_Re_nearest (zPc G b M N [.long a0, .long a2]) (zQl G b (fun r M' N' => P r ∧ M' = M ∧ N' = N)) 0 0 (zA b) := by
  refine Met.ofW (cc := prog_6_method_3_code) (maxL := 6) (ret := (Option.some Jvm.ClassFile.FieldType.long)) (by decide) rfl ?_
  intro p e s m args below meth c s₁ B hml hv
  obtain ⟨rfl, hZ, hK, hT⟩ := hv
  have hx := B.exec
  have hb := B.bytes
  have hr := B.returns
  have hts := atoms_spec (ws := ws_Re_nearest) B.pre
  have hta : ∀ w ∈ zall, w.before ([.long a0, .long a2] : List Value).toArray s = true := fun w h => hts w (List.mem_cons_of_mem _ h)
  have hown : s.vm.findClass R_Re = some m.cls := findClass_of_methodNamed B.named
  have hlocks := B.notSynchronized
  have hS : va_S (zA b) s.heap s.heap [] := va_S.rf
  have hl := lv_entry ([.long a0, .long a2]) (n := 6) (Nat.le_of_ble_eq_true rfl)
  rw [lg_entry_eq]
  generalize (lg_sl ([.long a0, .long a2]) ++ List.replicate (6 - (lg_sl ([.long a0, .long a2])).length) Slot.unset).toArray = ls at hl ⊢
  have hl : lv_has ls 6 [(0, .long a0), (2, .long a2)] := hl
  unfold w_Re_nearest at hw
  refine lv_lload_n (pc := 0) hx hb d_Re_nearest_0 rfl (lv_at hl 0 rfl) ?_
  refine lv_lload_n (pc := 1) hx hb d_Re_nearest_1 rfl (lv_at hl 1 rfl) ?_
  refine z_calll (pc := 2) (va_runS (As := [.long a0, .long a2]) (rest := []) ⟨hx, hb, hml, hown, hts⟩ (c_Re_residue l G b a0 a2 M N hw) (va_cwS 2 hts (z_good (zgS wd465 wd466 wd18 wd467)) rfl rfl rfl hd_Re_residue ⟨Nat.le_of_ble_eq_true rfl, Nat.le_of_ble_eq_true rfl⟩) (z_preS hZ hK hT hS) rfl rfl hl.1 rfl (lv_room (Nat.le_of_ble_eq_true rfl)) d_Re_nearest_2 ⟨Nat.le_of_ble_eq_true rfl, Nat.le_of_ble_eq_true rfl⟩) hS (fun r1 M2 N3 H locs hw hZ hS => ?_)
  obtain ⟨hw, eM2, eN3⟩ := hw
  rw [eM2, eN3] at hZ
  refine lv_lstore (pc := 5) (lv' := [(4, .long r1), (0, .long a0), (2, .long a2)]) hx hb d_Re_nearest_5 hl (by decide) rfl (fun ls hl => ?_)
  refine lv_lload (pc := 7) hx hb d_Re_nearest_7 (lv_at hl 0 rfl) ?_
  refine lv_lload_n (pc := 9) hx hb d_Re_nearest_9 rfl (lv_at hl 2 rfl) ?_
  refine lv_ldc2 (pc := 10) (v := 2) hx hb hown (hta _ wd479) d_Re_nearest_10 ?_
  obtain ⟨hc, hw⟩ := hw
  refine lv_ldiv (pc := 13) hx hb d_Re_nearest_13 hc ?_
  refine z_lc_le (pc := 14) (tgt := 25) hx hb d_Re_nearest_14 d_Re_nearest_15 (by decide) (fun hc => ?_) (fun hc => ?_)
  · have hw := hw.1 hc
    refine lv_lload (pc := 25) hx hb d_Re_nearest_25 (lv_at hl 0 rfl) ?_
    exact z_lret hx hb hr hlocks hK hT hZ hS ⟨hw, rfl, rfl⟩ d_Re_nearest_27
  · have hw := hw.2 hc
    refine lv_lload (pc := 18) hx hb d_Re_nearest_18 (lv_at hl 0 rfl) ?_
    refine lv_lload_n (pc := 20) hx hb d_Re_nearest_20 rfl (lv_at hl 2 rfl) ?_
    refine lv_lsub (pc := 21) hx hb d_Re_nearest_21 ?_
    refine lv_goto (pc := 22) (tgt := 27) hx hb d_Re_nearest_22 (by decide) ?_
    exact z_lret hx hb hr hlocks hK hT hZ hS ⟨hw, rfl, rfl⟩ d_Re_nearest_27
theorem zg_CD_9 {p : Program} {l : Launch} {e : Env} {R : Room} {s : State} {m : MethodId} {args : Array Value} {below : List Frame} {meth : Method} {c : Code} {H : Heap} {locs : List Loc} {cells slots : Nat} {Q : State → Prop} {cc : ByteArray} {pc : Nat} {ls : Array Slot} {rest : List Value} {G : zG} {b : Nat} {M : zM} {N : zN} (hx : p.tables.exec = Jvm.exec) (hb : c.code = cc) (hta : ∀ w ∈ zall, w.before args s = true) (hown : s.vm.findClass R_CD = some m.cls) (hK : va_K G.1 zCl (zty G) s) (hZ : va_P G.1 zCl (zws G b M N) H) (hdg : decode cc pc = .ok (.getfield 9, 3)) (kk : W p l e R s m args below meth c H locs cells slots Q (F0 m (pc + 3) ls (.ref (b + 11) :: rest))) : W p l e R s m args below meth c H locs cells slots Q (F0 m pc ls (.ref (b + 10) :: rest)) :=
  va_get (D := G.1) (ci := 0) (v := .ref (b + 11)) (C := R_CD) (T := T_CD) (N := 6) hx hb hta hin_CD hown hK hZ 10 zo_CD rfl 0 (by decide) (hta _ wd43) (fun _ h9 => h9) rfl hdg kk
theorem zg_CD_15 {p : Program} {l : Launch} {e : Env} {R : Room} {s : State} {m : MethodId} {args : Array Value} {below : List Frame} {meth : Method} {c : Code} {H : Heap} {locs : List Loc} {cells slots : Nat} {Q : State → Prop} {cc : ByteArray} {pc : Nat} {ls : Array Slot} {rest : List Value} {G : zG} {b : Nat} {M : zM} {N : zN} (hx : p.tables.exec = Jvm.exec) (hb : c.code = cc) (hta : ∀ w ∈ zall, w.before args s = true) (hown : s.vm.findClass R_CD = some m.cls) (hK : va_K G.1 zCl (zty G) s) (hZ : va_P G.1 zCl (zws G b M N) H) (hdg : decode cc pc = .ok (.getfield 15, 3)) (kk : W p l e R s m args below meth c H locs cells slots Q (F0 m (pc + 3) ls (.ref (b + 12) :: rest))) : W p l e R s m args below meth c H locs cells slots Q (F0 m pc ls (.ref (b + 10) :: rest)) :=
  va_get (D := G.1) (ci := 0) (v := .ref (b + 12)) (C := R_CD) (T := T_CD) (N := 6) hx hb hta hin_CD hown hK hZ 10 zo_CD rfl 1 (by decide) (hta _ wd44) (fun _ h9 => h9) rfl hdg kk
theorem zg_CD_21 {p : Program} {l : Launch} {e : Env} {R : Room} {s : State} {m : MethodId} {args : Array Value} {below : List Frame} {meth : Method} {c : Code} {H : Heap} {locs : List Loc} {cells slots : Nat} {Q : State → Prop} {cc : ByteArray} {pc : Nat} {ls : Array Slot} {rest : List Value} {G : zG} {b : Nat} {M : zM} {N : zN} (hx : p.tables.exec = Jvm.exec) (hb : c.code = cc) (hta : ∀ w ∈ zall, w.before args s = true) (hown : s.vm.findClass R_CD = some m.cls) (hK : va_K G.1 zCl (zty G) s) (hZ : va_P G.1 zCl (zws G b M N) H) (hdg : decode cc pc = .ok (.getfield 21, 3)) (kk : W p l e R s m args below meth c H locs cells slots Q (F0 m (pc + 3) ls (.ref (b + 14) :: rest))) : W p l e R s m args below meth c H locs cells slots Q (F0 m pc ls (.ref (b + 10) :: rest)) :=
  va_get (D := G.1) (ci := 0) (v := .ref (b + 14)) (C := R_CD) (T := T_CD) (N := 6) hx hb hta hin_CD hown hK hZ 10 zo_CD rfl 3 (by decide) (hta _ wd46) (fun _ h9 => h9) rfl hdg kk
theorem zg_CD_24 {p : Program} {l : Launch} {e : Env} {R : Room} {s : State} {m : MethodId} {args : Array Value} {below : List Frame} {meth : Method} {c : Code} {H : Heap} {locs : List Loc} {cells slots : Nat} {Q : State → Prop} {cc : ByteArray} {pc : Nat} {ls : Array Slot} {rest : List Value} {G : zG} {b : Nat} {M : zM} {N : zN} (hx : p.tables.exec = Jvm.exec) (hb : c.code = cc) (hta : ∀ w ∈ zall, w.before args s = true) (hown : s.vm.findClass R_CD = some m.cls) (hK : va_K G.1 zCl (zty G) s) (hZ : va_P G.1 zCl (zws G b M N) H) (hdg : decode cc pc = .ok (.getfield 24, 3)) (kk : W p l e R s m args below meth c H locs cells slots Q (F0 m (pc + 3) ls (.ref (b + 15) :: rest))) : W p l e R s m args below meth c H locs cells slots Q (F0 m pc ls (.ref (b + 10) :: rest)) :=
  va_get (D := G.1) (ci := 0) (v := .ref (b + 15)) (C := R_CD) (T := T_CD) (N := 6) hx hb hta hin_CD hown hK hZ 10 zo_CD rfl 4 (by decide) (hta _ wd47) (fun _ h9 => h9) rfl hdg kk
theorem zg_CD_27 {p : Program} {l : Launch} {e : Env} {R : Room} {s : State} {m : MethodId} {args : Array Value} {below : List Frame} {meth : Method} {c : Code} {H : Heap} {locs : List Loc} {cells slots : Nat} {Q : State → Prop} {cc : ByteArray} {pc : Nat} {ls : Array Slot} {rest : List Value} {G : zG} {b : Nat} {M : zM} {N : zN} (hx : p.tables.exec = Jvm.exec) (hb : c.code = cc) (hta : ∀ w ∈ zall, w.before args s = true) (hown : s.vm.findClass R_CD = some m.cls) (hK : va_K G.1 zCl (zty G) s) (hZ : va_P G.1 zCl (zws G b M N) H) (hdg : decode cc pc = .ok (.getfield 27, 3)) (kk : W p l e R s m args below meth c H locs cells slots Q (F0 m (pc + 3) ls (.ref (b + 16) :: rest))) : W p l e R s m args below meth c H locs cells slots Q (F0 m pc ls (.ref (b + 10) :: rest)) :=
  va_get (D := G.1) (ci := 0) (v := .ref (b + 16)) (C := R_CD) (T := T_CD) (N := 6) hx hb hta hin_CD hown hK hZ 10 zo_CD rfl 5 (by decide) (hta _ wd48) (fun _ h9 => h9) rfl hdg kk
theorem zg_CD_18 {p : Program} {l : Launch} {e : Env} {R : Room} {s : State} {m : MethodId} {args : Array Value} {below : List Frame} {meth : Method} {c : Code} {H : Heap} {locs : List Loc} {cells slots : Nat} {Q : State → Prop} {cc : ByteArray} {pc : Nat} {ls : Array Slot} {rest : List Value} {G : zG} {b : Nat} {M : zM} {N : zN} (hx : p.tables.exec = Jvm.exec) (hb : c.code = cc) (hta : ∀ w ∈ zall, w.before args s = true) (hown : s.vm.findClass R_CD = some m.cls) (hK : va_K G.1 zCl (zty G) s) (hZ : va_P G.1 zCl (zws G b M N) H) (hdg : decode cc pc = .ok (.getfield 18, 3)) (kk : W p l e R s m args below meth c H locs cells slots Q (F0 m (pc + 3) ls (.ref (b + 13) :: rest))) : W p l e R s m args below meth c H locs cells slots Q (F0 m pc ls (.ref (b + 10) :: rest)) :=
  va_get (D := G.1) (ci := 0) (v := .ref (b + 13)) (C := R_CD) (T := T_CD) (N := 6) hx hb hta hin_CD hown hK hZ 10 zo_CD rfl 2 (by decide) (hta _ wd45) (fun _ h9 => h9) rfl hdg kk
theorem d_CD_findPrimitive_0 : decode prog_2_method_3_code 0 = .ok (.aload_n 0, 1) := by decide +kernel
theorem d_CD_findPrimitive_1 : decode prog_2_method_3_code 1 = .ok (.getfield 9, 3) := by decide +kernel
theorem d_CD_findPrimitive_4 : decode prog_2_method_3_code 4 = .ok (.invokestatic 51, 3) := by decide +kernel
theorem d_CD_findPrimitive_7 : decode prog_2_method_3_code 7 = .ok (.aload_n 0, 1) := by decide +kernel
theorem d_CD_findPrimitive_8 : decode prog_2_method_3_code 8 = .ok (.getfield 15, 3) := by decide +kernel
theorem d_CD_findPrimitive_11 : decode prog_2_method_3_code 11 = .ok (.invokestatic 51, 3) := by decide +kernel
theorem d_CD_findPrimitive_14 : decode prog_2_method_3_code 14 = .ok (.invokestatic 40, 3) := by decide +kernel
theorem d_CD_findPrimitive_17 : decode prog_2_method_3_code 17 = .ok (.lstore_n 1, 1) := by decide +kernel
theorem d_CD_findPrimitive_18 : decode prog_2_method_3_code 18 = .ok (.iconst 0, 1) := by decide +kernel
theorem d_CD_findPrimitive_19 : decode prog_2_method_3_code 19 = .ok (.istore_n 3, 1) := by decide +kernel
theorem d_CD_findPrimitive_20 : decode prog_2_method_3_code 20 = .ok (.iload_n 3, 1) := by decide +kernel
theorem d_CD_findPrimitive_21 : decode prog_2_method_3_code 21 = .ok (.getstatic 54, 3) := by decide +kernel
theorem d_CD_findPrimitive_24 : decode prog_2_method_3_code 24 = .ok (.arraylength, 1) := by decide +kernel
theorem d_CD_findPrimitive_25 : decode prog_2_method_3_code 25 = .ok (.if_icmp .ge 149, 3) := by decide +kernel
theorem d_CD_findPrimitive_28 : decode prog_2_method_3_code 28 = .ok (.getstatic 54, 3) := by decide +kernel
theorem d_CD_findPrimitive_31 : decode prog_2_method_3_code 31 = .ok (.iload_n 3, 1) := by decide +kernel
theorem d_CD_findPrimitive_32 : decode prog_2_method_3_code 32 = .ok (.laload, 1) := by decide +kernel
theorem d_CD_findPrimitive_33 : decode prog_2_method_3_code 33 = .ok (.lstore 4, 2) := by decide +kernel
theorem d_CD_findPrimitive_35 : decode prog_2_method_3_code 35 = .ok (.aload_n 0, 1) := by decide +kernel
theorem d_CD_findPrimitive_36 : decode prog_2_method_3_code 36 = .ok (.getfield 9, 3) := by decide +kernel
theorem d_CD_findPrimitive_39 : decode prog_2_method_3_code 39 = .ok (.aload_n 0, 1) := by decide +kernel
theorem d_CD_findPrimitive_40 : decode prog_2_method_3_code 40 = .ok (.getfield 21, 3) := by decide +kernel
theorem d_CD_findPrimitive_43 : decode prog_2_method_3_code 43 = .ok (.lload 4, 2) := by decide +kernel
theorem d_CD_findPrimitive_45 : decode prog_2_method_3_code 45 = .ok (.invokestatic 57, 3) := by decide +kernel
theorem d_CD_findPrimitive_48 : decode prog_2_method_3_code 48 = .ok (.aload_n 0, 1) := by decide +kernel
theorem d_CD_findPrimitive_49 : decode prog_2_method_3_code 49 = .ok (.getfield 15, 3) := by decide +kernel
theorem d_CD_findPrimitive_52 : decode prog_2_method_3_code 52 = .ok (.aload_n 0, 1) := by decide +kernel
theorem d_CD_findPrimitive_53 : decode prog_2_method_3_code 53 = .ok (.getfield 24, 3) := by decide +kernel
theorem d_CD_findPrimitive_56 : decode prog_2_method_3_code 56 = .ok (.lload 4, 2) := by decide +kernel
theorem d_CD_findPrimitive_58 : decode prog_2_method_3_code 58 = .ok (.invokestatic 57, 3) := by decide +kernel
theorem d_CD_findPrimitive_61 : decode prog_2_method_3_code 61 = .ok (.aload_n 0, 1) := by decide +kernel
theorem d_CD_findPrimitive_62 : decode prog_2_method_3_code 62 = .ok (.getfield 21, 3) := by decide +kernel
theorem d_CD_findPrimitive_65 : decode prog_2_method_3_code 65 = .ok (.aload_n 0, 1) := by decide +kernel
theorem d_CD_findPrimitive_66 : decode prog_2_method_3_code 66 = .ok (.getfield 24, 3) := by decide +kernel
theorem d_CD_findPrimitive_69 : decode prog_2_method_3_code 69 = .ok (.aload_n 0, 1) := by decide +kernel
theorem d_CD_findPrimitive_70 : decode prog_2_method_3_code 70 = .ok (.getfield 27, 3) := by decide +kernel
theorem d_CD_findPrimitive_73 : decode prog_2_method_3_code 73 = .ok (.lload 4, 2) := by decide +kernel
theorem d_CD_findPrimitive_75 : decode prog_2_method_3_code 75 = .ok (.invokestatic 63, 3) := by decide +kernel
theorem d_CD_findPrimitive_78 : decode prog_2_method_3_code 78 = .ok (.astore 6, 2) := by decide +kernel
theorem d_CD_findPrimitive_80 : decode prog_2_method_3_code 80 = .ok (.iconst 0, 1) := by decide +kernel
theorem d_CD_findPrimitive_81 : decode prog_2_method_3_code 81 = .ok (.istore 7, 2) := by decide +kernel
theorem d_CD_findPrimitive_83 : decode prog_2_method_3_code 83 = .ok (.iload 7, 2) := by decide +kernel
theorem d_CD_findPrimitive_85 : decode prog_2_method_3_code 85 = .ok (.bipush 8, 2) := by decide +kernel
theorem d_CD_findPrimitive_87 : decode prog_2_method_3_code 87 = .ok (.if_icmp .ge 28, 3) := by decide +kernel
theorem d_CD_findPrimitive_90 : decode prog_2_method_3_code 90 = .ok (.aload_n 0, 1) := by decide +kernel
theorem d_CD_findPrimitive_91 : decode prog_2_method_3_code 91 = .ok (.getfield 18, 3) := by decide +kernel
theorem d_CD_findPrimitive_94 : decode prog_2_method_3_code 94 = .ok (.iload 7, 2) := by decide +kernel
theorem d_CD_findPrimitive_96 : decode prog_2_method_3_code 96 = .ok (.aload 6, 2) := by decide +kernel
theorem d_CD_findPrimitive_98 : decode prog_2_method_3_code 98 = .ok (.iload 7, 2) := by decide +kernel
theorem d_CD_findPrimitive_100 : decode prog_2_method_3_code 100 = .ok (.laload, 1) := by decide +kernel
theorem d_CD_findPrimitive_101 : decode prog_2_method_3_code 101 = .ok (.lload_n 1, 1) := by decide +kernel
theorem d_CD_findPrimitive_102 : decode prog_2_method_3_code 102 = .ok (.lmul, 1) := by decide +kernel
theorem d_CD_findPrimitive_103 : decode prog_2_method_3_code 103 = .ok (.lload 4, 2) := by decide +kernel
theorem d_CD_findPrimitive_105 : decode prog_2_method_3_code 105 = .ok (.invokestatic 67, 3) := by decide +kernel
theorem d_CD_findPrimitive_108 : decode prog_2_method_3_code 108 = .ok (.lastore, 1) := by decide +kernel
theorem d_CD_findPrimitive_109 : decode prog_2_method_3_code 109 = .ok (.iinc 7 1, 3) := by decide +kernel
theorem d_CD_findPrimitive_112 : decode prog_2_method_3_code 112 = .ok (.goto (-29), 3) := by decide +kernel
theorem d_CD_findPrimitive_115 : decode prog_2_method_3_code 115 = .ok (.aload_n 0, 1) := by decide +kernel
theorem d_CD_findPrimitive_116 : decode prog_2_method_3_code 116 = .ok (.getfield 18, 3) := by decide +kernel
theorem d_CD_findPrimitive_119 : decode prog_2_method_3_code 119 = .ok (.invokestatic 36, 3) := by decide +kernel
theorem d_CD_findPrimitive_122 : decode prog_2_method_3_code 122 = .ok (.pop2, 1) := by decide +kernel
theorem d_CD_findPrimitive_123 : decode prog_2_method_3_code 123 = .ok (.aload_n 0, 1) := by decide +kernel
theorem d_CD_findPrimitive_124 : decode prog_2_method_3_code 124 = .ok (.getfield 9, 3) := by decide +kernel
theorem d_CD_findPrimitive_127 : decode prog_2_method_3_code 127 = .ok (.aload_n 0, 1) := by decide +kernel
theorem d_CD_findPrimitive_128 : decode prog_2_method_3_code 128 = .ok (.getfield 18, 3) := by decide +kernel
theorem d_CD_findPrimitive_131 : decode prog_2_method_3_code 131 = .ok (.aload_n 0, 1) := by decide +kernel
theorem d_CD_findPrimitive_132 : decode prog_2_method_3_code 132 = .ok (.getfield 21, 3) := by decide +kernel
theorem d_CD_findPrimitive_135 : decode prog_2_method_3_code 135 = .ok (.aload_n 0, 1) := by decide +kernel
theorem d_CD_findPrimitive_136 : decode prog_2_method_3_code 136 = .ok (.getfield 24, 3) := by decide +kernel
theorem d_CD_findPrimitive_139 : decode prog_2_method_3_code 139 = .ok (.invokestatic 70, 3) := by decide +kernel
theorem d_CD_findPrimitive_142 : decode prog_2_method_3_code 142 = .ok (.ifCond .eq 26, 3) := by decide +kernel
theorem d_CD_findPrimitive_145 : decode prog_2_method_3_code 145 = .ok (.aload_n 0, 1) := by decide +kernel
theorem d_CD_findPrimitive_146 : decode prog_2_method_3_code 146 = .ok (.getfield 15, 3) := by decide +kernel
theorem d_CD_findPrimitive_149 : decode prog_2_method_3_code 149 = .ok (.aload_n 0, 1) := by decide +kernel
theorem d_CD_findPrimitive_150 : decode prog_2_method_3_code 150 = .ok (.getfield 18, 3) := by decide +kernel
theorem d_CD_findPrimitive_153 : decode prog_2_method_3_code 153 = .ok (.aload_n 0, 1) := by decide +kernel
theorem d_CD_findPrimitive_154 : decode prog_2_method_3_code 154 = .ok (.getfield 21, 3) := by decide +kernel
theorem d_CD_findPrimitive_157 : decode prog_2_method_3_code 157 = .ok (.aload_n 0, 1) := by decide +kernel
theorem d_CD_findPrimitive_158 : decode prog_2_method_3_code 158 = .ok (.getfield 24, 3) := by decide +kernel
theorem d_CD_findPrimitive_161 : decode prog_2_method_3_code 161 = .ok (.invokestatic 70, 3) := by decide +kernel
theorem d_CD_findPrimitive_164 : decode prog_2_method_3_code 164 = .ok (.ifCond .eq 4, 3) := by decide +kernel
theorem d_CD_findPrimitive_167 : decode prog_2_method_3_code 167 = .ok (.return_, 1) := by decide +kernel
theorem d_CD_findPrimitive_168 : decode prog_2_method_3_code 168 = .ok (.iinc 3 1, 3) := by decide +kernel
theorem d_CD_findPrimitive_171 : decode prog_2_method_3_code 171 = .ok (.goto (-151), 3) := by decide +kernel
theorem d_CD_findPrimitive_174 : decode prog_2_method_3_code 174 = .ok (.return_, 1) := by decide +kernel
def B_CD_findPrimitive_83 (P : zM → Prop) (k20 : Int32 → zM → Prop) (v1 : Int64) (v3 : Int32) (v4 : Int64) (v6 : Nat) (k83 : Int32 → zM → Prop) (v7 : Int32) (M : zM) : Prop := ((8 : Int32) ≤ v7 → w_Ro_makePrimitive 13 M (fun r22 M23 => w_Ro_findQuotient 11 13 14 15 M23 (fun r25 M26 => (r25 = 0 → k20 (v3 + (1 : Int32)) M26) ∧ (¬ r25 = 0 → w_Ro_findQuotient 12 13 14 15 M26 (fun r28 M29 => (r28 = 0 → k20 (v3 + (1 : Int32)) M29) ∧ (¬ r28 = 0 → P M29)))))) ∧ (¬ (8 : Int32) ≤ v7 → vp_in v7 (zlong v6) ∧ w_Re_nearest ((M v6 v7.toNatClampNeg) * v1) v4  (fun r31 => vp_in v7 (zlong 13) ∧ ∀ M34 : zM, M34 = zput M 13 v7.toNatClampNeg r31 → k83 (v7 + (1 : Int32)) M34))
def L_CD_findPrimitive_83 (P : zM → Prop) (k20 : Int32 → zM → Prop) (v1 : Int64) (v3 : Int32) (v4 : Int64) (v6 : Nat) (n : Nat) : Int32 → zM → Prop := Nat.rec (fun _ _ => False) (fun _ k => B_CD_findPrimitive_83 P k20 v1 v3 v4 v6 k) n
def B_CD_findPrimitive_20 (P : zM → Prop) (v1 : Int64) (k20 : Int32 → zM → Prop) (v3 : Int32) (M : zM) : Prop := ((9 : Int32) ≤ v3 → P M) ∧ (¬ (9 : Int32) ≤ v3 → vp_in v3 9 ∧ ∀ x12 : Int64, x12 = zlp v3.toNatClampNeg → w_Re_reduceInto 11 14 x12 M (fun M14 => w_Re_reduceInto 12 15 x12 M14 (fun M17 => w_Re_commonOf 14 15 16 x12 M17 (fun r19 M20 => ∃ n, L_CD_findPrimitive_83 P k20 v1 v3 x12 r19 n (0 : Int32) M20))))
def L_CD_findPrimitive_20 (P : zM → Prop) (v1 : Int64) (n : Nat) : Int32 → zM → Prop := Nat.rec (fun _ _ => False) (fun _ k => B_CD_findPrimitive_20 P v1 k) n
def w_CD_findPrimitive  (M : zM) (P : zM → Prop) : Prop := w_Ro_leadingOf 11 M (fun r1 => w_Ro_leadingOf 12 M (fun r4 => w_Ro_greatestDivisor r1 r4  (fun r7 => ∃ n, L_CD_findPrimitive_20 P r7 n (0 : Int32) M)))
def ws_CD_findPrimitive : List Cond := .code y_CD_findPrimitive prog_2_method_3_code 8 (Option.none : Option Jvm.ClassFile.FieldType) :: zall
def rm_CD_findPrimitive : Room := { frames := 3, cells := 0, slots := 0, locals := 88 }
theorem hd_CD_findPrimitive : y_CD_findPrimitive.cls ≠ "java/lang/invoke/MethodHandle" ∧ y_CD_findPrimitive.cls ≠ "java/lang/invoke/VarHandle" ∧ (parseMethodDescriptor y_CD_findPrimitive.desc).map (fun d => d.parameters.length) = some 0 := by decide +kernel
set_option maxHeartbeats 4000000 in
set_option maxRecDepth 100000 in
theorem c_CD_findPrimitive (l : Launch) (G : zG) (b : Nat)  (M : zM) (N : zN) {P : zM → Prop} (hw : w_CD_findPrimitive  M P) : Met l y_CD_findPrimitive ws_CD_findPrimitive rm_CD_findPrimitive (zPc G b M N [.ref (b + 10)]) (zQv G b (fun M' N' => P M' ∧ N' = N)) 0 0 (zA b) := by
  refine Met.ofW (cc := prog_2_method_3_code) (maxL := 8) (ret := (Option.none : Option Jvm.ClassFile.FieldType)) (by decide) rfl ?_
  intro p e s m args below meth c s₁ B hml hv
  obtain ⟨rfl, hZ, hK, hT⟩ := hv
  have hx := B.exec
  have hb := B.bytes
  have hr := B.returns
  have hts := atoms_spec (ws := ws_CD_findPrimitive) B.pre
  have hta : ∀ w ∈ zall, w.before ([.ref (b + 10)] : List Value).toArray s = true := fun w h => hts w (List.mem_cons_of_mem _ h)
  have hown : s.vm.findClass R_CD = some m.cls := findClass_of_methodNamed B.named
  have hlocks := B.notSynchronized
  have hS : va_S (zA b) s.heap s.heap [] := va_S.rf
  have hl := lv_entry ([.ref (b + 10)]) (n := 8) (Nat.le_of_ble_eq_true rfl)
  rw [lg_entry_eq]
  generalize (lg_sl ([.ref (b + 10)]) ++ List.replicate (8 - (lg_sl ([.ref (b + 10)])).length) Slot.unset).toArray = ls at hl ⊢
  have hl : lv_has ls 8 [(0, .ref (b + 10))] := hl
  have lp20 : ∀ (v1 : Int64) (n : Nat) (v3 : Int32) (M : zM) (H : Heap) (ls : Array Slot) (locs : List Loc), va_P G.1 zCl (zws G b M N) H → va_S (zA b) s.heap H locs → lv_has ls 8 [(0, .ref (b + 10)), (1, .long v1), (3, .int v3)] → L_CD_findPrimitive_20 P v1 n v3 M → W p l e (headSpec ws_CD_findPrimitive rm_CD_findPrimitive).room s m ([.ref (b + 10)] : List Value).toArray below meth c H locs 0 0 (MQ below (zQv G b (fun M' N' => P M' ∧ N' = N)) ([.ref (b + 10)] : List Value).toArray s 0 0 (zA b)) (F0 m 20 ls []) := by
    intro v1 n
    induction n with
    | zero => intro v3 M H ls locs hZ hS hl hw; exact False.elim hw
    | succ n20 ih20 =>
      have lp83 : ∀ (v3 : Int32) (v4 : Int64) (v6 : Nat) (n : Nat) (v7 : Int32) (M : zM) (H : Heap) (ls : Array Slot) (locs : List Loc), va_P G.1 zCl (zws G b M N) H → va_S (zA b) s.heap H locs → lv_has ls 8 [(0, .ref (b + 10)), (1, .long v1), (3, .int v3), (4, .long v4), (6, .ref (b + v6)), (7, .int v7)] → L_CD_findPrimitive_83 P (L_CD_findPrimitive_20 P v1 n20) v1 v3 v4 v6 n v7 M → W p l e (headSpec ws_CD_findPrimitive rm_CD_findPrimitive).room s m ([.ref (b + 10)] : List Value).toArray below meth c H locs 0 0 (MQ below (zQv G b (fun M' N' => P M' ∧ N' = N)) ([.ref (b + 10)] : List Value).toArray s 0 0 (zA b)) (F0 m 83 ls []) := by
        intro v3 v4 v6 n
        induction n with
        | zero => intro v7 M H ls locs hZ hS hl hw; exact False.elim hw
        | succ n83 ih83 =>
          intro v7 M H ls locs hZ hS hl hw
          have hw : B_CD_findPrimitive_83 P (L_CD_findPrimitive_20 P v1 n20) v1 v3 v4 v6 (L_CD_findPrimitive_83 P (L_CD_findPrimitive_20 P v1 n20) v1 v3 v4 v6 n83) v7 M := hw
          unfold B_CD_findPrimitive_83 at hw
          refine lv_iload (pc := 83) hx hb d_CD_findPrimitive_83 (lv_at hl 5 rfl) ?_
          refine lv_bipush (pc := 85) (v := 8) hx hb d_CD_findPrimitive_85 (by decide) ?_
          refine lv_icmp_ge (pc := 87) (tgt := 115) hx hb d_CD_findPrimitive_87 (by decide) (fun hc => ?_) (fun hc => ?_)
          · have hw := hw.1 hc
            refine lv_aload_n (pc := 115) hx hb d_CD_findPrimitive_115 rfl (lv_at hl 0 rfl) ?_
            refine zg_CD_18 (pc := 116) hx hb hta hown hK hZ d_CD_findPrimitive_116 ?_
            refine z_calll (pc := 119) (va_runS (As := [.ref (b + 13)]) (rest := []) ⟨hx, hb, hml, hown, hts⟩ (c_Ro_makePrimitive l G b 13 M N hw) (va_cwS 1 hts (z_good (zgS wd441 wd442 wd13 wd443)) rfl rfl rfl hd_Ro_makePrimitive ⟨Nat.le_of_ble_eq_true rfl, Nat.le_of_ble_eq_true rfl⟩) (z_preS hZ hK hT hS) rfl rfl hl.1 rfl (lv_room (Nat.le_of_ble_eq_true rfl)) d_CD_findPrimitive_119 ⟨Nat.le_of_ble_eq_true rfl, Nat.le_of_ble_eq_true rfl⟩) hS (fun r22 M23 N24 H locs hw hZ hS => ?_)
            obtain ⟨hw, eN24⟩ := hw
            rw [eN24] at hZ
            refine lv_pop2_2 (pc := 122) hx hb d_CD_findPrimitive_122 rfl ?_
            refine lv_aload_n (pc := 123) hx hb d_CD_findPrimitive_123 rfl (lv_at hl 0 rfl) ?_
            refine zg_CD_9 (pc := 124) hx hb hta hown hK hZ d_CD_findPrimitive_124 ?_
            refine lv_aload_n (pc := 127) hx hb d_CD_findPrimitive_127 rfl (lv_at hl 0 rfl) ?_
            refine zg_CD_18 (pc := 128) hx hb hta hown hK hZ d_CD_findPrimitive_128 ?_
            refine lv_aload_n (pc := 131) hx hb d_CD_findPrimitive_131 rfl (lv_at hl 0 rfl) ?_
            refine zg_CD_21 (pc := 132) hx hb hta hown hK hZ d_CD_findPrimitive_132 ?_
            refine lv_aload_n (pc := 135) hx hb d_CD_findPrimitive_135 rfl (lv_at hl 0 rfl) ?_
            refine zg_CD_24 (pc := 136) hx hb hta hown hK hZ d_CD_findPrimitive_136 ?_
            refine z_calli (pc := 139) (va_runS (As := [.ref (b + 11), .ref (b + 13), .ref (b + 14), .ref (b + 15)]) (rest := []) ⟨hx, hb, hml, hown, hts⟩ (c_Ro_findQuotient l G b 11 13 14 15 M23 N hw) (va_cwS 4 hts (z_good (zgS wd486 wd404 wd13 wd405)) rfl rfl rfl hd_Ro_findQuotient ⟨Nat.le_of_ble_eq_true rfl, Nat.le_of_ble_eq_true rfl⟩) (z_preS hZ hK hT hS) rfl rfl hl.1 rfl (lv_room (Nat.le_of_ble_eq_true rfl)) d_CD_findPrimitive_139 ⟨Nat.le_of_ble_eq_true rfl, Nat.le_of_ble_eq_true rfl⟩) hS (fun r25 M26 N27 H locs hw hZ hS => ?_)
            obtain ⟨hw, eN27⟩ := hw
            rw [eN27] at hZ
            refine lv_if_eq (pc := 142) (tgt := 168) hx hb d_CD_findPrimitive_142 (by decide) (fun hc => ?_) (fun hc => ?_)
            · have hw := hw.1 hc
              refine lv_iinc (pc := 168) (k := 2) (v := v3 + (1 : Int32)) (lv' := [(3, .int (v3 + (1 : Int32))), (0, .ref (b + 10)), (1, .long v1), (4, .long v4), (6, .ref (b + v6)), (7, .int v7)]) hx hb d_CD_findPrimitive_168 hl rfl (by rfl) (by decide) rfl (fun ls hl => ?_)
              refine lv_goto (pc := 171) (tgt := 20) hx hb d_CD_findPrimitive_171 (by decide) ?_
              exact ih20 (v3 + (1 : Int32)) M26 _ _ _ hZ hS (lv_sub hl [1, 2, 0] rfl) hw
            · have hw := hw.2 hc
              refine lv_aload_n (pc := 145) hx hb d_CD_findPrimitive_145 rfl (lv_at hl 0 rfl) ?_
              refine zg_CD_15 (pc := 146) hx hb hta hown hK hZ d_CD_findPrimitive_146 ?_
              refine lv_aload_n (pc := 149) hx hb d_CD_findPrimitive_149 rfl (lv_at hl 0 rfl) ?_
              refine zg_CD_18 (pc := 150) hx hb hta hown hK hZ d_CD_findPrimitive_150 ?_
              refine lv_aload_n (pc := 153) hx hb d_CD_findPrimitive_153 rfl (lv_at hl 0 rfl) ?_
              refine zg_CD_21 (pc := 154) hx hb hta hown hK hZ d_CD_findPrimitive_154 ?_
              refine lv_aload_n (pc := 157) hx hb d_CD_findPrimitive_157 rfl (lv_at hl 0 rfl) ?_
              refine zg_CD_24 (pc := 158) hx hb hta hown hK hZ d_CD_findPrimitive_158 ?_
              refine z_calli (pc := 161) (va_runS (As := [.ref (b + 12), .ref (b + 13), .ref (b + 14), .ref (b + 15)]) (rest := []) ⟨hx, hb, hml, hown, hts⟩ (c_Ro_findQuotient l G b 12 13 14 15 M26 N hw) (va_cwS 4 hts (z_good (zgS wd486 wd404 wd13 wd405)) rfl rfl rfl hd_Ro_findQuotient ⟨Nat.le_of_ble_eq_true rfl, Nat.le_of_ble_eq_true rfl⟩) (z_preS hZ hK hT hS) rfl rfl hl.1 rfl (lv_room (Nat.le_of_ble_eq_true rfl)) d_CD_findPrimitive_161 ⟨Nat.le_of_ble_eq_true rfl, Nat.le_of_ble_eq_true rfl⟩) hS (fun r28 M29 N30 H locs hw hZ hS => ?_)
              obtain ⟨hw, eN30⟩ := hw
              rw [eN30] at hZ
              refine lv_if_eq (pc := 164) (tgt := 168) hx hb d_CD_findPrimitive_164 (by decide) (fun hc => ?_) (fun hc => ?_)
              · have hw := hw.1 hc
                refine lv_iinc (pc := 168) (k := 2) (v := v3 + (1 : Int32)) (lv' := [(3, .int (v3 + (1 : Int32))), (0, .ref (b + 10)), (1, .long v1), (4, .long v4), (6, .ref (b + v6)), (7, .int v7)]) hx hb d_CD_findPrimitive_168 hl rfl (by rfl) (by decide) rfl (fun ls hl => ?_)
                refine lv_goto (pc := 171) (tgt := 20) hx hb d_CD_findPrimitive_171 (by decide) ?_
                exact ih20 (v3 + (1 : Int32)) M29 _ _ _ hZ hS (lv_sub hl [1, 2, 0] rfl) hw
              · have hw := hw.2 hc
                exact z_vret hx hb hr hlocks hK hT hZ hS ⟨hw, rfl⟩ d_CD_findPrimitive_167
          · have hw := hw.2 hc
            refine lv_aload_n (pc := 90) hx hb d_CD_findPrimitive_90 rfl (lv_at hl 0 rfl) ?_
            refine zg_CD_18 (pc := 91) hx hb hta hown hK hZ d_CD_findPrimitive_91 ?_
            refine lv_iload (pc := 94) hx hb d_CD_findPrimitive_94 (lv_at hl 5 rfl) ?_
            refine lv_aload (pc := 96) hx hb d_CD_findPrimitive_96 (lv_at hl 4 rfl) ?_
            refine lv_iload (pc := 98) hx hb d_CD_findPrimitive_98 (lv_at hl 5 rfl) ?_
            obtain ⟨hc, hw⟩ := hw
            refine z_lald (pc := 100) hx hb hK hZ hc d_CD_findPrimitive_100 ?_
            refine lv_lload_n (pc := 101) hx hb d_CD_findPrimitive_101 rfl (lv_at hl 1 rfl) ?_
            refine lv_lmul (pc := 102) hx hb d_CD_findPrimitive_102 ?_
            refine lv_lload (pc := 103) hx hb d_CD_findPrimitive_103 (lv_at hl 3 rfl) ?_
            refine z_calll (pc := 105) (va_runS (As := [.long ((M v6 v7.toNatClampNeg) * v1), .long v4]) (rest := [.int v7, .ref (b + 13)]) ⟨hx, hb, hml, hown, hts⟩ (c_Re_nearest l G b ((M v6 v7.toNatClampNeg) * v1) v4 M N hw) (va_cwS 2 hts (z_good (zgS wd483 wd484 wd18 wd485)) rfl rfl rfl hd_Re_nearest ⟨Nat.le_of_ble_eq_true rfl, Nat.le_of_ble_eq_true rfl⟩) (z_preS hZ hK hT hS) rfl rfl hl.1 rfl (lv_room (Nat.le_of_ble_eq_true rfl)) d_CD_findPrimitive_105 ⟨Nat.le_of_ble_eq_true rfl, Nat.le_of_ble_eq_true rfl⟩) hS (fun r31 M32 N33 H locs hw hZ hS => ?_)
            obtain ⟨hw, eM32, eN33⟩ := hw
            rw [eM32, eN33] at hZ
            obtain ⟨hc, hw⟩ := hw
            refine z_last (pc := 108) hx hb hK hZ hS hc d_CD_findPrimitive_108 (fun M34 H locs hM34 hZ hS => ?_)
            have hw := hw M34 hM34
            refine lv_iinc (pc := 109) (k := 5) (v := v7 + (1 : Int32)) (lv' := [(7, .int (v7 + (1 : Int32))), (0, .ref (b + 10)), (1, .long v1), (3, .int v3), (4, .long v4), (6, .ref (b + v6))]) hx hb d_CD_findPrimitive_109 hl rfl (by rfl) (by decide) rfl (fun ls hl => ?_)
            refine lv_goto (pc := 112) (tgt := 83) hx hb d_CD_findPrimitive_112 (by decide) ?_
            exact ih83 (v7 + (1 : Int32)) M34 _ _ _ hZ hS (lv_sub hl [1, 2, 3, 4, 5, 0] rfl) hw
      intro v3 M H ls locs hZ hS hl hw
      have hw : B_CD_findPrimitive_20 P v1 (L_CD_findPrimitive_20 P v1 n20) v3 M := hw
      unfold B_CD_findPrimitive_20 at hw
      refine lv_iload_n (pc := 20) hx hb d_CD_findPrimitive_20 rfl (lv_at hl 2 rfl) ?_
      obtain ⟨tt10, htt10a, htt10b⟩ := hT.2.2.2.1
      refine va_gets (pc := 21) hx hb htt10a hS hown (hta _ wd460) (fun _ h => h) d_CD_findPrimitive_21 ?_
      refine va_tlen (pc := 24) (v := 9) hx hb htt10b hS rfl d_CD_findPrimitive_24 ?_
      refine lv_icmp_ge (pc := 25) (tgt := 174) hx hb d_CD_findPrimitive_25 (by decide) (fun hc => ?_) (fun hc => ?_)
      · have hw := hw.1 hc
        exact z_vret hx hb hr hlocks hK hT hZ hS ⟨hw, rfl⟩ d_CD_findPrimitive_174
      · have hw := hw.2 hc
        obtain ⟨tt11, htt11a, htt11b⟩ := hT.2.2.2.1
        refine va_gets (pc := 28) hx hb htt11a hS hown (hta _ wd460) (fun _ h => h) d_CD_findPrimitive_28 ?_
        refine lv_iload_n (pc := 31) hx hb d_CD_findPrimitive_31 rfl (lv_at hl 2 rfl) ?_
        obtain ⟨hc, hw⟩ := hw
        refine va_tl (pc := 32) (v := .long (zlp v3.toNatClampNeg)) hx hb htt11b hS hc rfl d_CD_findPrimitive_32 ?_
        refine lv_topl (fun x12 hx12 => ?_)
        have hw := hw x12 hx12
        refine lv_lstore (pc := 33) (lv' := [(4, .long x12), (0, .ref (b + 10)), (1, .long v1), (3, .int v3)]) hx hb d_CD_findPrimitive_33 hl (by decide) rfl (fun ls hl => ?_)
        refine lv_aload_n (pc := 35) hx hb d_CD_findPrimitive_35 rfl (lv_at hl 1 rfl) ?_
        refine zg_CD_9 (pc := 36) hx hb hta hown hK hZ d_CD_findPrimitive_36 ?_
        refine lv_aload_n (pc := 39) hx hb d_CD_findPrimitive_39 rfl (lv_at hl 1 rfl) ?_
        refine zg_CD_21 (pc := 40) hx hb hta hown hK hZ d_CD_findPrimitive_40 ?_
        refine lv_lload (pc := 43) hx hb d_CD_findPrimitive_43 (lv_at hl 0 rfl) ?_
        refine z_callv (pc := 45) (va_runS (As := [.ref (b + 11), .ref (b + 14), .long x12]) (rest := []) ⟨hx, hb, hml, hown, hts⟩ (c_Re_reduceInto l G b 11 14 x12 M N hw) (va_cwS 3 hts (z_good (zgS wd462 wd463 wd18 wd464)) rfl rfl rfl hd_Re_reduceInto ⟨Nat.le_of_ble_eq_true rfl, Nat.le_of_ble_eq_true rfl⟩) (z_preS hZ hK hT hS) rfl rfl hl.1 rfl (lv_room (Nat.le_of_ble_eq_true rfl)) d_CD_findPrimitive_45 ⟨Nat.le_of_ble_eq_true rfl, Nat.le_of_ble_eq_true rfl⟩) hS (fun M14 N15 H locs hw hZ hS => ?_)
        obtain ⟨hw, eN15⟩ := hw
        rw [eN15] at hZ
        refine lv_aload_n (pc := 48) hx hb d_CD_findPrimitive_48 rfl (lv_at hl 1 rfl) ?_
        refine zg_CD_15 (pc := 49) hx hb hta hown hK hZ d_CD_findPrimitive_49 ?_
        refine lv_aload_n (pc := 52) hx hb d_CD_findPrimitive_52 rfl (lv_at hl 1 rfl) ?_
        refine zg_CD_24 (pc := 53) hx hb hta hown hK hZ d_CD_findPrimitive_53 ?_
        refine lv_lload (pc := 56) hx hb d_CD_findPrimitive_56 (lv_at hl 0 rfl) ?_
        refine z_callv (pc := 58) (va_runS (As := [.ref (b + 12), .ref (b + 15), .long x12]) (rest := []) ⟨hx, hb, hml, hown, hts⟩ (c_Re_reduceInto l G b 12 15 x12 M14 N hw) (va_cwS 3 hts (z_good (zgS wd462 wd463 wd18 wd464)) rfl rfl rfl hd_Re_reduceInto ⟨Nat.le_of_ble_eq_true rfl, Nat.le_of_ble_eq_true rfl⟩) (z_preS hZ hK hT hS) rfl rfl hl.1 rfl (lv_room (Nat.le_of_ble_eq_true rfl)) d_CD_findPrimitive_58 ⟨Nat.le_of_ble_eq_true rfl, Nat.le_of_ble_eq_true rfl⟩) hS (fun M17 N18 H locs hw hZ hS => ?_)
        obtain ⟨hw, eN18⟩ := hw
        rw [eN18] at hZ
        refine lv_aload_n (pc := 61) hx hb d_CD_findPrimitive_61 rfl (lv_at hl 1 rfl) ?_
        refine zg_CD_21 (pc := 62) hx hb hta hown hK hZ d_CD_findPrimitive_62 ?_
        refine lv_aload_n (pc := 65) hx hb d_CD_findPrimitive_65 rfl (lv_at hl 1 rfl) ?_
        refine zg_CD_24 (pc := 66) hx hb hta hown hK hZ d_CD_findPrimitive_66 ?_
        refine lv_aload_n (pc := 69) hx hb d_CD_findPrimitive_69 rfl (lv_at hl 1 rfl) ?_
        refine zg_CD_27 (pc := 70) hx hb hta hown hK hZ d_CD_findPrimitive_70 ?_
        refine lv_lload (pc := 73) hx hb d_CD_findPrimitive_73 (lv_at hl 0 rfl) ?_
        refine z_callr (pc := 75) (va_runS (As := [.ref (b + 14), .ref (b + 15), .ref (b + 16), .long x12]) (rest := []) ⟨hx, hb, hml, hown, hts⟩ (c_Re_commonOf l G b 14 15 16 x12 M17 N hw) (va_cwS 4 hts (z_good (zgS wd468 wd469 wd18 wd470)) rfl rfl rfl hd_Re_commonOf ⟨Nat.le_of_ble_eq_true rfl, Nat.le_of_ble_eq_true rfl⟩) (z_preS hZ hK hT hS) rfl rfl hl.1 rfl (lv_room (Nat.le_of_ble_eq_true rfl)) d_CD_findPrimitive_75 ⟨Nat.le_of_ble_eq_true rfl, Nat.le_of_ble_eq_true rfl⟩) hS (fun r19 M20 N21 H locs hw hZ hS => ?_)
        obtain ⟨hw, eN21⟩ := hw
        rw [eN21] at hZ
        refine lv_astore (pc := 78) (lv' := [(6, .ref (b + r19)), (4, .long x12), (0, .ref (b + 10)), (1, .long v1), (3, .int v3)]) hx hb d_CD_findPrimitive_78 hl (by decide) rfl (fun ls hl => ?_)
        refine lv_iconst (pc := 80) (v := 0) hx hb d_CD_findPrimitive_80 (by decide) ?_
        refine lv_istore (pc := 81) (lv' := [(7, .int (0 : Int32)), (6, .ref (b + r19)), (4, .long x12), (0, .ref (b + 10)), (1, .long v1), (3, .int v3)]) hx hb d_CD_findPrimitive_81 hl (by decide) rfl (fun ls hl => ?_)
        obtain ⟨n, hw⟩ := hw
        exact lp83 v3 x12 r19 n (0 : Int32) M20 _ _ _ hZ hS (lv_sub hl [3, 4, 5, 2, 1, 0] rfl) hw
  unfold w_CD_findPrimitive at hw
  refine lv_aload_n (pc := 0) hx hb d_CD_findPrimitive_0 rfl (lv_at hl 0 rfl) ?_
  refine zg_CD_9 (pc := 1) hx hb hta hown hK hZ d_CD_findPrimitive_1 ?_
  refine z_calll (pc := 4) (va_runS (As := [.ref (b + 11)]) (rest := []) ⟨hx, hb, hml, hown, hts⟩ (c_Ro_leadingOf l G b 11 M N hw) (va_cwS 1 hts (z_good (zgS wd459 wd451 wd13 wd452)) rfl rfl rfl hd_Ro_leadingOf ⟨Nat.le_of_ble_eq_true rfl, Nat.le_of_ble_eq_true rfl⟩) (z_preS hZ hK hT hS) rfl rfl hl.1 rfl (lv_room (Nat.le_of_ble_eq_true rfl)) d_CD_findPrimitive_4 ⟨Nat.le_of_ble_eq_true rfl, Nat.le_of_ble_eq_true rfl⟩) hS (fun r1 M2 N3 H locs hw hZ hS => ?_)
  obtain ⟨hw, eM2, eN3⟩ := hw
  rw [eM2, eN3] at hZ
  refine lv_aload_n (pc := 7) hx hb d_CD_findPrimitive_7 rfl (lv_at hl 0 rfl) ?_
  refine zg_CD_15 (pc := 8) hx hb hta hown hK hZ d_CD_findPrimitive_8 ?_
  refine z_calll (pc := 11) (va_runS (As := [.ref (b + 12)]) (rest := [.long r1]) ⟨hx, hb, hml, hown, hts⟩ (c_Ro_leadingOf l G b 12 M N hw) (va_cwS 1 hts (z_good (zgS wd459 wd451 wd13 wd452)) rfl rfl rfl hd_Ro_leadingOf ⟨Nat.le_of_ble_eq_true rfl, Nat.le_of_ble_eq_true rfl⟩) (z_preS hZ hK hT hS) rfl rfl hl.1 rfl (lv_room (Nat.le_of_ble_eq_true rfl)) d_CD_findPrimitive_11 ⟨Nat.le_of_ble_eq_true rfl, Nat.le_of_ble_eq_true rfl⟩) hS (fun r4 M5 N6 H locs hw hZ hS => ?_)
  obtain ⟨hw, eM5, eN6⟩ := hw
  rw [eM5, eN6] at hZ
  refine z_calll (pc := 14) (va_runS (As := [.long r1, .long r4]) (rest := []) ⟨hx, hb, hml, hown, hts⟩ (c_Ro_greatestDivisor l G b r1 r4 M N hw) (va_cwS 2 hts (z_good (zgS wd453 wd448 wd13 wd449)) rfl rfl rfl hd_Ro_greatestDivisor ⟨Nat.le_of_ble_eq_true rfl, Nat.le_of_ble_eq_true rfl⟩) (z_preS hZ hK hT hS) rfl rfl hl.1 rfl (lv_room (Nat.le_of_ble_eq_true rfl)) d_CD_findPrimitive_14 ⟨Nat.le_of_ble_eq_true rfl, Nat.le_of_ble_eq_true rfl⟩) hS (fun r7 M8 N9 H locs hw hZ hS => ?_)
  obtain ⟨hw, eM8, eN9⟩ := hw
  rw [eM8, eN9] at hZ
  refine lv_lstore_n (pc := 17) (lv' := [(1, .long r7), (0, .ref (b + 10))]) hx hb d_CD_findPrimitive_17 rfl hl (by decide) rfl (fun ls hl => ?_)
  refine lv_iconst (pc := 18) (v := 0) hx hb d_CD_findPrimitive_18 (by decide) ?_
  refine lv_istore_n (pc := 19) (lv' := [(3, .int (0 : Int32)), (1, .long r7), (0, .ref (b + 10))]) hx hb d_CD_findPrimitive_19 rfl hl (by decide) rfl (fun ls hl => ?_)
  obtain ⟨n, hw⟩ := hw
  exact lp20 r7 n (0 : Int32) M _ _ _ hZ hS (lv_sub hl [2, 1, 0] rfl) hw
theorem wsel2 : Cond.selects R_CD y_CD_findPrimitive y_CD_findPrimitive ∈ zall := List.mem_filter.mpr ⟨List.mem_append_left _ (List.mem_of_getElem? (i := 2) rfl), by decide +kernel⟩
theorem d_CD_find_0 : decode prog_2_method_2_code 0 = .ok (.aload_n 1, 1) := by decide +kernel
theorem d_CD_find_1 : decode prog_2_method_2_code 1 = .ok (.aload_n 0, 1) := by decide +kernel
theorem d_CD_find_2 : decode prog_2_method_2_code 2 = .ok (.getfield 9, 3) := by decide +kernel
theorem d_CD_find_5 : decode prog_2_method_2_code 5 = .ok (.invokestatic 30, 3) := by decide +kernel
theorem d_CD_find_8 : decode prog_2_method_2_code 8 = .ok (.aload_n 2, 1) := by decide +kernel
theorem d_CD_find_9 : decode prog_2_method_2_code 9 = .ok (.aload_n 0, 1) := by decide +kernel
theorem d_CD_find_10 : decode prog_2_method_2_code 10 = .ok (.getfield 15, 3) := by decide +kernel
theorem d_CD_find_13 : decode prog_2_method_2_code 13 = .ok (.invokestatic 30, 3) := by decide +kernel
theorem d_CD_find_16 : decode prog_2_method_2_code 16 = .ok (.aload_n 0, 1) := by decide +kernel
theorem d_CD_find_17 : decode prog_2_method_2_code 17 = .ok (.getfield 9, 3) := by decide +kernel
theorem d_CD_find_20 : decode prog_2_method_2_code 20 = .ok (.invokestatic 36, 3) := by decide +kernel
theorem d_CD_find_23 : decode prog_2_method_2_code 23 = .ok (.aload_n 0, 1) := by decide +kernel
theorem d_CD_find_24 : decode prog_2_method_2_code 24 = .ok (.getfield 15, 3) := by decide +kernel
theorem d_CD_find_27 : decode prog_2_method_2_code 27 = .ok (.invokestatic 36, 3) := by decide +kernel
theorem d_CD_find_30 : decode prog_2_method_2_code 30 = .ok (.invokestatic 40, 3) := by decide +kernel
theorem d_CD_find_33 : decode prog_2_method_2_code 33 = .ok (.lstore_n 3, 1) := by decide +kernel
theorem d_CD_find_34 : decode prog_2_method_2_code 34 = .ok (.aload_n 0, 1) := by decide +kernel
theorem d_CD_find_35 : decode prog_2_method_2_code 35 = .ok (.getfield 15, 3) := by decide +kernel
theorem d_CD_find_38 : decode prog_2_method_2_code 38 = .ok (.invokestatic 44, 3) := by decide +kernel
theorem d_CD_find_41 : decode prog_2_method_2_code 41 = .ok (.ifCond .ge 17, 3) := by decide +kernel
theorem d_CD_find_44 : decode prog_2_method_2_code 44 = .ok (.aload_n 0, 1) := by decide +kernel
theorem d_CD_find_45 : decode prog_2_method_2_code 45 = .ok (.getfield 9, 3) := by decide +kernel
theorem d_CD_find_48 : decode prog_2_method_2_code 48 = .ok (.aload_n 0, 1) := by decide +kernel
theorem d_CD_find_49 : decode prog_2_method_2_code 49 = .ok (.getfield 18, 3) := by decide +kernel
theorem d_CD_find_52 : decode prog_2_method_2_code 52 = .ok (.invokestatic 30, 3) := by decide +kernel
theorem d_CD_find_55 : decode prog_2_method_2_code 55 = .ok (.goto 31, 3) := by decide +kernel
theorem d_CD_find_58 : decode prog_2_method_2_code 58 = .ok (.aload_n 0, 1) := by decide +kernel
theorem d_CD_find_59 : decode prog_2_method_2_code 59 = .ok (.getfield 9, 3) := by decide +kernel
theorem d_CD_find_62 : decode prog_2_method_2_code 62 = .ok (.invokestatic 44, 3) := by decide +kernel
theorem d_CD_find_65 : decode prog_2_method_2_code 65 = .ok (.ifCond .ge 17, 3) := by decide +kernel
theorem d_CD_find_68 : decode prog_2_method_2_code 68 = .ok (.aload_n 0, 1) := by decide +kernel
theorem d_CD_find_69 : decode prog_2_method_2_code 69 = .ok (.getfield 15, 3) := by decide +kernel
theorem d_CD_find_72 : decode prog_2_method_2_code 72 = .ok (.aload_n 0, 1) := by decide +kernel
theorem d_CD_find_73 : decode prog_2_method_2_code 73 = .ok (.getfield 18, 3) := by decide +kernel
theorem d_CD_find_76 : decode prog_2_method_2_code 76 = .ok (.invokestatic 30, 3) := by decide +kernel
theorem d_CD_find_79 : decode prog_2_method_2_code 79 = .ok (.goto 7, 3) := by decide +kernel
theorem d_CD_find_82 : decode prog_2_method_2_code 82 = .ok (.aload_n 0, 1) := by decide +kernel
theorem d_CD_find_83 : decode prog_2_method_2_code 83 = .ok (.invokevirtual 48, 3) := by decide +kernel
theorem d_CD_find_86 : decode prog_2_method_2_code 86 = .ok (.iconst 0, 1) := by decide +kernel
theorem d_CD_find_87 : decode prog_2_method_2_code 87 = .ok (.istore 5, 2) := by decide +kernel
theorem d_CD_find_89 : decode prog_2_method_2_code 89 = .ok (.iload 5, 2) := by decide +kernel
theorem d_CD_find_91 : decode prog_2_method_2_code 91 = .ok (.bipush 8, 2) := by decide +kernel
theorem d_CD_find_93 : decode prog_2_method_2_code 93 = .ok (.if_icmp .ge 20, 3) := by decide +kernel
theorem d_CD_find_96 : decode prog_2_method_2_code 96 = .ok (.aload_n 0, 1) := by decide +kernel
theorem d_CD_find_97 : decode prog_2_method_2_code 97 = .ok (.getfield 18, 3) := by decide +kernel
theorem d_CD_find_100 : decode prog_2_method_2_code 100 = .ok (.iload 5, 2) := by decide +kernel
theorem d_CD_find_102 : decode prog_2_method_2_code 102 = .ok (.dup2, 1) := by decide +kernel
theorem d_CD_find_103 : decode prog_2_method_2_code 103 = .ok (.laload, 1) := by decide +kernel
theorem d_CD_find_104 : decode prog_2_method_2_code 104 = .ok (.lload_n 3, 1) := by decide +kernel
theorem d_CD_find_105 : decode prog_2_method_2_code 105 = .ok (.lmul, 1) := by decide +kernel
theorem d_CD_find_106 : decode prog_2_method_2_code 106 = .ok (.lastore, 1) := by decide +kernel
theorem d_CD_find_107 : decode prog_2_method_2_code 107 = .ok (.iinc 5 1, 3) := by decide +kernel
theorem d_CD_find_110 : decode prog_2_method_2_code 110 = .ok (.goto (-21), 3) := by decide +kernel
theorem d_CD_find_113 : decode prog_2_method_2_code 113 = .ok (.aload_n 0, 1) := by decide +kernel
theorem d_CD_find_114 : decode prog_2_method_2_code 114 = .ok (.getfield 18, 3) := by decide +kernel
theorem d_CD_find_117 : decode prog_2_method_2_code 117 = .ok (.areturn, 1) := by decide +kernel
def B_CD_find_89 (P : Nat → zM → Prop) (v3 : Int64) (k89 : Int32 → zM → Prop) (v5 : Int32) (M : zM) : Prop := ((8 : Int32) ≤ v5 → P 13 M) ∧ (¬ (8 : Int32) ≤ v5 → vp_in v5 (zlong 13) ∧ vp_in v5 (zlong 13) ∧ ∀ M31 : zM, M31 = zput M 13 v5.toNatClampNeg ((M 13 v5.toNatClampNeg) * v3) → k89 (v5 + (1 : Int32)) M31)
def L_CD_find_89 (P : Nat → zM → Prop) (v3 : Int64) (n : Nat) : Int32 → zM → Prop := Nat.rec (fun _ _ => False) (fun _ k => B_CD_find_89 P v3 k) n
def w_CD_find (a1 : Nat) (a2 : Nat) (M : zM) (P : Nat → zM → Prop) : Prop := w_Ro_copyInto a1 11 M (fun M2 => w_Ro_copyInto a2 12 M2 (fun M5 => w_Ro_makePrimitive 11 M5 (fun r7 M8 => w_Ro_makePrimitive 12 M8 (fun r10 M11 => w_Ro_greatestDivisor r7 r10  (fun r13 => w_Ro_degreeOf 12 M11 (fun r16 => (0 ≤ r16 → w_Ro_degreeOf 11 M11 (fun r19 => (0 ≤ r19 → w_CD_findPrimitive  M11 (fun M23 => ∃ n, L_CD_find_89 P r13 n (0 : Int32) M23)) ∧ (¬ 0 ≤ r19 → w_Ro_copyInto 12 13 M11 (fun M26 => ∃ n, L_CD_find_89 P r13 n (0 : Int32) M26)))) ∧ (¬ 0 ≤ r16 → w_Ro_copyInto 11 13 M11 (fun M29 => ∃ n, L_CD_find_89 P r13 n (0 : Int32) M29))))))))
def ws_CD_find : List Cond := .code y_CD_find prog_2_method_2_code 6 (Option.some (Jvm.ClassFile.FieldType.array Jvm.ClassFile.FieldType.long)) :: zall
def rm_CD_find : Room := { frames := 4, cells := 0, slots := 0, locals := 115 }
theorem hd_CD_find : y_CD_find.cls ≠ "java/lang/invoke/MethodHandle" ∧ y_CD_find.cls ≠ "java/lang/invoke/VarHandle" ∧ (parseMethodDescriptor y_CD_find.desc).map (fun d => d.parameters.length) = some 2 := by decide +kernel
set_option maxHeartbeats 4000000 in
set_option maxRecDepth 100000 in
theorem c_CD_find (l : Launch) (G : zG) (b : Nat) (a1 : Nat) (a2 : Nat) (M : zM) (N : zN) {P : Nat → zM → Prop} (hw : w_CD_find a1 a2 M P) : Met l y_CD_find ws_CD_find rm_CD_find (zPc G b M N [.ref (b + 10), .ref (b + a1), .ref (b + a2)]) (zQr G b (fun r M' N' => P r M' ∧ N' = N)) 0 0 (zA b) := by
  refine Met.ofW (cc := prog_2_method_2_code) (maxL := 6) (ret := (Option.some (Jvm.ClassFile.FieldType.array Jvm.ClassFile.FieldType.long))) (by decide) rfl ?_
  intro p e s m args below meth c s₁ B hml hv
  obtain ⟨rfl, hZ, hK, hT⟩ := hv
  have hx := B.exec
  have hb := B.bytes
  have hr := B.returns
  have hts := atoms_spec (ws := ws_CD_find) B.pre
  have hta : ∀ w ∈ zall, w.before ([.ref (b + 10), .ref (b + a1), .ref (b + a2)] : List Value).toArray s = true := fun w h => hts w (List.mem_cons_of_mem _ h)
  have hown : s.vm.findClass R_CD = some m.cls := findClass_of_methodNamed B.named
  have hlocks := B.notSynchronized
  have hS : va_S (zA b) s.heap s.heap [] := va_S.rf
  have hl := lv_entry ([.ref (b + 10), .ref (b + a1), .ref (b + a2)]) (n := 6) (Nat.le_of_ble_eq_true rfl)
  rw [lg_entry_eq]
  generalize (lg_sl ([.ref (b + 10), .ref (b + a1), .ref (b + a2)]) ++ List.replicate (6 - (lg_sl ([.ref (b + 10), .ref (b + a1), .ref (b + a2)])).length) Slot.unset).toArray = ls at hl ⊢
  have hl : lv_has ls 6 [(0, .ref (b + 10)), (1, .ref (b + a1)), (2, .ref (b + a2))] := hl
  have lp89 : ∀ (v3 : Int64) (n : Nat) (v5 : Int32) (M : zM) (H : Heap) (ls : Array Slot) (locs : List Loc), va_P G.1 zCl (zws G b M N) H → va_S (zA b) s.heap H locs → lv_has ls 6 [(0, .ref (b + 10)), (3, .long v3), (5, .int v5)] → L_CD_find_89 P v3 n v5 M → W p l e (headSpec ws_CD_find rm_CD_find).room s m ([.ref (b + 10), .ref (b + a1), .ref (b + a2)] : List Value).toArray below meth c H locs 0 0 (MQ below (zQr G b (fun r M' N' => P r M' ∧ N' = N)) ([.ref (b + 10), .ref (b + a1), .ref (b + a2)] : List Value).toArray s 0 0 (zA b)) (F0 m 89 ls []) := by
    intro v3 n
    induction n with
    | zero => intro v5 M H ls locs hZ hS hl hw; exact False.elim hw
    | succ n89 ih89 =>
      intro v5 M H ls locs hZ hS hl hw
      have hw : B_CD_find_89 P v3 (L_CD_find_89 P v3 n89) v5 M := hw
      unfold B_CD_find_89 at hw
      refine lv_iload (pc := 89) hx hb d_CD_find_89 (lv_at hl 2 rfl) ?_
      refine lv_bipush (pc := 91) (v := 8) hx hb d_CD_find_91 (by decide) ?_
      refine lv_icmp_ge (pc := 93) (tgt := 113) hx hb d_CD_find_93 (by decide) (fun hc => ?_) (fun hc => ?_)
      · have hw := hw.1 hc
        refine lv_aload_n (pc := 113) hx hb d_CD_find_113 rfl (lv_at hl 0 rfl) ?_
        refine zg_CD_18 (pc := 114) hx hb hta hown hK hZ d_CD_find_114 ?_
        exact z_aret hx hb hr hlocks hK hT hZ hS ⟨hw, rfl⟩ d_CD_find_117
      · have hw := hw.2 hc
        refine lv_aload_n (pc := 96) hx hb d_CD_find_96 rfl (lv_at hl 0 rfl) ?_
        refine zg_CD_18 (pc := 97) hx hb hta hown hK hZ d_CD_find_97 ?_
        refine lv_iload (pc := 100) hx hb d_CD_find_100 (lv_at hl 2 rfl) ?_
        refine lv_dup2_11 (pc := 102) hx hb d_CD_find_102 rfl rfl ?_
        obtain ⟨hc, hw⟩ := hw
        refine z_lald (pc := 103) hx hb hK hZ hc d_CD_find_103 ?_
        refine lv_lload_n (pc := 104) hx hb d_CD_find_104 rfl (lv_at hl 1 rfl) ?_
        refine lv_lmul (pc := 105) hx hb d_CD_find_105 ?_
        obtain ⟨hc, hw⟩ := hw
        refine z_last (pc := 106) hx hb hK hZ hS hc d_CD_find_106 (fun M31 H locs hM31 hZ hS => ?_)
        have hw := hw M31 hM31
        refine lv_iinc (pc := 107) (k := 2) (v := v5 + (1 : Int32)) (lv' := [(5, .int (v5 + (1 : Int32))), (0, .ref (b + 10)), (3, .long v3)]) hx hb d_CD_find_107 hl rfl (by rfl) (by decide) rfl (fun ls hl => ?_)
        refine lv_goto (pc := 110) (tgt := 89) hx hb d_CD_find_110 (by decide) ?_
        exact ih89 (v5 + (1 : Int32)) M31 _ _ _ hZ hS (lv_sub hl [1, 2, 0] rfl) hw
  unfold w_CD_find at hw
  refine lv_aload_n (pc := 0) hx hb d_CD_find_0 rfl (lv_at hl 1 rfl) ?_
  refine lv_aload_n (pc := 1) hx hb d_CD_find_1 rfl (lv_at hl 0 rfl) ?_
  refine zg_CD_9 (pc := 2) hx hb hta hown hK hZ d_CD_find_2 ?_
  refine z_callv (pc := 5) (va_runS (As := [.ref (b + a1), .ref (b + 11)]) (rest := []) ⟨hx, hb, hml, hown, hts⟩ (c_Ro_copyInto l G b a1 11 M N hw) (va_cwS 2 hts (z_good (zgS wd440 wd363 wd13 wd364)) rfl rfl rfl hd_Ro_copyInto ⟨Nat.le_of_ble_eq_true rfl, Nat.le_of_ble_eq_true rfl⟩) (z_preS hZ hK hT hS) rfl rfl hl.1 rfl (lv_room (Nat.le_of_ble_eq_true rfl)) d_CD_find_5 ⟨Nat.le_of_ble_eq_true rfl, Nat.le_of_ble_eq_true rfl⟩) hS (fun M2 N3 H locs hw hZ hS => ?_)
  obtain ⟨hw, eN3⟩ := hw
  rw [eN3] at hZ
  refine lv_aload_n (pc := 8) hx hb d_CD_find_8 rfl (lv_at hl 2 rfl) ?_
  refine lv_aload_n (pc := 9) hx hb d_CD_find_9 rfl (lv_at hl 0 rfl) ?_
  refine zg_CD_15 (pc := 10) hx hb hta hown hK hZ d_CD_find_10 ?_
  refine z_callv (pc := 13) (va_runS (As := [.ref (b + a2), .ref (b + 12)]) (rest := []) ⟨hx, hb, hml, hown, hts⟩ (c_Ro_copyInto l G b a2 12 M2 N hw) (va_cwS 2 hts (z_good (zgS wd440 wd363 wd13 wd364)) rfl rfl rfl hd_Ro_copyInto ⟨Nat.le_of_ble_eq_true rfl, Nat.le_of_ble_eq_true rfl⟩) (z_preS hZ hK hT hS) rfl rfl hl.1 rfl (lv_room (Nat.le_of_ble_eq_true rfl)) d_CD_find_13 ⟨Nat.le_of_ble_eq_true rfl, Nat.le_of_ble_eq_true rfl⟩) hS (fun M5 N6 H locs hw hZ hS => ?_)
  obtain ⟨hw, eN6⟩ := hw
  rw [eN6] at hZ
  refine lv_aload_n (pc := 16) hx hb d_CD_find_16 rfl (lv_at hl 0 rfl) ?_
  refine zg_CD_9 (pc := 17) hx hb hta hown hK hZ d_CD_find_17 ?_
  refine z_calll (pc := 20) (va_runS (As := [.ref (b + 11)]) (rest := []) ⟨hx, hb, hml, hown, hts⟩ (c_Ro_makePrimitive l G b 11 M5 N hw) (va_cwS 1 hts (z_good (zgS wd441 wd442 wd13 wd443)) rfl rfl rfl hd_Ro_makePrimitive ⟨Nat.le_of_ble_eq_true rfl, Nat.le_of_ble_eq_true rfl⟩) (z_preS hZ hK hT hS) rfl rfl hl.1 rfl (lv_room (Nat.le_of_ble_eq_true rfl)) d_CD_find_20 ⟨Nat.le_of_ble_eq_true rfl, Nat.le_of_ble_eq_true rfl⟩) hS (fun r7 M8 N9 H locs hw hZ hS => ?_)
  obtain ⟨hw, eN9⟩ := hw
  rw [eN9] at hZ
  refine lv_aload_n (pc := 23) hx hb d_CD_find_23 rfl (lv_at hl 0 rfl) ?_
  refine zg_CD_15 (pc := 24) hx hb hta hown hK hZ d_CD_find_24 ?_
  refine z_calll (pc := 27) (va_runS (As := [.ref (b + 12)]) (rest := [.long r7]) ⟨hx, hb, hml, hown, hts⟩ (c_Ro_makePrimitive l G b 12 M8 N hw) (va_cwS 1 hts (z_good (zgS wd441 wd442 wd13 wd443)) rfl rfl rfl hd_Ro_makePrimitive ⟨Nat.le_of_ble_eq_true rfl, Nat.le_of_ble_eq_true rfl⟩) (z_preS hZ hK hT hS) rfl rfl hl.1 rfl (lv_room (Nat.le_of_ble_eq_true rfl)) d_CD_find_27 ⟨Nat.le_of_ble_eq_true rfl, Nat.le_of_ble_eq_true rfl⟩) hS (fun r10 M11 N12 H locs hw hZ hS => ?_)
  obtain ⟨hw, eN12⟩ := hw
  rw [eN12] at hZ
  refine z_calll (pc := 30) (va_runS (As := [.long r7, .long r10]) (rest := []) ⟨hx, hb, hml, hown, hts⟩ (c_Ro_greatestDivisor l G b r7 r10 M11 N hw) (va_cwS 2 hts (z_good (zgS wd453 wd448 wd13 wd449)) rfl rfl rfl hd_Ro_greatestDivisor ⟨Nat.le_of_ble_eq_true rfl, Nat.le_of_ble_eq_true rfl⟩) (z_preS hZ hK hT hS) rfl rfl hl.1 rfl (lv_room (Nat.le_of_ble_eq_true rfl)) d_CD_find_30 ⟨Nat.le_of_ble_eq_true rfl, Nat.le_of_ble_eq_true rfl⟩) hS (fun r13 M14 N15 H locs hw hZ hS => ?_)
  obtain ⟨hw, eM14, eN15⟩ := hw
  rw [eM14, eN15] at hZ
  refine lv_lstore_n (pc := 33) (lv' := [(3, .long r13), (0, .ref (b + 10)), (1, .ref (b + a1)), (2, .ref (b + a2))]) hx hb d_CD_find_33 rfl hl (by decide) rfl (fun ls hl => ?_)
  refine lv_aload_n (pc := 34) hx hb d_CD_find_34 rfl (lv_at hl 1 rfl) ?_
  refine zg_CD_15 (pc := 35) hx hb hta hown hK hZ d_CD_find_35 ?_
  refine z_calli (pc := 38) (va_runS (As := [.ref (b + 12)]) (rest := []) ⟨hx, hb, hml, hown, hts⟩ (c_Ro_degreeOf l G b 12 M11 N hw) (va_cwS 1 hts (z_good (zgS wd454 wd312 wd13 wd313)) rfl rfl rfl hd_Ro_degreeOf ⟨Nat.le_of_ble_eq_true rfl, Nat.le_of_ble_eq_true rfl⟩) (z_preS hZ hK hT hS) rfl rfl hl.1 rfl (lv_room (Nat.le_of_ble_eq_true rfl)) d_CD_find_38 ⟨Nat.le_of_ble_eq_true rfl, Nat.le_of_ble_eq_true rfl⟩) hS (fun r16 M17 N18 H locs hw hZ hS => ?_)
  obtain ⟨hw, eM17, eN18⟩ := hw
  rw [eM17, eN18] at hZ
  refine lv_if_ge (pc := 41) (tgt := 58) hx hb d_CD_find_41 (by decide) (fun hc => ?_) (fun hc => ?_)
  · have hw := hw.1 hc
    refine lv_aload_n (pc := 58) hx hb d_CD_find_58 rfl (lv_at hl 1 rfl) ?_
    refine zg_CD_9 (pc := 59) hx hb hta hown hK hZ d_CD_find_59 ?_
    refine z_calli (pc := 62) (va_runS (As := [.ref (b + 11)]) (rest := []) ⟨hx, hb, hml, hown, hts⟩ (c_Ro_degreeOf l G b 11 M11 N hw) (va_cwS 1 hts (z_good (zgS wd454 wd312 wd13 wd313)) rfl rfl rfl hd_Ro_degreeOf ⟨Nat.le_of_ble_eq_true rfl, Nat.le_of_ble_eq_true rfl⟩) (z_preS hZ hK hT hS) rfl rfl hl.1 rfl (lv_room (Nat.le_of_ble_eq_true rfl)) d_CD_find_62 ⟨Nat.le_of_ble_eq_true rfl, Nat.le_of_ble_eq_true rfl⟩) hS (fun r19 M20 N21 H locs hw hZ hS => ?_)
    obtain ⟨hw, eM20, eN21⟩ := hw
    rw [eM20, eN21] at hZ
    refine lv_if_ge (pc := 65) (tgt := 82) hx hb d_CD_find_65 (by decide) (fun hc => ?_) (fun hc => ?_)
    · have hw := hw.1 hc
      refine lv_aload_n (pc := 82) hx hb d_CD_find_82 rfl (lv_at hl 1 rfl) ?_
      refine z_callv (pc := 83) (va_runV (C := R_CD) (b := b + 10) (As := []) (rest := []) ⟨hx, hb, hml, hown, hts⟩ (c_CD_findPrimitive l G b  M11 N hw) (cwV 0 hts (z_good (zgV wd455 wd457 wsel2 wd3 wd458)) rfl rfl rfl ⟨rfl, hd_CD_findPrimitive⟩ ⟨Nat.le_of_ble_eq_true rfl, Nat.le_of_ble_eq_true rfl⟩) (z_preV zo_CD rfl rfl hZ hK hT hS) rfl rfl hl.1 rfl (lv_room (Nat.le_of_ble_eq_true rfl)) d_CD_find_83 ⟨Nat.le_of_ble_eq_true rfl, Nat.le_of_ble_eq_true rfl⟩) hS (fun M23 N24 H locs hw hZ hS => ?_)
      obtain ⟨hw, eN24⟩ := hw
      rw [eN24] at hZ
      refine lv_iconst (pc := 86) (v := 0) hx hb d_CD_find_86 (by decide) ?_
      refine lv_istore (pc := 87) (lv' := [(5, .int (0 : Int32)), (3, .long r13), (0, .ref (b + 10)), (1, .ref (b + a1)), (2, .ref (b + a2))]) hx hb d_CD_find_87 hl (by decide) rfl (fun ls hl => ?_)
      obtain ⟨n, hw⟩ := hw
      exact lp89 r13 n (0 : Int32) M23 _ _ _ hZ hS (lv_sub hl [2, 1, 0] rfl) hw
    · have hw := hw.2 hc
      refine lv_aload_n (pc := 68) hx hb d_CD_find_68 rfl (lv_at hl 1 rfl) ?_
      refine zg_CD_15 (pc := 69) hx hb hta hown hK hZ d_CD_find_69 ?_
      refine lv_aload_n (pc := 72) hx hb d_CD_find_72 rfl (lv_at hl 1 rfl) ?_
      refine zg_CD_18 (pc := 73) hx hb hta hown hK hZ d_CD_find_73 ?_
      refine z_callv (pc := 76) (va_runS (As := [.ref (b + 12), .ref (b + 13)]) (rest := []) ⟨hx, hb, hml, hown, hts⟩ (c_Ro_copyInto l G b 12 13 M11 N hw) (va_cwS 2 hts (z_good (zgS wd440 wd363 wd13 wd364)) rfl rfl rfl hd_Ro_copyInto ⟨Nat.le_of_ble_eq_true rfl, Nat.le_of_ble_eq_true rfl⟩) (z_preS hZ hK hT hS) rfl rfl hl.1 rfl (lv_room (Nat.le_of_ble_eq_true rfl)) d_CD_find_76 ⟨Nat.le_of_ble_eq_true rfl, Nat.le_of_ble_eq_true rfl⟩) hS (fun M26 N27 H locs hw hZ hS => ?_)
      obtain ⟨hw, eN27⟩ := hw
      rw [eN27] at hZ
      refine lv_goto (pc := 79) (tgt := 86) hx hb d_CD_find_79 (by decide) ?_
      refine lv_iconst (pc := 86) (v := 0) hx hb d_CD_find_86 (by decide) ?_
      refine lv_istore (pc := 87) (lv' := [(5, .int (0 : Int32)), (3, .long r13), (0, .ref (b + 10)), (1, .ref (b + a1)), (2, .ref (b + a2))]) hx hb d_CD_find_87 hl (by decide) rfl (fun ls hl => ?_)
      obtain ⟨n, hw⟩ := hw
      exact lp89 r13 n (0 : Int32) M26 _ _ _ hZ hS (lv_sub hl [2, 1, 0] rfl) hw
  · have hw := hw.2 hc
    refine lv_aload_n (pc := 44) hx hb d_CD_find_44 rfl (lv_at hl 1 rfl) ?_
    refine zg_CD_9 (pc := 45) hx hb hta hown hK hZ d_CD_find_45 ?_
    refine lv_aload_n (pc := 48) hx hb d_CD_find_48 rfl (lv_at hl 1 rfl) ?_
    refine zg_CD_18 (pc := 49) hx hb hta hown hK hZ d_CD_find_49 ?_
    refine z_callv (pc := 52) (va_runS (As := [.ref (b + 11), .ref (b + 13)]) (rest := []) ⟨hx, hb, hml, hown, hts⟩ (c_Ro_copyInto l G b 11 13 M11 N hw) (va_cwS 2 hts (z_good (zgS wd440 wd363 wd13 wd364)) rfl rfl rfl hd_Ro_copyInto ⟨Nat.le_of_ble_eq_true rfl, Nat.le_of_ble_eq_true rfl⟩) (z_preS hZ hK hT hS) rfl rfl hl.1 rfl (lv_room (Nat.le_of_ble_eq_true rfl)) d_CD_find_52 ⟨Nat.le_of_ble_eq_true rfl, Nat.le_of_ble_eq_true rfl⟩) hS (fun M29 N30 H locs hw hZ hS => ?_)
    obtain ⟨hw, eN30⟩ := hw
    rw [eN30] at hZ
    refine lv_goto (pc := 55) (tgt := 86) hx hb d_CD_find_55 (by decide) ?_
    refine lv_iconst (pc := 86) (v := 0) hx hb d_CD_find_86 (by decide) ?_
    refine lv_istore (pc := 87) (lv' := [(5, .int (0 : Int32)), (3, .long r13), (0, .ref (b + 10)), (1, .ref (b + a1)), (2, .ref (b + a2))]) hx hb d_CD_find_87 hl (by decide) rfl (fun ls hl => ?_)
    obtain ⟨n, hw⟩ := hw
    exact lp89 r13 n (0 : Int32) M29 _ _ _ hZ hS (lv_sub hl [2, 1, 0] rfl) hw
theorem zg_IS_27 {p : Program} {l : Launch} {e : Env} {R : Room} {s : State} {m : MethodId} {args : Array Value} {below : List Frame} {meth : Method} {c : Code} {H : Heap} {locs : List Loc} {cells slots : Nat} {Q : State → Prop} {cc : ByteArray} {pc : Nat} {ls : Array Slot} {rest : List Value} {G : zG} {b : Nat} {M : zM} {N : zN} (hx : p.tables.exec = Jvm.exec) (hb : c.code = cc) (hta : ∀ w ∈ zall, w.before args s = true) (hown : s.vm.findClass R_IS = some m.cls) (hK : va_K G.1 zCl (zty G) s) (hZ : va_P G.1 zCl (zws G b M N) H) (hdg : decode cc pc = .ok (.getfield 27, 3)) (kk : W p l e R s m args below meth c H locs cells slots Q (F0 m (pc + 3) ls (.ref (b + 9) :: rest))) : W p l e R s m args below meth c H locs cells slots Q (F0 m pc ls (.ref (b + 0) :: rest)) :=
  va_get (D := G.1) (ci := 5) (v := .ref (b + 9)) (C := R_IS) (T := T_IS) (N := 7) hx hb hta hin_IS hown hK hZ 0 zo_IS rfl 4 (by decide) (hta _ wd192) (fun _ h9 => h9) rfl hdg kk
theorem zg_IS_83 {p : Program} {l : Launch} {e : Env} {R : Room} {s : State} {m : MethodId} {args : Array Value} {below : List Frame} {meth : Method} {c : Code} {H : Heap} {locs : List Loc} {cells slots : Nat} {Q : State → Prop} {cc : ByteArray} {pc : Nat} {ls : Array Slot} {rest : List Value} {G : zG} {b : Nat} {M : zM} {N : zN} (hx : p.tables.exec = Jvm.exec) (hb : c.code = cc) (hta : ∀ w ∈ zall, w.before args s = true) (hown : s.vm.findClass R_IS = some m.cls) (hK : va_K G.1 zCl (zty G) s) (hZ : va_P G.1 zCl (zws G b M N) H) (hdg : decode cc pc = .ok (.getfield 83, 3)) (kk : W p l e R s m args below meth c H locs cells slots Q (F0 m (pc + 3) ls (.ref (b + 10) :: rest))) : W p l e R s m args below meth c H locs cells slots Q (F0 m pc ls (.ref (b + 9) :: rest)) :=
  va_get (D := G.1) (ci := 4) (v := .ref (b + 10)) (C := R_Sp) (T := T_Sp) (N := 9) hx hb hta hin_Sp hown hK hZ 9 zo_Sp rfl 0 (by decide) (hta _ wd135) (fun _ h9 => h9) rfl hdg kk
theorem d_IS_common_0 : decode prog_1_method_10_code 0 = .ok (.iload_n 1, 1) := by decide +kernel
theorem d_IS_common_1 : decode prog_1_method_10_code 1 = .ok (.invokestatic 41, 3) := by decide +kernel
theorem d_IS_common_4 : decode prog_1_method_10_code 4 = .ok (.iload_n 2, 1) := by decide +kernel
theorem d_IS_common_5 : decode prog_1_method_10_code 5 = .ok (.invokestatic 41, 3) := by decide +kernel
theorem d_IS_common_8 : decode prog_1_method_10_code 8 = .ok (.iload_n 3, 1) := by decide +kernel
theorem d_IS_common_9 : decode prog_1_method_10_code 9 = .ok (.invokestatic 41, 3) := by decide +kernel
theorem d_IS_common_12 : decode prog_1_method_10_code 12 = .ok (.aload_n 0, 1) := by decide +kernel
theorem d_IS_common_13 : decode prog_1_method_10_code 13 = .ok (.iload_n 1, 1) := by decide +kernel
theorem d_IS_common_14 : decode prog_1_method_10_code 14 = .ok (.aload_n 0, 1) := by decide +kernel
theorem d_IS_common_15 : decode prog_1_method_10_code 15 = .ok (.getfield 27, 3) := by decide +kernel
theorem d_IS_common_18 : decode prog_1_method_10_code 18 = .ok (.getfield 83, 3) := by decide +kernel
theorem d_IS_common_21 : decode prog_1_method_10_code 21 = .ok (.aload_n 0, 1) := by decide +kernel
theorem d_IS_common_22 : decode prog_1_method_10_code 22 = .ok (.getfield 11, 3) := by decide +kernel
theorem d_IS_common_25 : decode prog_1_method_10_code 25 = .ok (.iload_n 2, 1) := by decide +kernel
theorem d_IS_common_26 : decode prog_1_method_10_code 26 = .ok (.aaload, 1) := by decide +kernel
theorem d_IS_common_27 : decode prog_1_method_10_code 27 = .ok (.aload_n 0, 1) := by decide +kernel
theorem d_IS_common_28 : decode prog_1_method_10_code 28 = .ok (.getfield 11, 3) := by decide +kernel
theorem d_IS_common_31 : decode prog_1_method_10_code 31 = .ok (.iload_n 3, 1) := by decide +kernel
theorem d_IS_common_32 : decode prog_1_method_10_code 32 = .ok (.aaload, 1) := by decide +kernel
theorem d_IS_common_33 : decode prog_1_method_10_code 33 = .ok (.invokevirtual 87, 3) := by decide +kernel
theorem d_IS_common_36 : decode prog_1_method_10_code 36 = .ok (.invokevirtual 65, 3) := by decide +kernel
theorem d_IS_common_39 : decode prog_1_method_10_code 39 = .ok (.ireturn, 1) := by decide +kernel
def w_IS_common (a1 : Int32) (a2 : Int32) (a3 : Int32) (M : zM) (P : Int32 → zM → Prop) (X : Nat → zM → Prop) : Prop := w_IS_requireRegister a1  (w_IS_requireRegister a2  (w_IS_requireRegister a3  (vp_in a2 (zgn 1) ∧ vp_in a3 (zgn 1) ∧ w_CD_find (1 + 1 + a2.toNatClampNeg) (1 + 1 + a3.toNatClampNeg) M (fun r10 M11 => w_IS_keep a1 r10 M11 (fun r13 M14 => P r13 M14) (fun k M16 => X k M16))) (fun k => X k M)) (fun k => X k M)) (fun k => X k M)
def ws_IS_common : List Cond := .code y_IS_common prog_1_method_10_code 4 (Option.some Jvm.ClassFile.FieldType.int) :: zall
def rm_IS_common : Room := { frames := 7, cells := 4, slots := 24, locals := 140 }
theorem hd_IS_common : y_IS_common.cls ≠ "java/lang/invoke/MethodHandle" ∧ y_IS_common.cls ≠ "java/lang/invoke/VarHandle" ∧ (parseMethodDescriptor y_IS_common.desc).map (fun d => d.parameters.length) = some 3 := by decide +kernel
set_option maxHeartbeats 4000000 in
set_option maxRecDepth 100000 in
theorem c_IS_common (l : Launch) (hst : l.stackTraces = false) (G : zG) (b : Nat) (a1 : Int32) (a2 : Int32) (a3 : Int32) (M : zM) (N : zN) {P : Int32 → zM → Prop} {X : Nat → zM → Prop} (hw : w_IS_common a1 a2 a3 M P X) : vx_Met l y_IS_common ws_IS_common rm_IS_common (zPc G b M N [.ref (b + 0), .int a1, .int a2, .int a3]) (zQi G b (fun r M' N' => P r M' ∧ N' = N)) (zXC G b (fun k M' N' => X k M' ∧ N' = N)) 4 24 (zA b) := by
  refine vx_ofW (cc := prog_1_method_10_code) (maxL := 4) (ret := (Option.some Jvm.ClassFile.FieldType.int)) (by decide) rfl ?_
  intro p e s m args below meth c s₁ B hml hno hv
  obtain ⟨rfl, hZ, hK, hT⟩ := hv
  have hx := B.exec
  have hb := B.bytes
  have hr := B.returns
  have hts := atoms_spec (ws := ws_IS_common) B.pre
  have hta : ∀ w ∈ zall, w.before ([.ref (b + 0), .int a1, .int a2, .int a3] : List Value).toArray s = true := fun w h => hts w (List.mem_cons_of_mem _ h)
  have hown : s.vm.findClass R_IS = some m.cls := findClass_of_methodNamed B.named
  have hlocks := B.notSynchronized
  have hS : va_S (zA b) s.heap s.heap [] := va_S.rf
  have hl := lv_entry ([.ref (b + 0), .int a1, .int a2, .int a3]) (n := 4) (Nat.le_of_ble_eq_true rfl)
  rw [lg_entry_eq]
  generalize (lg_sl ([.ref (b + 0), .int a1, .int a2, .int a3]) ++ List.replicate (4 - (lg_sl ([.ref (b + 0), .int a1, .int a2, .int a3])).length) Slot.unset).toArray = ls at hl ⊢
  have hl : lv_has ls 4 [(0, .ref (b + 0)), (1, .int a1), (2, .int a2), (3, .int a3)] := hl
  unfold w_IS_common at hw
  refine lv_iload_n (pc := 0) hx hb d_IS_common_0 rfl (lv_at hl 1 rfl) ?_
  refine z_xcallv (pc := 1) (vx_runS (As := [.int a1]) (rest := []) ⟨hx, hb, hml, hown, hts⟩ (c_IS_requireRegister l hst G b a1 M N hw) (va_cwS 1 hts (z_good (zgS wd223 wd224 wd1 wd225)) rfl rfl rfl hd_IS_requireRegister ⟨Nat.le_of_ble_eq_true rfl, Nat.le_of_ble_eq_true rfl⟩) (z_preS hZ hK hT hS) rfl rfl hl.1 rfl (lv_room (Nat.le_of_ble_eq_true rfl)) d_IS_common_1 ⟨Nat.le_of_ble_eq_true rfl, Nat.le_of_ble_eq_true rfl⟩) hS (fun k q ce M22 N23 H locs hw hZ hS h1 h2 h3 => ?_) (fun M2 N3 H locs hw hZ hS => ?_)
  · obtain ⟨hw, eM22, eN23⟩ := hw
    rw [eM22, eN23] at hZ
    exact z_xout hno hlocks hK hT hZ hS h1 h2 h3 ⟨hw, rfl⟩ (by decide) (by decide)
  · obtain ⟨hw, eM2, eN3⟩ := hw
    rw [eM2, eN3] at hZ
    refine lv_iload_n (pc := 4) hx hb d_IS_common_4 rfl (lv_at hl 2 rfl) ?_
    refine z_xcallv (pc := 5) (vx_runS (As := [.int a2]) (rest := []) ⟨hx, hb, hml, hown, hts⟩ (c_IS_requireRegister l hst G b a2 M N hw) (va_cwS 1 hts (z_good (zgS wd223 wd224 wd1 wd225)) rfl rfl rfl hd_IS_requireRegister ⟨Nat.le_of_ble_eq_true rfl, Nat.le_of_ble_eq_true rfl⟩) (z_preS hZ hK hT hS) rfl rfl hl.1 rfl (lv_room (Nat.le_of_ble_eq_true rfl)) d_IS_common_5 ⟨Nat.le_of_ble_eq_true rfl, Nat.le_of_ble_eq_true rfl⟩) hS (fun k q ce M20 N21 H locs hw hZ hS h1 h2 h3 => ?_) (fun M5 N6 H locs hw hZ hS => ?_)
    · obtain ⟨hw, eM20, eN21⟩ := hw
      rw [eM20, eN21] at hZ
      exact z_xout hno hlocks hK hT hZ hS h1 h2 h3 ⟨hw, rfl⟩ (by decide) (by decide)
    · obtain ⟨hw, eM5, eN6⟩ := hw
      rw [eM5, eN6] at hZ
      refine lv_iload_n (pc := 8) hx hb d_IS_common_8 rfl (lv_at hl 3 rfl) ?_
      refine z_xcallv (pc := 9) (vx_runS (As := [.int a3]) (rest := []) ⟨hx, hb, hml, hown, hts⟩ (c_IS_requireRegister l hst G b a3 M N hw) (va_cwS 1 hts (z_good (zgS wd223 wd224 wd1 wd225)) rfl rfl rfl hd_IS_requireRegister ⟨Nat.le_of_ble_eq_true rfl, Nat.le_of_ble_eq_true rfl⟩) (z_preS hZ hK hT hS) rfl rfl hl.1 rfl (lv_room (Nat.le_of_ble_eq_true rfl)) d_IS_common_9 ⟨Nat.le_of_ble_eq_true rfl, Nat.le_of_ble_eq_true rfl⟩) hS (fun k q ce M18 N19 H locs hw hZ hS h1 h2 h3 => ?_) (fun M8 N9 H locs hw hZ hS => ?_)
      · obtain ⟨hw, eM18, eN19⟩ := hw
        rw [eM18, eN19] at hZ
        exact z_xout hno hlocks hK hT hZ hS h1 h2 h3 ⟨hw, rfl⟩ (by decide) (by decide)
      · obtain ⟨hw, eM8, eN9⟩ := hw
        rw [eM8, eN9] at hZ
        refine lv_aload_n (pc := 12) hx hb d_IS_common_12 rfl (lv_at hl 0 rfl) ?_
        refine lv_iload_n (pc := 13) hx hb d_IS_common_13 rfl (lv_at hl 1 rfl) ?_
        refine lv_aload_n (pc := 14) hx hb d_IS_common_14 rfl (lv_at hl 0 rfl) ?_
        refine zg_IS_27 (pc := 15) hx hb hta hown hK hZ d_IS_common_15 ?_
        refine zg_IS_83 (pc := 18) hx hb hta hown hK hZ d_IS_common_18 ?_
        refine lv_aload_n (pc := 21) hx hb d_IS_common_21 rfl (lv_at hl 0 rfl) ?_
        refine zg_IS_11 (pc := 22) hx hb hta hown hK hZ d_IS_common_22 ?_
        refine lv_iload_n (pc := 25) hx hb d_IS_common_25 rfl (lv_at hl 2 rfl) ?_
        obtain ⟨hc, hw⟩ := hw
        refine z_aald (pc := 26) hx hb hK hZ hc d_IS_common_26 ?_
        refine lv_aload_n (pc := 27) hx hb d_IS_common_27 rfl (lv_at hl 0 rfl) ?_
        refine zg_IS_11 (pc := 28) hx hb hta hown hK hZ d_IS_common_28 ?_
        refine lv_iload_n (pc := 31) hx hb d_IS_common_31 rfl (lv_at hl 3 rfl) ?_
        obtain ⟨hc, hw⟩ := hw
        refine z_aald (pc := 32) hx hb hK hZ hc d_IS_common_32 ?_
        refine z_callr (pc := 33) (va_runV (C := R_CD) (b := b + 10) (As := [.ref (b + (1 + 1 + a2.toNatClampNeg)), .ref (b + (1 + 1 + a3.toNatClampNeg))]) (rest := [.int a1, .ref (b + 0)]) ⟨hx, hb, hml, hown, hts⟩ (c_CD_find l G b (1 + 1 + a2.toNatClampNeg) (1 + 1 + a3.toNatClampNeg) M N hw) (cwV 2 hts (z_good (zgV wd436 wd437 wd438 wd3 wd439)) rfl rfl rfl ⟨rfl, hd_CD_find⟩ ⟨Nat.le_of_ble_eq_true rfl, Nat.le_of_ble_eq_true rfl⟩) (z_preV zo_CD rfl rfl hZ hK hT hS) rfl rfl hl.1 rfl (lv_room (Nat.le_of_ble_eq_true rfl)) d_IS_common_33 ⟨Nat.le_of_ble_eq_true rfl, Nat.le_of_ble_eq_true rfl⟩) hS (fun r10 M11 N12 H locs hw hZ hS => ?_)
        obtain ⟨hw, eN12⟩ := hw
        rw [eN12] at hZ
        refine z_xcalli (pc := 36) (vx_runV (C := R_IS) (b := b + 0) (As := [.int a1, .ref (b + r10)]) (rest := []) ⟨hx, hb, hml, hown, hts⟩ (c_IS_keep l hst G b a1 r10 M11 N hw) (cwV 2 hts (z_good (zgV wd339 wd341 wsel1 wd1 wd342)) rfl rfl rfl ⟨rfl, hd_IS_keep⟩ ⟨Nat.le_of_ble_eq_true rfl, Nat.le_of_ble_eq_true rfl⟩) (z_preV zo_IS rfl rfl hZ hK hT hS) rfl rfl hl.1 rfl (lv_room (Nat.le_of_ble_eq_true rfl)) d_IS_common_36 ⟨Nat.le_of_ble_eq_true rfl, Nat.le_of_ble_eq_true rfl⟩) hS (fun k q ce M16 N17 H locs hw hZ hS h1 h2 h3 => ?_) (fun r13 M14 N15 H locs hw hZ hS => ?_)
        · obtain ⟨hw, eN17⟩ := hw
          rw [eN17] at hZ
          exact z_xout hno hlocks hK hT hZ hS h1 h2 h3 ⟨hw, rfl⟩ (by decide) (by decide)
        · obtain ⟨hw, eN15⟩ := hw
          rw [eN15] at hZ
          refine W.widen (k := 4) (n := 24) (by decide) (by decide) ?_
          exact vx_ret (z_iret hx hb hr hlocks hK hT hZ hS ⟨hw, rfl⟩ d_IS_common_39)
theorem d_IS_value_0 : decode prog_1_method_11_code 0 = .ok (.iload_n 1, 1) := by decide +kernel
theorem d_IS_value_1 : decode prog_1_method_11_code 1 = .ok (.invokestatic 41, 3) := by decide +kernel
theorem d_IS_value_4 : decode prog_1_method_11_code 4 = .ok (.iload_n 2, 1) := by decide +kernel
theorem d_IS_value_5 : decode prog_1_method_11_code 5 = .ok (.invokestatic 73, 3) := by decide +kernel
theorem d_IS_value_8 : decode prog_1_method_11_code 8 = .ok (.lconst 0, 1) := by decide +kernel
theorem d_IS_value_9 : decode prog_1_method_11_code 9 = .ok (.lstore_n 3, 1) := by decide +kernel
theorem d_IS_value_10 : decode prog_1_method_11_code 10 = .ok (.bipush 7, 2) := by decide +kernel
theorem d_IS_value_12 : decode prog_1_method_11_code 12 = .ok (.istore 5, 2) := by decide +kernel
theorem d_IS_value_14 : decode prog_1_method_11_code 14 = .ok (.iload 5, 2) := by decide +kernel
theorem d_IS_value_16 : decode prog_1_method_11_code 16 = .ok (.ifCond .lt 24, 3) := by decide +kernel
theorem d_IS_value_19 : decode prog_1_method_11_code 19 = .ok (.lload_n 3, 1) := by decide +kernel
theorem d_IS_value_20 : decode prog_1_method_11_code 20 = .ok (.iload_n 2, 1) := by decide +kernel
theorem d_IS_value_21 : decode prog_1_method_11_code 21 = .ok (.i2l, 1) := by decide +kernel
theorem d_IS_value_22 : decode prog_1_method_11_code 22 = .ok (.lmul, 1) := by decide +kernel
theorem d_IS_value_23 : decode prog_1_method_11_code 23 = .ok (.aload_n 0, 1) := by decide +kernel
theorem d_IS_value_24 : decode prog_1_method_11_code 24 = .ok (.getfield 11, 3) := by decide +kernel
theorem d_IS_value_27 : decode prog_1_method_11_code 27 = .ok (.iload_n 1, 1) := by decide +kernel
theorem d_IS_value_28 : decode prog_1_method_11_code 28 = .ok (.aaload, 1) := by decide +kernel
theorem d_IS_value_29 : decode prog_1_method_11_code 29 = .ok (.iload 5, 2) := by decide +kernel
theorem d_IS_value_31 : decode prog_1_method_11_code 31 = .ok (.laload, 1) := by decide +kernel
theorem d_IS_value_32 : decode prog_1_method_11_code 32 = .ok (.ladd, 1) := by decide +kernel
theorem d_IS_value_33 : decode prog_1_method_11_code 33 = .ok (.lstore_n 3, 1) := by decide +kernel
theorem d_IS_value_34 : decode prog_1_method_11_code 34 = .ok (.iinc 5 (-1), 3) := by decide +kernel
theorem d_IS_value_37 : decode prog_1_method_11_code 37 = .ok (.goto (-23), 3) := by decide +kernel
theorem d_IS_value_40 : decode prog_1_method_11_code 40 = .ok (.lload_n 3, 1) := by decide +kernel
theorem d_IS_value_41 : decode prog_1_method_11_code 41 = .ok (.lreturn, 1) := by decide +kernel
def B_IS_value_14 (P : Int64 → Prop) (X : Nat → Prop) (a1 : Int32) (a2 : Int32) (M : zM) (k14 : Int64 → Int32 → Prop) (v3 : Int64) (v5 : Int32) : Prop := (v5 < 0 → P v3) ∧ (¬ v5 < 0 → vp_in a1 (zgn 1) ∧ vp_in v5 (zlong (1 + 1 + a1.toNatClampNeg)) ∧ ∀ x11 : Int64, x11 = (v3 * a2.toInt64) + (M (1 + 1 + a1.toNatClampNeg) v5.toNatClampNeg) → k14 x11 (v5 + (-1 : Int32)))
def L_IS_value_14 (P : Int64 → Prop) (X : Nat → Prop) (a1 : Int32) (a2 : Int32) (M : zM) (n : Nat) : Int64 → Int32 → Prop := Nat.rec (fun _ _ => False) (fun _ k => B_IS_value_14 P X a1 a2 M k) n
def w_IS_value (a1 : Int32) (a2 : Int32) (M : zM) (P : Int64 → Prop) (X : Nat → Prop) : Prop := w_IS_requireRegister a1  (w_IS_requireNear a2  (∃ n, L_IS_value_14 P X a1 a2 M n (0 : Int64) (7 : Int32)) (fun k => X k)) (fun k => X k)
def ws_IS_value : List Cond := .code y_IS_value prog_1_method_11_code 6 (Option.some Jvm.ClassFile.FieldType.long) :: zall
def rm_IS_value : Room := { frames := 7, cells := 2, slots := 12, locals := 109 }
theorem hd_IS_value : y_IS_value.cls ≠ "java/lang/invoke/MethodHandle" ∧ y_IS_value.cls ≠ "java/lang/invoke/VarHandle" ∧ (parseMethodDescriptor y_IS_value.desc).map (fun d => d.parameters.length) = some 2 := by decide +kernel
set_option maxHeartbeats 4000000 in
set_option maxRecDepth 100000 in
theorem c_IS_value (l : Launch) (hst : l.stackTraces = false) (G : zG) (b : Nat) (a1 : Int32) (a2 : Int32) (M : zM) (N : zN) {P : Int64 → Prop} {X : Nat → Prop} (hw : w_IS_value a1 a2 M P X) : vx_Met l y_IS_value ws_IS_value rm_IS_value (zPc G b M N [.ref (b + 0), .int a1, .int a2]) (zQl G b (fun r M' N' => P r ∧ M' = M ∧ N' = N)) (zXC G b (fun k M' N' => X k ∧ M' = M ∧ N' = N)) 2 12 (zA b) := by
  refine vx_ofW (cc := prog_1_method_11_code) (maxL := 6) (ret := (Option.some Jvm.ClassFile.FieldType.long)) (by decide) rfl ?_
  intro p e s m args below meth c s₁ B hml hno hv
  obtain ⟨rfl, hZ, hK, hT⟩ := hv
  have hx := B.exec
  have hb := B.bytes
  have hr := B.returns
  have hts := atoms_spec (ws := ws_IS_value) B.pre
  have hta : ∀ w ∈ zall, w.before ([.ref (b + 0), .int a1, .int a2] : List Value).toArray s = true := fun w h => hts w (List.mem_cons_of_mem _ h)
  have hown : s.vm.findClass R_IS = some m.cls := findClass_of_methodNamed B.named
  have hlocks := B.notSynchronized
  have hS : va_S (zA b) s.heap s.heap [] := va_S.rf
  have hl := lv_entry ([.ref (b + 0), .int a1, .int a2]) (n := 6) (Nat.le_of_ble_eq_true rfl)
  rw [lg_entry_eq]
  generalize (lg_sl ([.ref (b + 0), .int a1, .int a2]) ++ List.replicate (6 - (lg_sl ([.ref (b + 0), .int a1, .int a2])).length) Slot.unset).toArray = ls at hl ⊢
  have hl : lv_has ls 6 [(0, .ref (b + 0)), (1, .int a1), (2, .int a2)] := hl
  have lp14 : ∀ (n : Nat) (v3 : Int64) (v5 : Int32) (H : Heap) (ls : Array Slot) (locs : List Loc), va_P G.1 zCl (zws G b M N) H → va_S (zA b) s.heap H locs → lv_has ls 6 [(0, .ref (b + 0)), (1, .int a1), (2, .int a2), (3, .long v3), (5, .int v5)] → L_IS_value_14 P X a1 a2 M n v3 v5 → W p l e (headSpec ws_IS_value rm_IS_value).room s m ([.ref (b + 0), .int a1, .int a2] : List Value).toArray below meth c H locs 2 12 (vx_MQ below (zQl G b (fun r M' N' => P r ∧ M' = M ∧ N' = N)) (zXC G b (fun k M' N' => X k ∧ M' = M ∧ N' = N)) ([.ref (b + 0), .int a1, .int a2] : List Value).toArray s 2 12 (zA b)) (F0 m 14 ls []) := by
    intro  n
    induction n with
    | zero => intro v3 v5 H ls locs hZ hS hl hw; exact False.elim hw
    | succ n14 ih14 =>
      intro v3 v5 H ls locs hZ hS hl hw
      have hw : B_IS_value_14 P X a1 a2 M (L_IS_value_14 P X a1 a2 M n14) v3 v5 := hw
      unfold B_IS_value_14 at hw
      refine lv_iload (pc := 14) hx hb d_IS_value_14 (lv_at hl 4 rfl) ?_
      refine lv_if_lt (pc := 16) (tgt := 40) hx hb d_IS_value_16 (by decide) (fun hc => ?_) (fun hc => ?_)
      · have hw := hw.1 hc
        refine lv_lload_n (pc := 40) hx hb d_IS_value_40 rfl (lv_at hl 3 rfl) ?_
        refine W.widen (k := 2) (n := 12) (by decide) (by decide) ?_
        exact vx_ret (z_lret hx hb hr hlocks hK hT hZ hS ⟨hw, rfl, rfl⟩ d_IS_value_41)
      · have hw := hw.2 hc
        refine lv_lload_n (pc := 19) hx hb d_IS_value_19 rfl (lv_at hl 3 rfl) ?_
        refine lv_iload_n (pc := 20) hx hb d_IS_value_20 rfl (lv_at hl 2 rfl) ?_
        refine lv_i2l (pc := 21) (v := a2.toInt64) hx hb d_IS_value_21 rfl ?_
        refine lv_lmul (pc := 22) hx hb d_IS_value_22 ?_
        refine lv_aload_n (pc := 23) hx hb d_IS_value_23 rfl (lv_at hl 0 rfl) ?_
        refine zg_IS_11 (pc := 24) hx hb hta hown hK hZ d_IS_value_24 ?_
        refine lv_iload_n (pc := 27) hx hb d_IS_value_27 rfl (lv_at hl 1 rfl) ?_
        obtain ⟨hc, hw⟩ := hw
        refine z_aald (pc := 28) hx hb hK hZ hc d_IS_value_28 ?_
        refine lv_iload (pc := 29) hx hb d_IS_value_29 (lv_at hl 4 rfl) ?_
        obtain ⟨hc, hw⟩ := hw
        refine z_lald (pc := 31) hx hb hK hZ hc d_IS_value_31 ?_
        refine lv_ladd (pc := 32) hx hb d_IS_value_32 ?_
        refine lv_topl (fun x11 hx11 => ?_)
        have hw := hw x11 hx11
        refine lv_lstore_n (pc := 33) (lv' := [(3, .long x11), (0, .ref (b + 0)), (1, .int a1), (2, .int a2), (5, .int v5)]) hx hb d_IS_value_33 rfl hl (by decide) rfl (fun ls hl => ?_)
        refine lv_iinc (pc := 34) (k := 4) (v := v5 + (-1 : Int32)) (lv' := [(5, .int (v5 + (-1 : Int32))), (3, .long x11), (0, .ref (b + 0)), (1, .int a1), (2, .int a2)]) hx hb d_IS_value_34 hl rfl (by rfl) (by decide) rfl (fun ls hl => ?_)
        refine lv_goto (pc := 37) (tgt := 14) hx hb d_IS_value_37 (by decide) ?_
        exact ih14 x11 (v5 + (-1 : Int32)) _ _ _ hZ hS (lv_sub hl [2, 3, 4, 1, 0] rfl) hw
  unfold w_IS_value at hw
  refine lv_iload_n (pc := 0) hx hb d_IS_value_0 rfl (lv_at hl 1 rfl) ?_
  refine z_xcallv (pc := 1) (vx_runS (As := [.int a1]) (rest := []) ⟨hx, hb, hml, hown, hts⟩ (c_IS_requireRegister l hst G b a1 M N hw) (va_cwS 1 hts (z_good (zgS wd223 wd224 wd1 wd225)) rfl rfl rfl hd_IS_requireRegister ⟨Nat.le_of_ble_eq_true rfl, Nat.le_of_ble_eq_true rfl⟩) (z_preS hZ hK hT hS) rfl rfl hl.1 rfl (lv_room (Nat.le_of_ble_eq_true rfl)) d_IS_value_1 ⟨Nat.le_of_ble_eq_true rfl, Nat.le_of_ble_eq_true rfl⟩) hS (fun k q ce M9 N10 H locs hw hZ hS h1 h2 h3 => ?_) (fun M2 N3 H locs hw hZ hS => ?_)
  · obtain ⟨hw, eM9, eN10⟩ := hw
    rw [eM9, eN10] at hZ
    exact z_xout hno hlocks hK hT hZ hS h1 h2 h3 ⟨hw, rfl, rfl⟩ (by decide) (by decide)
  · obtain ⟨hw, eM2, eN3⟩ := hw
    rw [eM2, eN3] at hZ
    refine lv_iload_n (pc := 4) hx hb d_IS_value_4 rfl (lv_at hl 2 rfl) ?_
    refine z_xcallv (pc := 5) (vx_runS (As := [.int a2]) (rest := []) ⟨hx, hb, hml, hown, hts⟩ (c_IS_requireNear l hst G b a2 M N hw) (va_cwS 1 hts (z_good (zgS wd392 wd393 wd1 wd394)) rfl rfl rfl hd_IS_requireNear ⟨Nat.le_of_ble_eq_true rfl, Nat.le_of_ble_eq_true rfl⟩) (z_preS hZ hK hT hS) rfl rfl hl.1 rfl (lv_room (Nat.le_of_ble_eq_true rfl)) d_IS_value_5 ⟨Nat.le_of_ble_eq_true rfl, Nat.le_of_ble_eq_true rfl⟩) hS (fun k q ce M7 N8 H locs hw hZ hS h1 h2 h3 => ?_) (fun M5 N6 H locs hw hZ hS => ?_)
    · obtain ⟨hw, eM7, eN8⟩ := hw
      rw [eM7, eN8] at hZ
      exact z_xout hno hlocks hK hT hZ hS h1 h2 h3 ⟨hw, rfl, rfl⟩ (by decide) (by decide)
    · obtain ⟨hw, eM5, eN6⟩ := hw
      rw [eM5, eN6] at hZ
      refine lv_lconst (pc := 8) (v := 0) hx hb d_IS_value_8 (by decide) ?_
      refine lv_lstore_n (pc := 9) (lv' := [(3, .long (0 : Int64)), (0, .ref (b + 0)), (1, .int a1), (2, .int a2)]) hx hb d_IS_value_9 rfl hl (by decide) rfl (fun ls hl => ?_)
      refine lv_bipush (pc := 10) (v := 7) hx hb d_IS_value_10 (by decide) ?_
      refine lv_istore (pc := 12) (lv' := [(5, .int (7 : Int32)), (3, .long (0 : Int64)), (0, .ref (b + 0)), (1, .int a1), (2, .int a2)]) hx hb d_IS_value_12 hl (by decide) rfl (fun ls hl => ?_)
      obtain ⟨n, hw⟩ := hw
      exact lp14  n (0 : Int64) (7 : Int32) _ _ _ hZ hS (lv_sub hl [2, 3, 4, 1, 0] rfl) hw
theorem d_IS_content_0 : decode prog_1_method_12_code 0 = .ok (.iload_n 1, 1) := by decide +kernel
theorem d_IS_content_1 : decode prog_1_method_12_code 1 = .ok (.invokestatic 41, 3) := by decide +kernel
theorem d_IS_content_4 : decode prog_1_method_12_code 4 = .ok (.aload_n 0, 1) := by decide +kernel
theorem d_IS_content_5 : decode prog_1_method_12_code 5 = .ok (.getfield 11, 3) := by decide +kernel
theorem d_IS_content_8 : decode prog_1_method_12_code 8 = .ok (.iload_n 1, 1) := by decide +kernel
theorem d_IS_content_9 : decode prog_1_method_12_code 9 = .ok (.aaload, 1) := by decide +kernel
theorem d_IS_content_10 : decode prog_1_method_12_code 10 = .ok (.invokestatic 93, 3) := by decide +kernel
theorem d_IS_content_13 : decode prog_1_method_12_code 13 = .ok (.l2i, 1) := by decide +kernel
theorem d_IS_content_14 : decode prog_1_method_12_code 14 = .ok (.ireturn, 1) := by decide +kernel
def w_IS_content (a1 : Int32) (M : zM) (P : Int32 → Prop) (X : Nat → Prop) : Prop := w_IS_requireRegister a1  (vp_in a1 (zgn 1) ∧ w_Ro_contentOf (1 + 1 + a1.toNatClampNeg) M (fun r4 => P r4.toInt32)) (fun k => X k)
def ws_IS_content : List Cond := .code y_IS_content prog_1_method_12_code 2 (Option.some Jvm.ClassFile.FieldType.int) :: zall
def rm_IS_content : Room := { frames := 7, cells := 1, slots := 6, locals := 109 }
theorem hd_IS_content : y_IS_content.cls ≠ "java/lang/invoke/MethodHandle" ∧ y_IS_content.cls ≠ "java/lang/invoke/VarHandle" ∧ (parseMethodDescriptor y_IS_content.desc).map (fun d => d.parameters.length) = some 1 := by decide +kernel
set_option maxHeartbeats 4000000 in
set_option maxRecDepth 100000 in
theorem c_IS_content (l : Launch) (hst : l.stackTraces = false) (G : zG) (b : Nat) (a1 : Int32) (M : zM) (N : zN) {P : Int32 → Prop} {X : Nat → Prop} (hw : w_IS_content a1 M P X) : vx_Met l y_IS_content ws_IS_content rm_IS_content (zPc G b M N [.ref (b + 0), .int a1]) (zQi G b (fun r M' N' => P r ∧ M' = M ∧ N' = N)) (zXC G b (fun k M' N' => X k ∧ M' = M ∧ N' = N)) 1 6 (zA b) := by
  refine vx_ofW (cc := prog_1_method_12_code) (maxL := 2) (ret := (Option.some Jvm.ClassFile.FieldType.int)) (by decide) rfl ?_
  intro p e s m args below meth c s₁ B hml hno hv
  obtain ⟨rfl, hZ, hK, hT⟩ := hv
  have hx := B.exec
  have hb := B.bytes
  have hr := B.returns
  have hts := atoms_spec (ws := ws_IS_content) B.pre
  have hta : ∀ w ∈ zall, w.before ([.ref (b + 0), .int a1] : List Value).toArray s = true := fun w h => hts w (List.mem_cons_of_mem _ h)
  have hown : s.vm.findClass R_IS = some m.cls := findClass_of_methodNamed B.named
  have hlocks := B.notSynchronized
  have hS : va_S (zA b) s.heap s.heap [] := va_S.rf
  have hl := lv_entry ([.ref (b + 0), .int a1]) (n := 2) (Nat.le_of_ble_eq_true rfl)
  rw [lg_entry_eq]
  generalize (lg_sl ([.ref (b + 0), .int a1]) ++ List.replicate (2 - (lg_sl ([.ref (b + 0), .int a1])).length) Slot.unset).toArray = ls at hl ⊢
  have hl : lv_has ls 2 [(0, .ref (b + 0)), (1, .int a1)] := hl
  unfold w_IS_content at hw
  refine lv_iload_n (pc := 0) hx hb d_IS_content_0 rfl (lv_at hl 1 rfl) ?_
  refine z_xcallv (pc := 1) (vx_runS (As := [.int a1]) (rest := []) ⟨hx, hb, hml, hown, hts⟩ (c_IS_requireRegister l hst G b a1 M N hw) (va_cwS 1 hts (z_good (zgS wd223 wd224 wd1 wd225)) rfl rfl rfl hd_IS_requireRegister ⟨Nat.le_of_ble_eq_true rfl, Nat.le_of_ble_eq_true rfl⟩) (z_preS hZ hK hT hS) rfl rfl hl.1 rfl (lv_room (Nat.le_of_ble_eq_true rfl)) d_IS_content_1 ⟨Nat.le_of_ble_eq_true rfl, Nat.le_of_ble_eq_true rfl⟩) hS (fun k q ce M7 N8 H locs hw hZ hS h1 h2 h3 => ?_) (fun M2 N3 H locs hw hZ hS => ?_)
  · obtain ⟨hw, eM7, eN8⟩ := hw
    rw [eM7, eN8] at hZ
    exact z_xout hno hlocks hK hT hZ hS h1 h2 h3 ⟨hw, rfl, rfl⟩ (by decide) (by decide)
  · obtain ⟨hw, eM2, eN3⟩ := hw
    rw [eM2, eN3] at hZ
    refine lv_aload_n (pc := 4) hx hb d_IS_content_4 rfl (lv_at hl 0 rfl) ?_
    refine zg_IS_11 (pc := 5) hx hb hta hown hK hZ d_IS_content_5 ?_
    refine lv_iload_n (pc := 8) hx hb d_IS_content_8 rfl (lv_at hl 1 rfl) ?_
    obtain ⟨hc, hw⟩ := hw
    refine z_aald (pc := 9) hx hb hK hZ hc d_IS_content_9 ?_
    refine z_calll (pc := 10) (va_runS (As := [.ref (b + (1 + 1 + a1.toNatClampNeg))]) (rest := []) ⟨hx, hb, hml, hown, hts⟩ (c_Ro_contentOf l G b (1 + 1 + a1.toNatClampNeg) M N hw) (va_cwS 1 hts (z_good (zgS wd501 wd445 wd13 wd446)) rfl rfl rfl hd_Ro_contentOf ⟨Nat.le_of_ble_eq_true rfl, Nat.le_of_ble_eq_true rfl⟩) (z_preS hZ hK hT hS) rfl rfl hl.1 rfl (lv_room (Nat.le_of_ble_eq_true rfl)) d_IS_content_10 ⟨Nat.le_of_ble_eq_true rfl, Nat.le_of_ble_eq_true rfl⟩) hS (fun r4 M5 N6 H locs hw hZ hS => ?_)
    obtain ⟨hw, eM5, eN6⟩ := hw
    rw [eM5, eN6] at hZ
    refine lv_l2i (pc := 13) (v := r4.toInt32) hx hb d_IS_content_13 rfl ?_
    refine W.widen (k := 1) (n := 6) (by decide) (by decide) ?_
    exact vx_ret (z_iret hx hb hr hlocks hK hT hZ hS ⟨hw, rfl, rfl⟩ d_IS_content_14)
theorem zp_Fa_20 {p : Program} {l : Launch} {e : Env} {R : Room} {s : State} {m : MethodId} {args : Array Value} {below : List Frame} {meth : Method} {c : Code} {H : Heap} {locs : List Loc} {cells slots : Nat} {Q : State → Prop} {cc : ByteArray} {pc : Nat} {ls : Array Slot} {rest : List Value} {G : zG} {b : Nat} {M : zM} {N : zN} {H0 : Heap} {k : Nat} {x : Int32} (hx : p.tables.exec = Jvm.exec) (hb : c.code = cc) (hta : ∀ w ∈ zall, w.before args s = true) (hown : s.vm.findClass R_Fa = some m.cls) (hK : va_K G.1 zCl (zty G) s) (hZ : va_P G.1 zCl (zws G b M N) H) (hS : va_S (zA b) H0 H locs) (hk : zfac k) (hdg : decode cc pc = .ok (.putfield 20, 3)) (kk : ∀ (N1 : zN) (H1 : Heap) (locs1 : List Loc), N1 = zpui N k 2 x → va_P G.1 zCl (zws G b M N1) H1 → va_S (zA b) H0 H1 locs1 → W p l e R s m args below meth c H1 locs1 cells slots Q (F0 m (pc + 3) ls rest)) : W p l e R s m args below meth c H locs cells slots Q (F0 m pc ls (.int x :: .ref (b + k) :: rest)) := by
  refine va_put (D := G.1) (ci := 1) (v := .int x) (ty := .int) (C := R_Fa) (T := T_Fa) (N := 4) hx hb hta hin_Fa ty_Fa tyok_Fa nm_Fa hown hK hZ z_D hS k (zo_Fa hk) rfl 2 (by decide) (hta _ wd175) (fun _ h9 => h9) rfl (by decide +kernel) rfl rfl (Nat.le_of_ble_eq_true rfl) hdg (fun H1 locs1 h1 _ h3 => ?_)
  rcases hk with rfl | rfl
  · have h2 : va_P G.1 zCl ((zws G b M N).set 79 (b + 79, zcell G b (M 79) ((zpui N 79 2 x) 79) 79)) H1 := h1
    rw [z_set (M' := M) (N' := (zpui N 79 2 x)) (k := 79) (by decide) rfl (fun j _ => rfl) (fun j hj => zpui_ne hj)] at h2
    exact kk _ H1 locs1 rfl h2 h3
  · have h2 : va_P G.1 zCl ((zws G b M N).set 89 (b + 89, zcell G b (M 89) ((zpui N 89 2 x) 89) 89)) H1 := h1
    rw [z_set (M' := M) (N' := (zpui N 89 2 x)) (k := 89) (by decide) rfl (fun j _ => rfl) (fun j hj => zpui_ne hj)] at h2
    exact kk _ H1 locs1 rfl h2 h3
theorem zp_Fa_24 {p : Program} {l : Launch} {e : Env} {R : Room} {s : State} {m : MethodId} {args : Array Value} {below : List Frame} {meth : Method} {c : Code} {H : Heap} {locs : List Loc} {cells slots : Nat} {Q : State → Prop} {cc : ByteArray} {pc : Nat} {ls : Array Slot} {rest : List Value} {G : zG} {b : Nat} {M : zM} {N : zN} {H0 : Heap} {k : Nat} {x : Int64} (hx : p.tables.exec = Jvm.exec) (hb : c.code = cc) (hta : ∀ w ∈ zall, w.before args s = true) (hown : s.vm.findClass R_Fa = some m.cls) (hK : va_K G.1 zCl (zty G) s) (hZ : va_P G.1 zCl (zws G b M N) H) (hS : va_S (zA b) H0 H locs) (hk : zfac k) (hdg : decode cc pc = .ok (.putfield 24, 3)) (kk : ∀ (M1 : zM) (H1 : Heap) (locs1 : List Loc), M1 = zput M k 3 x → va_P G.1 zCl (zws G b M1 N) H1 → va_S (zA b) H0 H1 locs1 → W p l e R s m args below meth c H1 locs1 cells slots Q (F0 m (pc + 3) ls rest)) : W p l e R s m args below meth c H locs cells slots Q (F0 m pc ls (.long x :: .ref (b + k) :: rest)) := by
  refine va_put (D := G.1) (ci := 1) (v := .long x) (ty := .long) (C := R_Fa) (T := T_Fa) (N := 4) hx hb hta hin_Fa ty_Fa tyok_Fa nm_Fa hown hK hZ z_D hS k (zo_Fa hk) rfl 3 (by decide) (hta _ wd177) (fun _ h9 => h9) rfl (by decide +kernel) rfl rfl (Nat.le_of_ble_eq_true rfl) hdg (fun H1 locs1 h1 _ h3 => ?_)
  rcases hk with rfl | rfl
  · have h2 : va_P G.1 zCl ((zws G b M N).set 79 (b + 79, zcell G b ((zput M 79 3 x) 79) (N 79) 79)) H1 := h1
    rw [z_set (M' := (zput M 79 3 x)) (N' := N) (k := 79) (by decide) rfl (fun j hj => zput_ne hj) (fun j _ => rfl)] at h2
    exact kk _ H1 locs1 rfl h2 h3
  · have h2 : va_P G.1 zCl ((zws G b M N).set 89 (b + 89, zcell G b ((zput M 89 3 x) 89) (N 89) 89)) H1 := h1
    rw [z_set (M' := (zput M 89 3 x)) (N' := N) (k := 89) (by decide) rfl (fun j hj => zput_ne hj) (fun j _ => rfl)] at h2
    exact kk _ H1 locs1 rfl h2 h3
theorem d_Fa_begin_0 : decode prog_3_method_2_code 0 = .ok (.aload_n 0, 1) := by decide +kernel
theorem d_Fa_begin_1 : decode prog_3_method_2_code 1 = .ok (.iconst 0, 1) := by decide +kernel
theorem d_Fa_begin_2 : decode prog_3_method_2_code 2 = .ok (.putfield 20, 3) := by decide +kernel
theorem d_Fa_begin_5 : decode prog_3_method_2_code 5 = .ok (.aload_n 0, 1) := by decide +kernel
theorem d_Fa_begin_6 : decode prog_3_method_2_code 6 = .ok (.lload_n 1, 1) := by decide +kernel
theorem d_Fa_begin_7 : decode prog_3_method_2_code 7 = .ok (.putfield 24, 3) := by decide +kernel
theorem d_Fa_begin_10 : decode prog_3_method_2_code 10 = .ok (.return_, 1) := by decide +kernel
def w_Fa_begin (a0 : Nat) (a1 : Int64) (M : zM) (N : zN) (P : zM → zN → Prop) : Prop := zfac a0 ∧ ∀ N1 : zN, N1 = zpui N a0 2 (0 : Int32) → zfac a0 ∧ ∀ M2 : zM, M2 = zput M a0 3 a1 → P M2 N1
def ws_Fa_begin : List Cond := .code y_Fa_begin prog_3_method_2_code 3 (Option.none : Option Jvm.ClassFile.FieldType) :: zall
def rm_Fa_begin : Room := { frames := 0, cells := 0, slots := 0, locals := 0 }
theorem hd_Fa_begin : y_Fa_begin.cls ≠ "java/lang/invoke/MethodHandle" ∧ y_Fa_begin.cls ≠ "java/lang/invoke/VarHandle" ∧ (parseMethodDescriptor y_Fa_begin.desc).map (fun d => d.parameters.length) = some 1 := by decide +kernel
set_option maxHeartbeats 4000000 in
set_option maxRecDepth 100000 in
theorem c_Fa_begin (l : Launch) (G : zG) (b : Nat) (a0 : Nat) (a1 : Int64) (M : zM) (N : zN) {P : zM → zN → Prop} (hw : w_Fa_begin a0 a1 M N P) : Met l y_Fa_begin ws_Fa_begin rm_Fa_begin (zPc G b M N [.ref (b + a0), .long a1]) (zQv G b (fun M' N' => P M' N')) 0 0 (zA b) := by
  refine Met.ofW (cc := prog_3_method_2_code) (maxL := 3) (ret := (Option.none : Option Jvm.ClassFile.FieldType)) (by decide) rfl ?_
  intro p e s m args below meth c s₁ B hml hv
  obtain ⟨rfl, hZ, hK, hT⟩ := hv
  have hx := B.exec
  have hb := B.bytes
  have hr := B.returns
  have hts := atoms_spec (ws := ws_Fa_begin) B.pre
  have hta : ∀ w ∈ zall, w.before ([.ref (b + a0), .long a1] : List Value).toArray s = true := fun w h => hts w (List.mem_cons_of_mem _ h)
  have hown : s.vm.findClass R_Fa = some m.cls := findClass_of_methodNamed B.named
  have hlocks := B.notSynchronized
  have hS : va_S (zA b) s.heap s.heap [] := va_S.rf
  have hl := lv_entry ([.ref (b + a0), .long a1]) (n := 3) (Nat.le_of_ble_eq_true rfl)
  rw [lg_entry_eq]
  generalize (lg_sl ([.ref (b + a0), .long a1]) ++ List.replicate (3 - (lg_sl ([.ref (b + a0), .long a1])).length) Slot.unset).toArray = ls at hl ⊢
  have hl : lv_has ls 3 [(0, .ref (b + a0)), (1, .long a1)] := hl
  unfold w_Fa_begin at hw
  refine lv_aload_n (pc := 0) hx hb d_Fa_begin_0 rfl (lv_at hl 0 rfl) ?_
  refine lv_iconst (pc := 1) (v := 0) hx hb d_Fa_begin_1 (by decide) ?_
  obtain ⟨hc, hw⟩ := hw
  refine zp_Fa_20 (pc := 2) hx hb hta hown hK hZ hS hc d_Fa_begin_2 (fun N1 H locs hN1 hZ hS => ?_)
  have hw := hw N1 hN1
  refine lv_aload_n (pc := 5) hx hb d_Fa_begin_5 rfl (lv_at hl 0 rfl) ?_
  refine lv_lload_n (pc := 6) hx hb d_Fa_begin_6 rfl (lv_at hl 1 rfl) ?_
  obtain ⟨hc, hw⟩ := hw
  refine zp_Fa_24 (pc := 7) hx hb hta hown hK hZ hS hc d_Fa_begin_7 (fun M2 H locs hM2 hZ hS => ?_)
  have hw := hw M2 hM2
  exact z_vret hx hb hr hlocks hK hT hZ hS hw d_Fa_begin_10
theorem zg_Sp_36 {p : Program} {l : Launch} {e : Env} {R : Room} {s : State} {m : MethodId} {args : Array Value} {below : List Frame} {meth : Method} {c : Code} {H : Heap} {locs : List Loc} {cells slots : Nat} {Q : State → Prop} {cc : ByteArray} {pc : Nat} {ls : Array Slot} {rest : List Value} {G : zG} {b : Nat} {M : zM} {N : zN} (hx : p.tables.exec = Jvm.exec) (hb : c.code = cc) (hta : ∀ w ∈ zall, w.before args s = true) (hown : s.vm.findClass R_Sp = some m.cls) (hK : va_K G.1 zCl (zty G) s) (hZ : va_P G.1 zCl (zws G b M N) H) (hdg : decode cc pc = .ok (.getfield 36, 3)) (kk : W p l e R s m args below meth c H locs cells slots Q (F0 m (pc + 3) ls (.ref (b + 74) :: rest))) : W p l e R s m args below meth c H locs cells slots Q (F0 m pc ls (.ref (b + 9) :: rest)) :=
  va_get (D := G.1) (ci := 4) (v := .ref (b + 74)) (C := R_Sp) (T := T_Sp) (N := 9) hx hb hta hin_Sp hown hK hZ 9 zo_Sp rfl 4 (by decide) (hta _ wd140) (fun _ h9 => h9) rfl hdg kk
theorem zg_Sp_39 {p : Program} {l : Launch} {e : Env} {R : Room} {s : State} {m : MethodId} {args : Array Value} {below : List Frame} {meth : Method} {c : Code} {H : Heap} {locs : List Loc} {cells slots : Nat} {Q : State → Prop} {cc : ByteArray} {pc : Nat} {ls : Array Slot} {rest : List Value} {G : zG} {b : Nat} {M : zM} {N : zN} (hx : p.tables.exec = Jvm.exec) (hb : c.code = cc) (hta : ∀ w ∈ zall, w.before args s = true) (hown : s.vm.findClass R_Sp = some m.cls) (hK : va_K G.1 zCl (zty G) s) (hZ : va_P G.1 zCl (zws G b M N) H) (hdg : decode cc pc = .ok (.getfield 39, 3)) (kk : W p l e R s m args below meth c H locs cells slots Q (F0 m (pc + 3) ls (.ref (b + 75) :: rest))) : W p l e R s m args below meth c H locs cells slots Q (F0 m pc ls (.ref (b + 9) :: rest)) :=
  va_get (D := G.1) (ci := 4) (v := .ref (b + 75)) (C := R_Sp) (T := T_Sp) (N := 9) hx hb hta hin_Sp hown hK hZ 9 zo_Sp rfl 5 (by decide) (hta _ wd141) (fun _ h9 => h9) rfl hdg kk
theorem zg_Sp_48 {p : Program} {l : Launch} {e : Env} {R : Room} {s : State} {m : MethodId} {args : Array Value} {below : List Frame} {meth : Method} {c : Code} {H : Heap} {locs : List Loc} {cells slots : Nat} {Q : State → Prop} {cc : ByteArray} {pc : Nat} {ls : Array Slot} {rest : List Value} {G : zG} {b : Nat} {M : zM} {N : zN} (hx : p.tables.exec = Jvm.exec) (hb : c.code = cc) (hta : ∀ w ∈ zall, w.before args s = true) (hown : s.vm.findClass R_Sp = some m.cls) (hK : va_K G.1 zCl (zty G) s) (hZ : va_P G.1 zCl (zws G b M N) H) (hdg : decode cc pc = .ok (.getfield 48, 3)) (kk : W p l e R s m args below meth c H locs cells slots Q (F0 m (pc + 3) ls (.ref (b + 78) :: rest))) : W p l e R s m args below meth c H locs cells slots Q (F0 m pc ls (.ref (b + 9) :: rest)) :=
  va_get (D := G.1) (ci := 4) (v := .ref (b + 78)) (C := R_Sp) (T := T_Sp) (N := 9) hx hb hta hin_Sp hown hK hZ 9 zo_Sp rfl 8 (by decide) (hta _ wd144) (fun _ h9 => h9) rfl hdg kk
theorem zg_Sp_45 {p : Program} {l : Launch} {e : Env} {R : Room} {s : State} {m : MethodId} {args : Array Value} {below : List Frame} {meth : Method} {c : Code} {H : Heap} {locs : List Loc} {cells slots : Nat} {Q : State → Prop} {cc : ByteArray} {pc : Nat} {ls : Array Slot} {rest : List Value} {G : zG} {b : Nat} {M : zM} {N : zN} (hx : p.tables.exec = Jvm.exec) (hb : c.code = cc) (hta : ∀ w ∈ zall, w.before args s = true) (hown : s.vm.findClass R_Sp = some m.cls) (hK : va_K G.1 zCl (zty G) s) (hZ : va_P G.1 zCl (zws G b M N) H) (hdg : decode cc pc = .ok (.getfield 45, 3)) (kk : W p l e R s m args below meth c H locs cells slots Q (F0 m (pc + 3) ls (.ref (b + 77) :: rest))) : W p l e R s m args below meth c H locs cells slots Q (F0 m pc ls (.ref (b + 9) :: rest)) :=
  va_get (D := G.1) (ci := 4) (v := .ref (b + 77)) (C := R_Sp) (T := T_Sp) (N := 9) hx hb hta hin_Sp hown hK hZ 9 zo_Sp rfl 7 (by decide) (hta _ wd143) (fun _ h9 => h9) rfl hdg kk
theorem d_Sp_goodPrime_0 : decode prog_8_method_3_code 0 = .ok (.iconst 0, 1) := by decide +kernel
theorem d_Sp_goodPrime_1 : decode prog_8_method_3_code 1 = .ok (.istore_n 1, 1) := by decide +kernel
theorem d_Sp_goodPrime_2 : decode prog_8_method_3_code 2 = .ok (.iload_n 1, 1) := by decide +kernel
theorem d_Sp_goodPrime_3 : decode prog_8_method_3_code 3 = .ok (.getstatic 101, 3) := by decide +kernel
theorem d_Sp_goodPrime_6 : decode prog_8_method_3_code 6 = .ok (.arraylength, 1) := by decide +kernel
theorem d_Sp_goodPrime_7 : decode prog_8_method_3_code 7 = .ok (.if_icmp .ge 92, 3) := by decide +kernel
theorem d_Sp_goodPrime_10 : decode prog_8_method_3_code 10 = .ok (.getstatic 101, 3) := by decide +kernel
theorem d_Sp_goodPrime_13 : decode prog_8_method_3_code 13 = .ok (.iload_n 1, 1) := by decide +kernel
theorem d_Sp_goodPrime_14 : decode prog_8_method_3_code 14 = .ok (.iaload, 1) := by decide +kernel
theorem d_Sp_goodPrime_15 : decode prog_8_method_3_code 15 = .ok (.i2l, 1) := by decide +kernel
theorem d_Sp_goodPrime_16 : decode prog_8_method_3_code 16 = .ok (.lstore_n 2, 1) := by decide +kernel
theorem d_Sp_goodPrime_17 : decode prog_8_method_3_code 17 = .ok (.aload_n 0, 1) := by decide +kernel
theorem d_Sp_goodPrime_18 : decode prog_8_method_3_code 18 = .ok (.getfield 36, 3) := by decide +kernel
theorem d_Sp_goodPrime_21 : decode prog_8_method_3_code 21 = .ok (.aload_n 0, 1) := by decide +kernel
theorem d_Sp_goodPrime_22 : decode prog_8_method_3_code 22 = .ok (.getfield 39, 3) := by decide +kernel
theorem d_Sp_goodPrime_25 : decode prog_8_method_3_code 25 = .ok (.invokestatic 71, 3) := by decide +kernel
theorem d_Sp_goodPrime_28 : decode prog_8_method_3_code 28 = .ok (.aload_n 0, 1) := by decide +kernel
theorem d_Sp_goodPrime_29 : decode prog_8_method_3_code 29 = .ok (.getfield 39, 3) := by decide +kernel
theorem d_Sp_goodPrime_32 : decode prog_8_method_3_code 32 = .ok (.aload_n 0, 1) := by decide +kernel
theorem d_Sp_goodPrime_33 : decode prog_8_method_3_code 33 = .ok (.getfield 39, 3) := by decide +kernel
theorem d_Sp_goodPrime_36 : decode prog_8_method_3_code 36 = .ok (.lload_n 2, 1) := by decide +kernel
theorem d_Sp_goodPrime_37 : decode prog_8_method_3_code 37 = .ok (.invokestatic 105, 3) := by decide +kernel
theorem d_Sp_goodPrime_40 : decode prog_8_method_3_code 40 = .ok (.aload_n 0, 1) := by decide +kernel
theorem d_Sp_goodPrime_41 : decode prog_8_method_3_code 41 = .ok (.getfield 36, 3) := by decide +kernel
theorem d_Sp_goodPrime_44 : decode prog_8_method_3_code 44 = .ok (.aload_n 0, 1) := by decide +kernel
theorem d_Sp_goodPrime_45 : decode prog_8_method_3_code 45 = .ok (.getfield 48, 3) := by decide +kernel
theorem d_Sp_goodPrime_48 : decode prog_8_method_3_code 48 = .ok (.lload_n 2, 1) := by decide +kernel
theorem d_Sp_goodPrime_49 : decode prog_8_method_3_code 49 = .ok (.invokestatic 105, 3) := by decide +kernel
theorem d_Sp_goodPrime_52 : decode prog_8_method_3_code 52 = .ok (.aload_n 0, 1) := by decide +kernel
theorem d_Sp_goodPrime_53 : decode prog_8_method_3_code 53 = .ok (.getfield 48, 3) := by decide +kernel
theorem d_Sp_goodPrime_56 : decode prog_8_method_3_code 56 = .ok (.invokestatic 67, 3) := by decide +kernel
theorem d_Sp_goodPrime_59 : decode prog_8_method_3_code 59 = .ok (.aload_n 0, 1) := by decide +kernel
theorem d_Sp_goodPrime_60 : decode prog_8_method_3_code 60 = .ok (.getfield 36, 3) := by decide +kernel
theorem d_Sp_goodPrime_63 : decode prog_8_method_3_code 63 = .ok (.invokestatic 67, 3) := by decide +kernel
theorem d_Sp_goodPrime_66 : decode prog_8_method_3_code 66 = .ok (.if_icmp .ne 27, 3) := by decide +kernel
theorem d_Sp_goodPrime_69 : decode prog_8_method_3_code 69 = .ok (.aload_n 0, 1) := by decide +kernel
theorem d_Sp_goodPrime_70 : decode prog_8_method_3_code 70 = .ok (.getfield 48, 3) := by decide +kernel
theorem d_Sp_goodPrime_73 : decode prog_8_method_3_code 73 = .ok (.aload_n 0, 1) := by decide +kernel
theorem d_Sp_goodPrime_74 : decode prog_8_method_3_code 74 = .ok (.getfield 39, 3) := by decide +kernel
theorem d_Sp_goodPrime_77 : decode prog_8_method_3_code 77 = .ok (.aload_n 0, 1) := by decide +kernel
theorem d_Sp_goodPrime_78 : decode prog_8_method_3_code 78 = .ok (.getfield 45, 3) := by decide +kernel
theorem d_Sp_goodPrime_81 : decode prog_8_method_3_code 81 = .ok (.lload_n 2, 1) := by decide +kernel
theorem d_Sp_goodPrime_82 : decode prog_8_method_3_code 82 = .ok (.invokestatic 111, 3) := by decide +kernel
theorem d_Sp_goodPrime_85 : decode prog_8_method_3_code 85 = .ok (.invokestatic 67, 3) := by decide +kernel
theorem d_Sp_goodPrime_88 : decode prog_8_method_3_code 88 = .ok (.ifCond .ne 5, 3) := by decide +kernel
theorem d_Sp_goodPrime_91 : decode prog_8_method_3_code 91 = .ok (.lload_n 2, 1) := by decide +kernel
theorem d_Sp_goodPrime_92 : decode prog_8_method_3_code 92 = .ok (.lreturn, 1) := by decide +kernel
theorem d_Sp_goodPrime_93 : decode prog_8_method_3_code 93 = .ok (.iinc 1 1, 3) := by decide +kernel
theorem d_Sp_goodPrime_96 : decode prog_8_method_3_code 96 = .ok (.goto (-94), 3) := by decide +kernel
theorem d_Sp_goodPrime_99 : decode prog_8_method_3_code 99 = .ok (.getstatic 101, 3) := by decide +kernel
theorem d_Sp_goodPrime_102 : decode prog_8_method_3_code 102 = .ok (.iconst 0, 1) := by decide +kernel
theorem d_Sp_goodPrime_103 : decode prog_8_method_3_code 103 = .ok (.iaload, 1) := by decide +kernel
theorem d_Sp_goodPrime_104 : decode prog_8_method_3_code 104 = .ok (.i2l, 1) := by decide +kernel
theorem d_Sp_goodPrime_105 : decode prog_8_method_3_code 105 = .ok (.lreturn, 1) := by decide +kernel
def B_Sp_goodPrime_2 (P : Int64 → zM → Prop) (N : zN) (k2 : Int32 → zM → Prop) (v1 : Int32) (M : zM) : Prop := ((46 : Int32) ≤ v1 → vp_in (0 : Int32) 46 ∧ P ((zsp (0 : Int32).toNatClampNeg).toInt64) M) ∧ (¬ (46 : Int32) ≤ v1 → vp_in v1 46 ∧ ∀ x4 : Int64, x4 = (zsp v1.toNatClampNeg).toInt64 → w_Ro_slopeInto 74 75 M (fun M6 => w_Re_reduceInto 75 75 x4 M6 (fun M9 => w_Re_reduceInto 74 78 x4 M9 (fun M12 => w_Ro_degreeOf 78 M12 (fun r14 => w_Ro_degreeOf 74 M12 (fun r17 => (¬ r14 = r17 → k2 (v1 + (1 : Int32)) M12) ∧ (r14 = r17 → w_Re_commonOf 78 75 77 x4 M12 (fun r20 M21 => w_Ro_degreeOf r20 M21 (fun r23 => (¬ r23 = 0 → k2 (v1 + (1 : Int32)) M21) ∧ (r23 = 0 → P x4 M21))))))))))
def L_Sp_goodPrime_2 (P : Int64 → zM → Prop) (N : zN) (n : Nat) : Int32 → zM → Prop := Nat.rec (fun _ _ => False) (fun _ k => B_Sp_goodPrime_2 P N k) n
def w_Sp_goodPrime  (M : zM) (N : zN) (P : Int64 → zM → Prop) : Prop := ∃ n, L_Sp_goodPrime_2 P N n (0 : Int32) M
def ws_Sp_goodPrime : List Cond := .code y_Sp_goodPrime prog_8_method_3_code 4 (Option.some Jvm.ClassFile.FieldType.long) :: zall
def rm_Sp_goodPrime : Room := { frames := 3, cells := 0, slots := 0, locals := 88 }
theorem hd_Sp_goodPrime : y_Sp_goodPrime.cls ≠ "java/lang/invoke/MethodHandle" ∧ y_Sp_goodPrime.cls ≠ "java/lang/invoke/VarHandle" ∧ (parseMethodDescriptor y_Sp_goodPrime.desc).map (fun d => d.parameters.length) = some 0 := by decide +kernel
set_option maxHeartbeats 4000000 in
set_option maxRecDepth 100000 in
theorem c_Sp_goodPrime (l : Launch) (G : zG) (b : Nat)  (M : zM) (N : zN) {P : Int64 → zM → Prop} (hw : w_Sp_goodPrime  M N P) : Met l y_Sp_goodPrime ws_Sp_goodPrime rm_Sp_goodPrime (zPc G b M N [.ref (b + 9)]) (zQl G b (fun r M' N' => P r M' ∧ N' = N)) 0 0 (zA b) := by
  refine Met.ofW (cc := prog_8_method_3_code) (maxL := 4) (ret := (Option.some Jvm.ClassFile.FieldType.long)) (by decide) rfl ?_
  intro p e s m args below meth c s₁ B hml hv
  obtain ⟨rfl, hZ, hK, hT⟩ := hv
  have hx := B.exec
  have hb := B.bytes
  have hr := B.returns
  have hts := atoms_spec (ws := ws_Sp_goodPrime) B.pre
  have hta : ∀ w ∈ zall, w.before ([.ref (b + 9)] : List Value).toArray s = true := fun w h => hts w (List.mem_cons_of_mem _ h)
  have hown : s.vm.findClass R_Sp = some m.cls := findClass_of_methodNamed B.named
  have hlocks := B.notSynchronized
  have hS : va_S (zA b) s.heap s.heap [] := va_S.rf
  have hl := lv_entry ([.ref (b + 9)]) (n := 4) (Nat.le_of_ble_eq_true rfl)
  rw [lg_entry_eq]
  generalize (lg_sl ([.ref (b + 9)]) ++ List.replicate (4 - (lg_sl ([.ref (b + 9)])).length) Slot.unset).toArray = ls at hl ⊢
  have hl : lv_has ls 4 [(0, .ref (b + 9))] := hl
  have lp2 : ∀ (n : Nat) (v1 : Int32) (M : zM) (H : Heap) (ls : Array Slot) (locs : List Loc), va_P G.1 zCl (zws G b M N) H → va_S (zA b) s.heap H locs → lv_has ls 4 [(0, .ref (b + 9)), (1, .int v1)] → L_Sp_goodPrime_2 P N n v1 M → W p l e (headSpec ws_Sp_goodPrime rm_Sp_goodPrime).room s m ([.ref (b + 9)] : List Value).toArray below meth c H locs 0 0 (MQ below (zQl G b (fun r M' N' => P r M' ∧ N' = N)) ([.ref (b + 9)] : List Value).toArray s 0 0 (zA b)) (F0 m 2 ls []) := by
    intro  n
    induction n with
    | zero => intro v1 M H ls locs hZ hS hl hw; exact False.elim hw
    | succ n2 ih2 =>
      intro v1 M H ls locs hZ hS hl hw
      have hw : B_Sp_goodPrime_2 P N (L_Sp_goodPrime_2 P N n2) v1 M := hw
      unfold B_Sp_goodPrime_2 at hw
      refine lv_iload_n (pc := 2) hx hb d_Sp_goodPrime_2 rfl (lv_at hl 1 rfl) ?_
      obtain ⟨tt1, htt1a, htt1b⟩ := hT.2.2.2.2
      refine va_gets (pc := 3) hx hb htt1a hS hown (hta _ wd527) (fun _ h => h) d_Sp_goodPrime_3 ?_
      refine va_tlen (pc := 6) (v := 46) hx hb htt1b hS rfl d_Sp_goodPrime_6 ?_
      refine lv_icmp_ge (pc := 7) (tgt := 99) hx hb d_Sp_goodPrime_7 (by decide) (fun hc => ?_) (fun hc => ?_)
      · have hw := hw.1 hc
        obtain ⟨tt2, htt2a, htt2b⟩ := hT.2.2.2.2
        refine va_gets (pc := 99) hx hb htt2a hS hown (hta _ wd527) (fun _ h => h) d_Sp_goodPrime_99 ?_
        refine lv_iconst (pc := 102) (v := 0) hx hb d_Sp_goodPrime_102 (by decide) ?_
        obtain ⟨hc, hw⟩ := hw
        refine va_ti (pc := 103) (v := .int (zsp (0 : Int32).toNatClampNeg)) hx hb htt2b hS hc rfl d_Sp_goodPrime_103 ?_
        refine lv_i2l (pc := 104) (v := (zsp (0 : Int32).toNatClampNeg).toInt64) hx hb d_Sp_goodPrime_104 rfl ?_
        exact z_lret hx hb hr hlocks hK hT hZ hS ⟨hw, rfl⟩ d_Sp_goodPrime_105
      · have hw := hw.2 hc
        obtain ⟨tt3, htt3a, htt3b⟩ := hT.2.2.2.2
        refine va_gets (pc := 10) hx hb htt3a hS hown (hta _ wd527) (fun _ h => h) d_Sp_goodPrime_10 ?_
        refine lv_iload_n (pc := 13) hx hb d_Sp_goodPrime_13 rfl (lv_at hl 1 rfl) ?_
        obtain ⟨hc, hw⟩ := hw
        refine va_ti (pc := 14) (v := .int (zsp v1.toNatClampNeg)) hx hb htt3b hS hc rfl d_Sp_goodPrime_14 ?_
        refine lv_i2l (pc := 15) (v := (zsp v1.toNatClampNeg).toInt64) hx hb d_Sp_goodPrime_15 rfl ?_
        refine lv_topl (fun x4 hx4 => ?_)
        have hw := hw x4 hx4
        refine lv_lstore_n (pc := 16) (lv' := [(2, .long x4), (0, .ref (b + 9)), (1, .int v1)]) hx hb d_Sp_goodPrime_16 rfl hl (by decide) rfl (fun ls hl => ?_)
        refine lv_aload_n (pc := 17) hx hb d_Sp_goodPrime_17 rfl (lv_at hl 1 rfl) ?_
        refine zg_Sp_36 (pc := 18) hx hb hta hown hK hZ d_Sp_goodPrime_18 ?_
        refine lv_aload_n (pc := 21) hx hb d_Sp_goodPrime_21 rfl (lv_at hl 1 rfl) ?_
        refine zg_Sp_39 (pc := 22) hx hb hta hown hK hZ d_Sp_goodPrime_22 ?_
        refine z_callv (pc := 25) (va_runS (As := [.ref (b + 74), .ref (b + 75)]) (rest := []) ⟨hx, hb, hml, hown, hts⟩ (c_Ro_slopeInto l G b 74 75 M N hw) (va_cwS 2 hts (z_good (zgS wd520 wd383 wd13 wd384)) rfl rfl rfl hd_Ro_slopeInto ⟨Nat.le_of_ble_eq_true rfl, Nat.le_of_ble_eq_true rfl⟩) (z_preS hZ hK hT hS) rfl rfl hl.1 rfl (lv_room (Nat.le_of_ble_eq_true rfl)) d_Sp_goodPrime_25 ⟨Nat.le_of_ble_eq_true rfl, Nat.le_of_ble_eq_true rfl⟩) hS (fun M6 N7 H locs hw hZ hS => ?_)
        obtain ⟨hw, eN7⟩ := hw
        rw [eN7] at hZ
        refine lv_aload_n (pc := 28) hx hb d_Sp_goodPrime_28 rfl (lv_at hl 1 rfl) ?_
        refine zg_Sp_39 (pc := 29) hx hb hta hown hK hZ d_Sp_goodPrime_29 ?_
        refine lv_aload_n (pc := 32) hx hb d_Sp_goodPrime_32 rfl (lv_at hl 1 rfl) ?_
        refine zg_Sp_39 (pc := 33) hx hb hta hown hK hZ d_Sp_goodPrime_33 ?_
        refine lv_lload_n (pc := 36) hx hb d_Sp_goodPrime_36 rfl (lv_at hl 0 rfl) ?_
        refine z_callv (pc := 37) (va_runS (As := [.ref (b + 75), .ref (b + 75), .long x4]) (rest := []) ⟨hx, hb, hml, hown, hts⟩ (c_Re_reduceInto l G b 75 75 x4 M6 N hw) (va_cwS 3 hts (z_good (zgS wd529 wd463 wd18 wd464)) rfl rfl rfl hd_Re_reduceInto ⟨Nat.le_of_ble_eq_true rfl, Nat.le_of_ble_eq_true rfl⟩) (z_preS hZ hK hT hS) rfl rfl hl.1 rfl (lv_room (Nat.le_of_ble_eq_true rfl)) d_Sp_goodPrime_37 ⟨Nat.le_of_ble_eq_true rfl, Nat.le_of_ble_eq_true rfl⟩) hS (fun M9 N10 H locs hw hZ hS => ?_)
        obtain ⟨hw, eN10⟩ := hw
        rw [eN10] at hZ
        refine lv_aload_n (pc := 40) hx hb d_Sp_goodPrime_40 rfl (lv_at hl 1 rfl) ?_
        refine zg_Sp_36 (pc := 41) hx hb hta hown hK hZ d_Sp_goodPrime_41 ?_
        refine lv_aload_n (pc := 44) hx hb d_Sp_goodPrime_44 rfl (lv_at hl 1 rfl) ?_
        refine zg_Sp_48 (pc := 45) hx hb hta hown hK hZ d_Sp_goodPrime_45 ?_
        refine lv_lload_n (pc := 48) hx hb d_Sp_goodPrime_48 rfl (lv_at hl 0 rfl) ?_
        refine z_callv (pc := 49) (va_runS (As := [.ref (b + 74), .ref (b + 78), .long x4]) (rest := []) ⟨hx, hb, hml, hown, hts⟩ (c_Re_reduceInto l G b 74 78 x4 M9 N hw) (va_cwS 3 hts (z_good (zgS wd529 wd463 wd18 wd464)) rfl rfl rfl hd_Re_reduceInto ⟨Nat.le_of_ble_eq_true rfl, Nat.le_of_ble_eq_true rfl⟩) (z_preS hZ hK hT hS) rfl rfl hl.1 rfl (lv_room (Nat.le_of_ble_eq_true rfl)) d_Sp_goodPrime_49 ⟨Nat.le_of_ble_eq_true rfl, Nat.le_of_ble_eq_true rfl⟩) hS (fun M12 N13 H locs hw hZ hS => ?_)
        obtain ⟨hw, eN13⟩ := hw
        rw [eN13] at hZ
        refine lv_aload_n (pc := 52) hx hb d_Sp_goodPrime_52 rfl (lv_at hl 1 rfl) ?_
        refine zg_Sp_48 (pc := 53) hx hb hta hown hK hZ d_Sp_goodPrime_53 ?_
        refine z_calli (pc := 56) (va_runS (As := [.ref (b + 78)]) (rest := []) ⟨hx, hb, hml, hown, hts⟩ (c_Ro_degreeOf l G b 78 M12 N hw) (va_cwS 1 hts (z_good (zgS wd519 wd312 wd13 wd313)) rfl rfl rfl hd_Ro_degreeOf ⟨Nat.le_of_ble_eq_true rfl, Nat.le_of_ble_eq_true rfl⟩) (z_preS hZ hK hT hS) rfl rfl hl.1 rfl (lv_room (Nat.le_of_ble_eq_true rfl)) d_Sp_goodPrime_56 ⟨Nat.le_of_ble_eq_true rfl, Nat.le_of_ble_eq_true rfl⟩) hS (fun r14 M15 N16 H locs hw hZ hS => ?_)
        obtain ⟨hw, eM15, eN16⟩ := hw
        rw [eM15, eN16] at hZ
        refine lv_aload_n (pc := 59) hx hb d_Sp_goodPrime_59 rfl (lv_at hl 1 rfl) ?_
        refine zg_Sp_36 (pc := 60) hx hb hta hown hK hZ d_Sp_goodPrime_60 ?_
        refine z_calli (pc := 63) (va_runS (As := [.ref (b + 74)]) (rest := [.int r14]) ⟨hx, hb, hml, hown, hts⟩ (c_Ro_degreeOf l G b 74 M12 N hw) (va_cwS 1 hts (z_good (zgS wd519 wd312 wd13 wd313)) rfl rfl rfl hd_Ro_degreeOf ⟨Nat.le_of_ble_eq_true rfl, Nat.le_of_ble_eq_true rfl⟩) (z_preS hZ hK hT hS) rfl rfl hl.1 rfl (lv_room (Nat.le_of_ble_eq_true rfl)) d_Sp_goodPrime_63 ⟨Nat.le_of_ble_eq_true rfl, Nat.le_of_ble_eq_true rfl⟩) hS (fun r17 M18 N19 H locs hw hZ hS => ?_)
        obtain ⟨hw, eM18, eN19⟩ := hw
        rw [eM18, eN19] at hZ
        refine lv_icmp_ne (pc := 66) (tgt := 93) hx hb d_Sp_goodPrime_66 (by decide) (fun hc => ?_) (fun hc => ?_)
        · have hw := hw.1 hc
          refine lv_iinc (pc := 93) (k := 2) (v := v1 + (1 : Int32)) (lv' := [(1, .int (v1 + (1 : Int32))), (2, .long x4), (0, .ref (b + 9))]) hx hb d_Sp_goodPrime_93 hl rfl (by rfl) (by decide) rfl (fun ls hl => ?_)
          refine lv_goto (pc := 96) (tgt := 2) hx hb d_Sp_goodPrime_96 (by decide) ?_
          exact ih2 (v1 + (1 : Int32)) M12 _ _ _ hZ hS (lv_sub hl [2, 0] rfl) hw
        · have hw := hw.2 hc
          refine lv_aload_n (pc := 69) hx hb d_Sp_goodPrime_69 rfl (lv_at hl 1 rfl) ?_
          refine zg_Sp_48 (pc := 70) hx hb hta hown hK hZ d_Sp_goodPrime_70 ?_
          refine lv_aload_n (pc := 73) hx hb d_Sp_goodPrime_73 rfl (lv_at hl 1 rfl) ?_
          refine zg_Sp_39 (pc := 74) hx hb hta hown hK hZ d_Sp_goodPrime_74 ?_
          refine lv_aload_n (pc := 77) hx hb d_Sp_goodPrime_77 rfl (lv_at hl 1 rfl) ?_
          refine zg_Sp_45 (pc := 78) hx hb hta hown hK hZ d_Sp_goodPrime_78 ?_
          refine lv_lload_n (pc := 81) hx hb d_Sp_goodPrime_81 rfl (lv_at hl 0 rfl) ?_
          refine z_callr (pc := 82) (va_runS (As := [.ref (b + 78), .ref (b + 75), .ref (b + 77), .long x4]) (rest := []) ⟨hx, hb, hml, hown, hts⟩ (c_Re_commonOf l G b 78 75 77 x4 M12 N hw) (va_cwS 4 hts (z_good (zgS wd530 wd469 wd18 wd470)) rfl rfl rfl hd_Re_commonOf ⟨Nat.le_of_ble_eq_true rfl, Nat.le_of_ble_eq_true rfl⟩) (z_preS hZ hK hT hS) rfl rfl hl.1 rfl (lv_room (Nat.le_of_ble_eq_true rfl)) d_Sp_goodPrime_82 ⟨Nat.le_of_ble_eq_true rfl, Nat.le_of_ble_eq_true rfl⟩) hS (fun r20 M21 N22 H locs hw hZ hS => ?_)
          obtain ⟨hw, eN22⟩ := hw
          rw [eN22] at hZ
          refine z_calli (pc := 85) (va_runS (As := [.ref (b + r20)]) (rest := []) ⟨hx, hb, hml, hown, hts⟩ (c_Ro_degreeOf l G b r20 M21 N hw) (va_cwS 1 hts (z_good (zgS wd519 wd312 wd13 wd313)) rfl rfl rfl hd_Ro_degreeOf ⟨Nat.le_of_ble_eq_true rfl, Nat.le_of_ble_eq_true rfl⟩) (z_preS hZ hK hT hS) rfl rfl hl.1 rfl (lv_room (Nat.le_of_ble_eq_true rfl)) d_Sp_goodPrime_85 ⟨Nat.le_of_ble_eq_true rfl, Nat.le_of_ble_eq_true rfl⟩) hS (fun r23 M24 N25 H locs hw hZ hS => ?_)
          obtain ⟨hw, eM24, eN25⟩ := hw
          rw [eM24, eN25] at hZ
          refine lv_if_ne (pc := 88) (tgt := 93) hx hb d_Sp_goodPrime_88 (by decide) (fun hc => ?_) (fun hc => ?_)
          · have hw := hw.1 hc
            refine lv_iinc (pc := 93) (k := 2) (v := v1 + (1 : Int32)) (lv' := [(1, .int (v1 + (1 : Int32))), (2, .long x4), (0, .ref (b + 9))]) hx hb d_Sp_goodPrime_93 hl rfl (by rfl) (by decide) rfl (fun ls hl => ?_)
            refine lv_goto (pc := 96) (tgt := 2) hx hb d_Sp_goodPrime_96 (by decide) ?_
            exact ih2 (v1 + (1 : Int32)) M21 _ _ _ hZ hS (lv_sub hl [2, 0] rfl) hw
          · have hw := hw.2 hc
            refine lv_lload_n (pc := 91) hx hb d_Sp_goodPrime_91 rfl (lv_at hl 0 rfl) ?_
            exact z_lret hx hb hr hlocks hK hT hZ hS ⟨hw, rfl⟩ d_Sp_goodPrime_92
  unfold w_Sp_goodPrime at hw
  refine lv_iconst (pc := 0) (v := 0) hx hb d_Sp_goodPrime_0 (by decide) ?_
  refine lv_istore_n (pc := 1) (lv' := [(1, .int (0 : Int32)), (0, .ref (b + 9))]) hx hb d_Sp_goodPrime_1 rfl hl (by decide) rfl (fun ls hl => ?_)
  obtain ⟨n, hw⟩ := hw
  exact lp2  n (0 : Int32) M _ _ _ hZ hS (lv_sub hl [1, 0] rfl) hw
theorem d_Re_timesX_0 : decode prog_6_method_10_code 0 = .ok (.iload_n 2, 1) := by decide +kernel
theorem d_Re_timesX_1 : decode prog_6_method_10_code 1 = .ok (.iconst 1, 1) := by decide +kernel
theorem d_Re_timesX_2 : decode prog_6_method_10_code 2 = .ok (.if_icmp .lt 9, 3) := by decide +kernel
theorem d_Re_timesX_5 : decode prog_6_method_10_code 5 = .ok (.iload_n 2, 1) := by decide +kernel
theorem d_Re_timesX_6 : decode prog_6_method_10_code 6 = .ok (.bipush 8, 2) := by decide +kernel
theorem d_Re_timesX_8 : decode prog_6_method_10_code 8 = .ok (.if_icmp .lt 4, 3) := by decide +kernel
theorem d_Re_timesX_11 : decode prog_6_method_10_code 11 = .ok (.return_, 1) := by decide +kernel
theorem d_Re_timesX_12 : decode prog_6_method_10_code 12 = .ok (.aload_n 0, 1) := by decide +kernel
theorem d_Re_timesX_13 : decode prog_6_method_10_code 13 = .ok (.iload_n 2, 1) := by decide +kernel
theorem d_Re_timesX_14 : decode prog_6_method_10_code 14 = .ok (.iconst 1, 1) := by decide +kernel
theorem d_Re_timesX_15 : decode prog_6_method_10_code 15 = .ok (.isub, 1) := by decide +kernel
theorem d_Re_timesX_16 : decode prog_6_method_10_code 16 = .ok (.laload, 1) := by decide +kernel
theorem d_Re_timesX_17 : decode prog_6_method_10_code 17 = .ok (.lstore 5, 2) := by decide +kernel
theorem d_Re_timesX_19 : decode prog_6_method_10_code 19 = .ok (.iload_n 2, 1) := by decide +kernel
theorem d_Re_timesX_20 : decode prog_6_method_10_code 20 = .ok (.iconst 1, 1) := by decide +kernel
theorem d_Re_timesX_21 : decode prog_6_method_10_code 21 = .ok (.isub, 1) := by decide +kernel
theorem d_Re_timesX_22 : decode prog_6_method_10_code 22 = .ok (.istore 7, 2) := by decide +kernel
theorem d_Re_timesX_24 : decode prog_6_method_10_code 24 = .ok (.iload 7, 2) := by decide +kernel
theorem d_Re_timesX_26 : decode prog_6_method_10_code 26 = .ok (.ifCond .le 31, 3) := by decide +kernel
theorem d_Re_timesX_29 : decode prog_6_method_10_code 29 = .ok (.aload_n 0, 1) := by decide +kernel
theorem d_Re_timesX_30 : decode prog_6_method_10_code 30 = .ok (.iload 7, 2) := by decide +kernel
theorem d_Re_timesX_32 : decode prog_6_method_10_code 32 = .ok (.aload_n 0, 1) := by decide +kernel
theorem d_Re_timesX_33 : decode prog_6_method_10_code 33 = .ok (.iload 7, 2) := by decide +kernel
theorem d_Re_timesX_35 : decode prog_6_method_10_code 35 = .ok (.iconst 1, 1) := by decide +kernel
theorem d_Re_timesX_36 : decode prog_6_method_10_code 36 = .ok (.isub, 1) := by decide +kernel
theorem d_Re_timesX_37 : decode prog_6_method_10_code 37 = .ok (.laload, 1) := by decide +kernel
theorem d_Re_timesX_38 : decode prog_6_method_10_code 38 = .ok (.lload 5, 2) := by decide +kernel
theorem d_Re_timesX_40 : decode prog_6_method_10_code 40 = .ok (.aload_n 1, 1) := by decide +kernel
theorem d_Re_timesX_41 : decode prog_6_method_10_code 41 = .ok (.iload 7, 2) := by decide +kernel
theorem d_Re_timesX_43 : decode prog_6_method_10_code 43 = .ok (.laload, 1) := by decide +kernel
theorem d_Re_timesX_44 : decode prog_6_method_10_code 44 = .ok (.lmul, 1) := by decide +kernel
theorem d_Re_timesX_45 : decode prog_6_method_10_code 45 = .ok (.lsub, 1) := by decide +kernel
theorem d_Re_timesX_46 : decode prog_6_method_10_code 46 = .ok (.lload_n 3, 1) := by decide +kernel
theorem d_Re_timesX_47 : decode prog_6_method_10_code 47 = .ok (.invokestatic 9, 3) := by decide +kernel
theorem d_Re_timesX_50 : decode prog_6_method_10_code 50 = .ok (.lastore, 1) := by decide +kernel
theorem d_Re_timesX_51 : decode prog_6_method_10_code 51 = .ok (.iinc 7 (-1), 3) := by decide +kernel
theorem d_Re_timesX_54 : decode prog_6_method_10_code 54 = .ok (.goto (-30), 3) := by decide +kernel
theorem d_Re_timesX_57 : decode prog_6_method_10_code 57 = .ok (.aload_n 0, 1) := by decide +kernel
theorem d_Re_timesX_58 : decode prog_6_method_10_code 58 = .ok (.iconst 0, 1) := by decide +kernel
theorem d_Re_timesX_59 : decode prog_6_method_10_code 59 = .ok (.lload 5, 2) := by decide +kernel
theorem d_Re_timesX_61 : decode prog_6_method_10_code 61 = .ok (.lneg, 1) := by decide +kernel
theorem d_Re_timesX_62 : decode prog_6_method_10_code 62 = .ok (.aload_n 1, 1) := by decide +kernel
theorem d_Re_timesX_63 : decode prog_6_method_10_code 63 = .ok (.iconst 0, 1) := by decide +kernel
theorem d_Re_timesX_64 : decode prog_6_method_10_code 64 = .ok (.laload, 1) := by decide +kernel
theorem d_Re_timesX_65 : decode prog_6_method_10_code 65 = .ok (.lmul, 1) := by decide +kernel
theorem d_Re_timesX_66 : decode prog_6_method_10_code 66 = .ok (.lload_n 3, 1) := by decide +kernel
theorem d_Re_timesX_67 : decode prog_6_method_10_code 67 = .ok (.invokestatic 9, 3) := by decide +kernel
theorem d_Re_timesX_70 : decode prog_6_method_10_code 70 = .ok (.lastore, 1) := by decide +kernel
theorem d_Re_timesX_71 : decode prog_6_method_10_code 71 = .ok (.return_, 1) := by decide +kernel
def B_Re_timesX_24 (P : zM → Prop) (a0 : Nat) (a1 : Nat) (a3 : Int64) (v5 : Int64) (k24 : Int32 → zM → Prop) (v7 : Int32) (M : zM) : Prop := (v7 ≤ 0 → vp_in (0 : Int32) (zlong a1) ∧ w_Re_residue ((-v5) * (M a1 (0 : Int32).toNatClampNeg)) a3  (fun r3 => vp_in (0 : Int32) (zlong a0) ∧ ∀ M6 : zM, M6 = zput M a0 (0 : Int32).toNatClampNeg r3 → P M6)) ∧ (¬ v7 ≤ 0 → vp_in (v7 - (1 : Int32)) (zlong a0) ∧ vp_in v7 (zlong a1) ∧ w_Re_residue ((M a0 (v7 - (1 : Int32)).toNatClampNeg) - (v5 * (M a1 v7.toNatClampNeg))) a3  (fun r7 => vp_in v7 (zlong a0) ∧ ∀ M10 : zM, M10 = zput M a0 v7.toNatClampNeg r7 → k24 (v7 + (-1 : Int32)) M10))
def L_Re_timesX_24 (P : zM → Prop) (a0 : Nat) (a1 : Nat) (a3 : Int64) (v5 : Int64) (n : Nat) : Int32 → zM → Prop := Nat.rec (fun _ _ => False) (fun _ k => B_Re_timesX_24 P a0 a1 a3 v5 k) n
def w_Re_timesX (a0 : Nat) (a1 : Nat) (a2 : Int32) (a3 : Int64) (M : zM) (P : zM → Prop) : Prop := (a2 < (1 : Int32) → P M) ∧ (¬ a2 < (1 : Int32) → (a2 < (8 : Int32) → vp_in (a2 - (1 : Int32)) (zlong a0) ∧ ∀ x1 : Int64, x1 = M a0 (a2 - (1 : Int32)).toNatClampNeg → ∀ x2 : Int32, x2 = a2 - (1 : Int32) → ∃ n, L_Re_timesX_24 P a0 a1 a3 x1 n x2 M) ∧ (¬ a2 < (8 : Int32) → P M))
def ws_Re_timesX : List Cond := .code y_Re_timesX prog_6_method_10_code 8 (Option.none : Option Jvm.ClassFile.FieldType) :: zall
def rm_Re_timesX : Room := { frames := 1, cells := 0, slots := 0, locals := 25 }
theorem hd_Re_timesX : y_Re_timesX.cls ≠ "java/lang/invoke/MethodHandle" ∧ y_Re_timesX.cls ≠ "java/lang/invoke/VarHandle" ∧ (parseMethodDescriptor y_Re_timesX.desc).map (fun d => d.parameters.length) = some 4 := by decide +kernel
set_option maxHeartbeats 4000000 in
set_option maxRecDepth 100000 in
theorem c_Re_timesX (l : Launch) (G : zG) (b : Nat) (a0 : Nat) (a1 : Nat) (a2 : Int32) (a3 : Int64) (M : zM) (N : zN) {P : zM → Prop} (hw : w_Re_timesX a0 a1 a2 a3 M P) : Met l y_Re_timesX ws_Re_timesX rm_Re_timesX (zPc G b M N [.ref (b + a0), .ref (b + a1), .int a2, .long a3]) (zQv G b (fun M' N' => P M' ∧ N' = N)) 0 0 (zA b) := by
  refine Met.ofW (cc := prog_6_method_10_code) (maxL := 8) (ret := (Option.none : Option Jvm.ClassFile.FieldType)) (by decide) rfl ?_
  intro p e s m args below meth c s₁ B hml hv
  obtain ⟨rfl, hZ, hK, hT⟩ := hv
  have hx := B.exec
  have hb := B.bytes
  have hr := B.returns
  have hts := atoms_spec (ws := ws_Re_timesX) B.pre
  have hta : ∀ w ∈ zall, w.before ([.ref (b + a0), .ref (b + a1), .int a2, .long a3] : List Value).toArray s = true := fun w h => hts w (List.mem_cons_of_mem _ h)
  have hown : s.vm.findClass R_Re = some m.cls := findClass_of_methodNamed B.named
  have hlocks := B.notSynchronized
  have hS : va_S (zA b) s.heap s.heap [] := va_S.rf
  have hl := lv_entry ([.ref (b + a0), .ref (b + a1), .int a2, .long a3]) (n := 8) (Nat.le_of_ble_eq_true rfl)
  rw [lg_entry_eq]
  generalize (lg_sl ([.ref (b + a0), .ref (b + a1), .int a2, .long a3]) ++ List.replicate (8 - (lg_sl ([.ref (b + a0), .ref (b + a1), .int a2, .long a3])).length) Slot.unset).toArray = ls at hl ⊢
  have hl : lv_has ls 8 [(0, .ref (b + a0)), (1, .ref (b + a1)), (2, .int a2), (3, .long a3)] := hl
  have lp24 : ∀ (v5 : Int64) (n : Nat) (v7 : Int32) (M : zM) (H : Heap) (ls : Array Slot) (locs : List Loc), va_P G.1 zCl (zws G b M N) H → va_S (zA b) s.heap H locs → lv_has ls 8 [(0, .ref (b + a0)), (1, .ref (b + a1)), (3, .long a3), (5, .long v5), (7, .int v7)] → L_Re_timesX_24 P a0 a1 a3 v5 n v7 M → W p l e (headSpec ws_Re_timesX rm_Re_timesX).room s m ([.ref (b + a0), .ref (b + a1), .int a2, .long a3] : List Value).toArray below meth c H locs 0 0 (MQ below (zQv G b (fun M' N' => P M' ∧ N' = N)) ([.ref (b + a0), .ref (b + a1), .int a2, .long a3] : List Value).toArray s 0 0 (zA b)) (F0 m 24 ls []) := by
    intro v5 n
    induction n with
    | zero => intro v7 M H ls locs hZ hS hl hw; exact False.elim hw
    | succ n24 ih24 =>
      intro v7 M H ls locs hZ hS hl hw
      have hw : B_Re_timesX_24 P a0 a1 a3 v5 (L_Re_timesX_24 P a0 a1 a3 v5 n24) v7 M := hw
      unfold B_Re_timesX_24 at hw
      refine lv_iload (pc := 24) hx hb d_Re_timesX_24 (lv_at hl 4 rfl) ?_
      refine lv_if_le (pc := 26) (tgt := 57) hx hb d_Re_timesX_26 (by decide) (fun hc => ?_) (fun hc => ?_)
      · have hw := hw.1 hc
        refine lv_aload_n (pc := 57) hx hb d_Re_timesX_57 rfl (lv_at hl 0 rfl) ?_
        refine lv_iconst (pc := 58) (v := 0) hx hb d_Re_timesX_58 (by decide) ?_
        refine lv_lload (pc := 59) hx hb d_Re_timesX_59 (lv_at hl 3 rfl) ?_
        refine lv_lneg (pc := 61) hx hb d_Re_timesX_61 ?_
        refine lv_aload_n (pc := 62) hx hb d_Re_timesX_62 rfl (lv_at hl 1 rfl) ?_
        refine lv_iconst (pc := 63) (v := 0) hx hb d_Re_timesX_63 (by decide) ?_
        obtain ⟨hc, hw⟩ := hw
        refine z_lald (pc := 64) hx hb hK hZ hc d_Re_timesX_64 ?_
        refine lv_lmul (pc := 65) hx hb d_Re_timesX_65 ?_
        refine lv_lload_n (pc := 66) hx hb d_Re_timesX_66 rfl (lv_at hl 2 rfl) ?_
        refine z_calll (pc := 67) (va_runS (As := [.long ((-v5) * (M a1 (0 : Int32).toNatClampNeg)), .long a3]) (rest := [.int (0 : Int32), .ref (b + a0)]) ⟨hx, hb, hml, hown, hts⟩ (c_Re_residue l G b ((-v5) * (M a1 (0 : Int32).toNatClampNeg)) a3 M N hw) (va_cwS 2 hts (z_good (zgS wd465 wd466 wd18 wd467)) rfl rfl rfl hd_Re_residue ⟨Nat.le_of_ble_eq_true rfl, Nat.le_of_ble_eq_true rfl⟩) (z_preS hZ hK hT hS) rfl rfl hl.1 rfl (lv_room (Nat.le_of_ble_eq_true rfl)) d_Re_timesX_67 ⟨Nat.le_of_ble_eq_true rfl, Nat.le_of_ble_eq_true rfl⟩) hS (fun r3 M4 N5 H locs hw hZ hS => ?_)
        obtain ⟨hw, eM4, eN5⟩ := hw
        rw [eM4, eN5] at hZ
        obtain ⟨hc, hw⟩ := hw
        refine z_last (pc := 70) hx hb hK hZ hS hc d_Re_timesX_70 (fun M6 H locs hM6 hZ hS => ?_)
        have hw := hw M6 hM6
        exact z_vret hx hb hr hlocks hK hT hZ hS ⟨hw, rfl⟩ d_Re_timesX_71
      · have hw := hw.2 hc
        refine lv_aload_n (pc := 29) hx hb d_Re_timesX_29 rfl (lv_at hl 0 rfl) ?_
        refine lv_iload (pc := 30) hx hb d_Re_timesX_30 (lv_at hl 4 rfl) ?_
        refine lv_aload_n (pc := 32) hx hb d_Re_timesX_32 rfl (lv_at hl 0 rfl) ?_
        refine lv_iload (pc := 33) hx hb d_Re_timesX_33 (lv_at hl 4 rfl) ?_
        refine lv_iconst (pc := 35) (v := 1) hx hb d_Re_timesX_35 (by decide) ?_
        refine lv_isub (pc := 36) hx hb d_Re_timesX_36 ?_
        obtain ⟨hc, hw⟩ := hw
        refine z_lald (pc := 37) hx hb hK hZ hc d_Re_timesX_37 ?_
        refine lv_lload (pc := 38) hx hb d_Re_timesX_38 (lv_at hl 3 rfl) ?_
        refine lv_aload_n (pc := 40) hx hb d_Re_timesX_40 rfl (lv_at hl 1 rfl) ?_
        refine lv_iload (pc := 41) hx hb d_Re_timesX_41 (lv_at hl 4 rfl) ?_
        obtain ⟨hc, hw⟩ := hw
        refine z_lald (pc := 43) hx hb hK hZ hc d_Re_timesX_43 ?_
        refine lv_lmul (pc := 44) hx hb d_Re_timesX_44 ?_
        refine lv_lsub (pc := 45) hx hb d_Re_timesX_45 ?_
        refine lv_lload_n (pc := 46) hx hb d_Re_timesX_46 rfl (lv_at hl 2 rfl) ?_
        refine z_calll (pc := 47) (va_runS (As := [.long ((M a0 (v7 - (1 : Int32)).toNatClampNeg) - (v5 * (M a1 v7.toNatClampNeg))), .long a3]) (rest := [.int v7, .ref (b + a0)]) ⟨hx, hb, hml, hown, hts⟩ (c_Re_residue l G b ((M a0 (v7 - (1 : Int32)).toNatClampNeg) - (v5 * (M a1 v7.toNatClampNeg))) a3 M N hw) (va_cwS 2 hts (z_good (zgS wd465 wd466 wd18 wd467)) rfl rfl rfl hd_Re_residue ⟨Nat.le_of_ble_eq_true rfl, Nat.le_of_ble_eq_true rfl⟩) (z_preS hZ hK hT hS) rfl rfl hl.1 rfl (lv_room (Nat.le_of_ble_eq_true rfl)) d_Re_timesX_47 ⟨Nat.le_of_ble_eq_true rfl, Nat.le_of_ble_eq_true rfl⟩) hS (fun r7 M8 N9 H locs hw hZ hS => ?_)
        obtain ⟨hw, eM8, eN9⟩ := hw
        rw [eM8, eN9] at hZ
        obtain ⟨hc, hw⟩ := hw
        refine z_last (pc := 50) hx hb hK hZ hS hc d_Re_timesX_50 (fun M10 H locs hM10 hZ hS => ?_)
        have hw := hw M10 hM10
        refine lv_iinc (pc := 51) (k := 4) (v := v7 + (-1 : Int32)) (lv' := [(7, .int (v7 + (-1 : Int32))), (0, .ref (b + a0)), (1, .ref (b + a1)), (3, .long a3), (5, .long v5)]) hx hb d_Re_timesX_51 hl rfl (by rfl) (by decide) rfl (fun ls hl => ?_)
        refine lv_goto (pc := 54) (tgt := 24) hx hb d_Re_timesX_54 (by decide) ?_
        exact ih24 (v7 + (-1 : Int32)) M10 _ _ _ hZ hS (lv_sub hl [1, 2, 3, 4, 0] rfl) hw
  unfold w_Re_timesX at hw
  refine lv_iload_n (pc := 0) hx hb d_Re_timesX_0 rfl (lv_at hl 2 rfl) ?_
  refine lv_iconst (pc := 1) (v := 1) hx hb d_Re_timesX_1 (by decide) ?_
  refine lv_icmp_lt (pc := 2) (tgt := 11) hx hb d_Re_timesX_2 (by decide) (fun hc => ?_) (fun hc => ?_)
  · have hw := hw.1 hc
    exact z_vret hx hb hr hlocks hK hT hZ hS ⟨hw, rfl⟩ d_Re_timesX_11
  · have hw := hw.2 hc
    refine lv_iload_n (pc := 5) hx hb d_Re_timesX_5 rfl (lv_at hl 2 rfl) ?_
    refine lv_bipush (pc := 6) (v := 8) hx hb d_Re_timesX_6 (by decide) ?_
    refine lv_icmp_lt (pc := 8) (tgt := 12) hx hb d_Re_timesX_8 (by decide) (fun hc => ?_) (fun hc => ?_)
    · have hw := hw.1 hc
      refine lv_aload_n (pc := 12) hx hb d_Re_timesX_12 rfl (lv_at hl 0 rfl) ?_
      refine lv_iload_n (pc := 13) hx hb d_Re_timesX_13 rfl (lv_at hl 2 rfl) ?_
      refine lv_iconst (pc := 14) (v := 1) hx hb d_Re_timesX_14 (by decide) ?_
      refine lv_isub (pc := 15) hx hb d_Re_timesX_15 ?_
      obtain ⟨hc, hw⟩ := hw
      refine z_lald (pc := 16) hx hb hK hZ hc d_Re_timesX_16 ?_
      refine lv_topl (fun x1 hx1 => ?_)
      have hw := hw x1 hx1
      refine lv_lstore (pc := 17) (lv' := [(5, .long x1), (0, .ref (b + a0)), (1, .ref (b + a1)), (2, .int a2), (3, .long a3)]) hx hb d_Re_timesX_17 hl (by decide) rfl (fun ls hl => ?_)
      refine lv_iload_n (pc := 19) hx hb d_Re_timesX_19 rfl (lv_at hl 3 rfl) ?_
      refine lv_iconst (pc := 20) (v := 1) hx hb d_Re_timesX_20 (by decide) ?_
      refine lv_isub (pc := 21) hx hb d_Re_timesX_21 ?_
      refine lv_topi (fun x2 hx2 => ?_)
      have hw := hw x2 hx2
      refine lv_istore (pc := 22) (lv' := [(7, .int x2), (5, .long x1), (0, .ref (b + a0)), (1, .ref (b + a1)), (2, .int a2), (3, .long a3)]) hx hb d_Re_timesX_22 hl (by decide) rfl (fun ls hl => ?_)
      obtain ⟨n, hw⟩ := hw
      exact lp24 x1 n x2 M _ _ _ hZ hS (lv_sub hl [2, 3, 5, 1, 0] rfl) hw
    · have hw := hw.2 hc
      exact z_vret hx hb hr hlocks hK hT hZ hS ⟨hw, rfl⟩ d_Re_timesX_11
