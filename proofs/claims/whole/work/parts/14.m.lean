theorem wsel9 : Cond.selects R_MP y_MP_splitAll y_MP_splitAll ∈ zall := List.mem_filter.mpr ⟨List.mem_append_left _ (List.mem_of_getElem? (i := 9) rfl), by decide +kernel⟩
theorem d_MP_find_0 : decode prog_5_method_3_code 0 = .ok (.aload_n 0, 1) := by decide +kernel
theorem d_MP_find_1 : decode prog_5_method_3_code 1 = .ok (.aload_n 1, 1) := by decide +kernel
theorem d_MP_find_2 : decode prog_5_method_3_code 2 = .ok (.lload_n 2, 1) := by decide +kernel
theorem d_MP_find_3 : decode prog_5_method_3_code 3 = .ok (.invokevirtual 70, 3) := by decide +kernel
theorem d_MP_find_6 : decode prog_5_method_3_code 6 = .ok (.istore 4, 2) := by decide +kernel
theorem d_MP_find_8 : decode prog_5_method_3_code 8 = .ok (.aload_n 0, 1) := by decide +kernel
theorem d_MP_find_9 : decode prog_5_method_3_code 9 = .ok (.getfield 34, 3) := by decide +kernel
theorem d_MP_find_12 : decode prog_5_method_3_code 12 = .ok (.aload_n 0, 1) := by decide +kernel
theorem d_MP_find_13 : decode prog_5_method_3_code 13 = .ok (.getfield 11, 3) := by decide +kernel
theorem d_MP_find_16 : decode prog_5_method_3_code 16 = .ok (.iconst 0, 1) := by decide +kernel
theorem d_MP_find_17 : decode prog_5_method_3_code 17 = .ok (.aaload, 1) := by decide +kernel
theorem d_MP_find_18 : decode prog_5_method_3_code 18 = .ok (.invokestatic 74, 3) := by decide +kernel
theorem d_MP_find_21 : decode prog_5_method_3_code 21 = .ok (.aload_n 0, 1) := by decide +kernel
theorem d_MP_find_22 : decode prog_5_method_3_code 22 = .ok (.iconst 1, 1) := by decide +kernel
theorem d_MP_find_23 : decode prog_5_method_3_code 23 = .ok (.putfield 16, 3) := by decide +kernel
theorem d_MP_find_26 : decode prog_5_method_3_code 26 = .ok (.iconst 1, 1) := by decide +kernel
theorem d_MP_find_27 : decode prog_5_method_3_code 27 = .ok (.istore 5, 2) := by decide +kernel
theorem d_MP_find_29 : decode prog_5_method_3_code 29 = .ok (.iload 5, 2) := by decide +kernel
theorem d_MP_find_31 : decode prog_5_method_3_code 31 = .ok (.iload 4, 2) := by decide +kernel
theorem d_MP_find_33 : decode prog_5_method_3_code 33 = .ok (.if_icmp .ge 59, 3) := by decide +kernel
theorem d_MP_find_36 : decode prog_5_method_3_code 36 = .ok (.aload_n 0, 1) := by decide +kernel
theorem d_MP_find_37 : decode prog_5_method_3_code 37 = .ok (.getfield 16, 3) := by decide +kernel
theorem d_MP_find_40 : decode prog_5_method_3_code 40 = .ok (.iload 4, 2) := by decide +kernel
theorem d_MP_find_42 : decode prog_5_method_3_code 42 = .ok (.if_icmp .ge 50, 3) := by decide +kernel
theorem d_MP_find_45 : decode prog_5_method_3_code 45 = .ok (.iconst 0, 1) := by decide +kernel
theorem d_MP_find_46 : decode prog_5_method_3_code 46 = .ok (.istore 6, 2) := by decide +kernel
theorem d_MP_find_48 : decode prog_5_method_3_code 48 = .ok (.iload 6, 2) := by decide +kernel
theorem d_MP_find_50 : decode prog_5_method_3_code 50 = .ok (.i2l, 1) := by decide +kernel
theorem d_MP_find_51 : decode prog_5_method_3_code 51 = .ok (.lload_n 2, 1) := by decide +kernel
theorem d_MP_find_52 : decode prog_5_method_3_code 52 = .ok (.lcmp, 1) := by decide +kernel
theorem d_MP_find_53 : decode prog_5_method_3_code 53 = .ok (.ifCond .ge 33, 3) := by decide +kernel
theorem d_MP_find_56 : decode prog_5_method_3_code 56 = .ok (.aload_n 0, 1) := by decide +kernel
theorem d_MP_find_57 : decode prog_5_method_3_code 57 = .ok (.getfield 16, 3) := by decide +kernel
theorem d_MP_find_60 : decode prog_5_method_3_code 60 = .ok (.iload 4, 2) := by decide +kernel
theorem d_MP_find_62 : decode prog_5_method_3_code 62 = .ok (.if_icmp .ge 24, 3) := by decide +kernel
theorem d_MP_find_65 : decode prog_5_method_3_code 65 = .ok (.aload_n 0, 1) := by decide +kernel
theorem d_MP_find_66 : decode prog_5_method_3_code 66 = .ok (.aload_n 0, 1) := by decide +kernel
theorem d_MP_find_67 : decode prog_5_method_3_code 67 = .ok (.getfield 23, 3) := by decide +kernel
theorem d_MP_find_70 : decode prog_5_method_3_code 70 = .ok (.iload 5, 2) := by decide +kernel
theorem d_MP_find_72 : decode prog_5_method_3_code 72 = .ok (.aaload, 1) := by decide +kernel
theorem d_MP_find_73 : decode prog_5_method_3_code 73 = .ok (.iload 6, 2) := by decide +kernel
theorem d_MP_find_75 : decode prog_5_method_3_code 75 = .ok (.i2l, 1) := by decide +kernel
theorem d_MP_find_76 : decode prog_5_method_3_code 76 = .ok (.lload_n 2, 1) := by decide +kernel
theorem d_MP_find_77 : decode prog_5_method_3_code 77 = .ok (.invokevirtual 78, 3) := by decide +kernel
theorem d_MP_find_80 : decode prog_5_method_3_code 80 = .ok (.iinc 6 1, 3) := by decide +kernel
theorem d_MP_find_83 : decode prog_5_method_3_code 83 = .ok (.goto (-35), 3) := by decide +kernel
theorem d_MP_find_86 : decode prog_5_method_3_code 86 = .ok (.iinc 5 1, 3) := by decide +kernel
theorem d_MP_find_89 : decode prog_5_method_3_code 89 = .ok (.goto (-60), 3) := by decide +kernel
theorem d_MP_find_92 : decode prog_5_method_3_code 92 = .ok (.return_, 1) := by decide +kernel
def B_MP_find_48 (P : zM → zN → Prop) (k29 : Int32 → zM → zN → Prop) (a2 : Int64) (v4 : Int32) (v5 : Int32) (k48 : Int32 → zM → zN → Prop) (v6 : Int32) (M : zM) (N : zN) : Prop := (a2 ≤ v6.toInt64 → k29 (v5 + (1 : Int32)) M N) ∧ (¬ a2 ≤ v6.toInt64 → (v4 ≤ (N 17 1) → k29 (v5 + (1 : Int32)) M N) ∧ (¬ v4 ≤ (N 17 1) → vp_in v5 (zgn 36) ∧ w_MP_splitAll (36 + 1 + v5.toNatClampNeg) v6.toInt64 a2 M N (fun M9 N10 => k48 (v6 + (1 : Int32)) M9 N10)))
def L_MP_find_48 (P : zM → zN → Prop) (k29 : Int32 → zM → zN → Prop) (a2 : Int64) (v4 : Int32) (v5 : Int32) (n : Nat) : Int32 → zM → zN → Prop := Nat.rec (fun _ _ _ => False) (fun _ k => B_MP_find_48 P k29 a2 v4 v5 k) n
def B_MP_find_29 (P : zM → zN → Prop) (a2 : Int64) (v4 : Int32) (k29 : Int32 → zM → zN → Prop) (v5 : Int32) (M : zM) (N : zN) : Prop := (v4 ≤ v5 → P M N) ∧ (¬ v4 ≤ v5 → (v4 ≤ (N 17 1) → P M N) ∧ (¬ v4 ≤ (N 17 1) → ∃ n, L_MP_find_48 P k29 a2 v4 v5 n (0 : Int32) M N))
def L_MP_find_29 (P : zM → zN → Prop) (a2 : Int64) (v4 : Int32) (n : Nat) : Int32 → zM → zN → Prop := Nat.rec (fun _ _ _ => False) (fun _ k => B_MP_find_29 P a2 v4 k) n
def w_MP_find (a1 : Nat) (a2 : Int64) (M : zM) (N : zN) (P : zM → zN → Prop) : Prop := w_MP_countOf a1 a2 M N (fun r1 M2 N3 => vp_in (0 : Int32) (zgn 18) ∧ w_Ro_copyInto 47 (18 + 1 + (0 : Int32).toNatClampNeg) M2 (fun M5 => ∀ N7 : zN, N7 = zpui N3 17 1 (1 : Int32) → ∃ n, L_MP_find_29 P a2 r1 n (1 : Int32) M5 N7))
def ws_MP_find : List Cond := .code y_MP_find prog_5_method_3_code 7 (Option.none : Option Jvm.ClassFile.FieldType) :: zall
def rm_MP_find : Room := { frames := 4, cells := 0, slots := 0, locals := 117 }
theorem hd_MP_find : y_MP_find.cls ≠ "java/lang/invoke/MethodHandle" ∧ y_MP_find.cls ≠ "java/lang/invoke/VarHandle" ∧ (parseMethodDescriptor y_MP_find.desc).map (fun d => d.parameters.length) = some 2 := by decide +kernel
set_option maxHeartbeats 4000000 in
set_option maxRecDepth 100000 in
theorem c_MP_find (l : Launch) (G : zG) (b : Nat) (a1 : Nat) (a2 : Int64) (M : zM) (N : zN) {P : zM → zN → Prop} (hw : w_MP_find a1 a2 M N P) : Met l y_MP_find ws_MP_find rm_MP_find (zPc G b M N [.ref (b + 17), .ref (b + a1), .long a2]) (zQv G b (fun M' N' => P M' N')) 0 0 (zA b) := by
  refine Met.ofW (cc := prog_5_method_3_code) (maxL := 7) (ret := (Option.none : Option Jvm.ClassFile.FieldType)) (by decide) rfl ?_
  intro p e s m args below meth c s₁ B hml hv
  obtain ⟨rfl, hZ, hK, hT⟩ := hv
  have hx := B.exec
  have hb := B.bytes
  have hr := B.returns
  have hts := atoms_spec (ws := ws_MP_find) B.pre
  have hta : ∀ w ∈ zall, w.before ([.ref (b + 17), .ref (b + a1), .long a2] : List Value).toArray s = true := fun w h => hts w (List.mem_cons_of_mem _ h)
  have hown : s.vm.findClass R_MP = some m.cls := findClass_of_methodNamed B.named
  have hlocks := B.notSynchronized
  have hS : va_S (zA b) s.heap s.heap [] := va_S.rf
  have hl := lv_entry ([.ref (b + 17), .ref (b + a1), .long a2]) (n := 7) (Nat.le_of_ble_eq_true rfl)
  rw [lg_entry_eq]
  generalize (lg_sl ([.ref (b + 17), .ref (b + a1), .long a2]) ++ List.replicate (7 - (lg_sl ([.ref (b + 17), .ref (b + a1), .long a2])).length) Slot.unset).toArray = ls at hl ⊢
  have hl : lv_has ls 7 [(0, .ref (b + 17)), (1, .ref (b + a1)), (2, .long a2)] := hl
  have lp29 : ∀ (v4 : Int32) (n : Nat) (v5 : Int32) (M : zM) (N : zN) (H : Heap) (ls : Array Slot) (locs : List Loc), va_P G.1 zCl (zws G b M N) H → va_S (zA b) s.heap H locs → lv_has ls 7 [(0, .ref (b + 17)), (2, .long a2), (4, .int v4), (5, .int v5)] → L_MP_find_29 P a2 v4 n v5 M N → W p l e (headSpec ws_MP_find rm_MP_find).room s m ([.ref (b + 17), .ref (b + a1), .long a2] : List Value).toArray below meth c H locs 0 0 (MQ below (zQv G b (fun M' N' => P M' N')) ([.ref (b + 17), .ref (b + a1), .long a2] : List Value).toArray s 0 0 (zA b)) (F0 m 29 ls []) := by
    intro v4 n
    induction n with
    | zero => intro v5 M N H ls locs hZ hS hl hw; exact False.elim hw
    | succ n29 ih29 =>
      have lp48 : ∀ (v5 : Int32) (n : Nat) (v6 : Int32) (M : zM) (N : zN) (H : Heap) (ls : Array Slot) (locs : List Loc), va_P G.1 zCl (zws G b M N) H → va_S (zA b) s.heap H locs → lv_has ls 7 [(0, .ref (b + 17)), (2, .long a2), (4, .int v4), (5, .int v5), (6, .int v6)] → L_MP_find_48 P (L_MP_find_29 P a2 v4 n29) a2 v4 v5 n v6 M N → W p l e (headSpec ws_MP_find rm_MP_find).room s m ([.ref (b + 17), .ref (b + a1), .long a2] : List Value).toArray below meth c H locs 0 0 (MQ below (zQv G b (fun M' N' => P M' N')) ([.ref (b + 17), .ref (b + a1), .long a2] : List Value).toArray s 0 0 (zA b)) (F0 m 48 ls []) := by
        intro v5 n
        induction n with
        | zero => intro v6 M N H ls locs hZ hS hl hw; exact False.elim hw
        | succ n48 ih48 =>
          intro v6 M N H ls locs hZ hS hl hw
          have hw : B_MP_find_48 P (L_MP_find_29 P a2 v4 n29) a2 v4 v5 (L_MP_find_48 P (L_MP_find_29 P a2 v4 n29) a2 v4 v5 n48) v6 M N := hw
          unfold B_MP_find_48 at hw
          refine lv_iload (pc := 48) hx hb d_MP_find_48 (lv_at hl 4 rfl) ?_
          refine lv_i2l (pc := 50) (v := v6.toInt64) hx hb d_MP_find_50 rfl ?_
          refine lv_lload_n (pc := 51) hx hb d_MP_find_51 rfl (lv_at hl 1 rfl) ?_
          refine z_lc_ge (pc := 52) (tgt := 86) hx hb d_MP_find_52 d_MP_find_53 (by decide) (fun hc => ?_) (fun hc => ?_)
          · have hw := hw.1 hc
            refine lv_iinc (pc := 86) (k := 3) (v := v5 + (1 : Int32)) (lv' := [(5, .int (v5 + (1 : Int32))), (0, .ref (b + 17)), (2, .long a2), (4, .int v4), (6, .int v6)]) hx hb d_MP_find_86 hl rfl (by rfl) (by decide) rfl (fun ls hl => ?_)
            refine lv_goto (pc := 89) (tgt := 29) hx hb d_MP_find_89 (by decide) ?_
            exact ih29 (v5 + (1 : Int32)) M N _ _ _ hZ hS (lv_sub hl [1, 2, 3, 0] rfl) hw
          · have hw := hw.2 hc
            refine lv_aload_n (pc := 56) hx hb d_MP_find_56 rfl (lv_at hl 0 rfl) ?_
            refine zg_MP_16 (pc := 57) hx hb hta hown hK hZ d_MP_find_57 ?_
            refine lv_iload (pc := 60) hx hb d_MP_find_60 (lv_at hl 2 rfl) ?_
            refine lv_icmp_ge (pc := 62) (tgt := 86) hx hb d_MP_find_62 (by decide) (fun hc => ?_) (fun hc => ?_)
            · have hw := hw.1 hc
              refine lv_iinc (pc := 86) (k := 3) (v := v5 + (1 : Int32)) (lv' := [(5, .int (v5 + (1 : Int32))), (0, .ref (b + 17)), (2, .long a2), (4, .int v4), (6, .int v6)]) hx hb d_MP_find_86 hl rfl (by rfl) (by decide) rfl (fun ls hl => ?_)
              refine lv_goto (pc := 89) (tgt := 29) hx hb d_MP_find_89 (by decide) ?_
              exact ih29 (v5 + (1 : Int32)) M N _ _ _ hZ hS (lv_sub hl [1, 2, 3, 0] rfl) hw
            · have hw := hw.2 hc
              refine lv_aload_n (pc := 65) hx hb d_MP_find_65 rfl (lv_at hl 0 rfl) ?_
              refine lv_aload_n (pc := 66) hx hb d_MP_find_66 rfl (lv_at hl 0 rfl) ?_
              refine zg_MP_23 (pc := 67) hx hb hta hown hK hZ d_MP_find_67 ?_
              refine lv_iload (pc := 70) hx hb d_MP_find_70 (lv_at hl 3 rfl) ?_
              obtain ⟨hc, hw⟩ := hw
              refine z_aald (pc := 72) hx hb hK hZ hc d_MP_find_72 ?_
              refine lv_iload (pc := 73) hx hb d_MP_find_73 (lv_at hl 4 rfl) ?_
              refine lv_i2l (pc := 75) (v := v6.toInt64) hx hb d_MP_find_75 rfl ?_
              refine lv_lload_n (pc := 76) hx hb d_MP_find_76 rfl (lv_at hl 1 rfl) ?_
              refine z_callv (pc := 77) (va_runV (C := R_MP) (b := b + 17) (As := [.ref (b + (36 + 1 + v5.toNatClampNeg)), .long v6.toInt64, .long a2]) (rest := []) ⟨hx, hb, hml, hown, hts⟩ (c_MP_splitAll l G b (36 + 1 + v5.toNatClampNeg) v6.toInt64 a2 M N hw) (cwV 3 hts (z_good (zgV wd572 wd574 wsel9 wd4 wd575)) rfl rfl rfl ⟨rfl, hd_MP_splitAll⟩ ⟨Nat.le_of_ble_eq_true rfl, Nat.le_of_ble_eq_true rfl⟩) (z_preV zo_MP rfl rfl hZ hK hT hS) rfl rfl hl.1 rfl (lv_room (Nat.le_of_ble_eq_true rfl)) d_MP_find_77 ⟨Nat.le_of_ble_eq_true rfl, Nat.le_of_ble_eq_true rfl⟩) hS (fun M9 N10 H locs hw hZ hS => ?_)
              refine lv_iinc (pc := 80) (k := 4) (v := v6 + (1 : Int32)) (lv' := [(6, .int (v6 + (1 : Int32))), (0, .ref (b + 17)), (2, .long a2), (4, .int v4), (5, .int v5)]) hx hb d_MP_find_80 hl rfl (by rfl) (by decide) rfl (fun ls hl => ?_)
              refine lv_goto (pc := 83) (tgt := 48) hx hb d_MP_find_83 (by decide) ?_
              exact ih48 (v6 + (1 : Int32)) M9 N10 _ _ _ hZ hS (lv_sub hl [1, 2, 3, 4, 0] rfl) hw
      intro v5 M N H ls locs hZ hS hl hw
      have hw : B_MP_find_29 P a2 v4 (L_MP_find_29 P a2 v4 n29) v5 M N := hw
      unfold B_MP_find_29 at hw
      refine lv_iload (pc := 29) hx hb d_MP_find_29 (lv_at hl 3 rfl) ?_
      refine lv_iload (pc := 31) hx hb d_MP_find_31 (lv_at hl 2 rfl) ?_
      refine lv_icmp_ge (pc := 33) (tgt := 92) hx hb d_MP_find_33 (by decide) (fun hc => ?_) (fun hc => ?_)
      · have hw := hw.1 hc
        exact z_vret hx hb hr hlocks hK hT hZ hS hw d_MP_find_92
      · have hw := hw.2 hc
        refine lv_aload_n (pc := 36) hx hb d_MP_find_36 rfl (lv_at hl 0 rfl) ?_
        refine zg_MP_16 (pc := 37) hx hb hta hown hK hZ d_MP_find_37 ?_
        refine lv_iload (pc := 40) hx hb d_MP_find_40 (lv_at hl 2 rfl) ?_
        refine lv_icmp_ge (pc := 42) (tgt := 92) hx hb d_MP_find_42 (by decide) (fun hc => ?_) (fun hc => ?_)
        · have hw := hw.1 hc
          exact z_vret hx hb hr hlocks hK hT hZ hS hw d_MP_find_92
        · have hw := hw.2 hc
          refine lv_iconst (pc := 45) (v := 0) hx hb d_MP_find_45 (by decide) ?_
          refine lv_istore (pc := 46) (lv' := [(6, .int (0 : Int32)), (0, .ref (b + 17)), (2, .long a2), (4, .int v4), (5, .int v5)]) hx hb d_MP_find_46 hl (by decide) rfl (fun ls hl => ?_)
          obtain ⟨n, hw⟩ := hw
          exact lp48 v5 n (0 : Int32) M N _ _ _ hZ hS (lv_sub hl [1, 2, 3, 4, 0] rfl) hw
  unfold w_MP_find at hw
  refine lv_aload_n (pc := 0) hx hb d_MP_find_0 rfl (lv_at hl 0 rfl) ?_
  refine lv_aload_n (pc := 1) hx hb d_MP_find_1 rfl (lv_at hl 1 rfl) ?_
  refine lv_lload_n (pc := 2) hx hb d_MP_find_2 rfl (lv_at hl 2 rfl) ?_
  refine z_calli (pc := 3) (va_runV (C := R_MP) (b := b + 17) (As := [.ref (b + a1), .long a2]) (rest := []) ⟨hx, hb, hml, hown, hts⟩ (c_MP_countOf l G b a1 a2 M N hw) (cwV 2 hts (z_good (zgV wd535 wd536 wd537 wd4 wd538)) rfl rfl rfl ⟨rfl, hd_MP_countOf⟩ ⟨Nat.le_of_ble_eq_true rfl, Nat.le_of_ble_eq_true rfl⟩) (z_preV zo_MP rfl rfl hZ hK hT hS) rfl rfl hl.1 rfl (lv_room (Nat.le_of_ble_eq_true rfl)) d_MP_find_3 ⟨Nat.le_of_ble_eq_true rfl, Nat.le_of_ble_eq_true rfl⟩) hS (fun r1 M2 N3 H locs hw hZ hS => ?_)
  refine lv_istore (pc := 6) (lv' := [(4, .int r1), (0, .ref (b + 17)), (1, .ref (b + a1)), (2, .long a2)]) hx hb d_MP_find_6 hl (by decide) rfl (fun ls hl => ?_)
  refine lv_aload_n (pc := 8) hx hb d_MP_find_8 rfl (lv_at hl 1 rfl) ?_
  refine zg_MP_34 (pc := 9) hx hb hta hown hK hZ d_MP_find_9 ?_
  refine lv_aload_n (pc := 12) hx hb d_MP_find_12 rfl (lv_at hl 1 rfl) ?_
  refine zg_MP_11 (pc := 13) hx hb hta hown hK hZ d_MP_find_13 ?_
  refine lv_iconst (pc := 16) (v := 0) hx hb d_MP_find_16 (by decide) ?_
  obtain ⟨hc, hw⟩ := hw
  refine z_aald (pc := 17) hx hb hK hZ hc d_MP_find_17 ?_
  refine z_callv (pc := 18) (va_runS (As := [.ref (b + 47), .ref (b + (18 + 1 + (0 : Int32).toNatClampNeg))]) (rest := []) ⟨hx, hb, hml, hown, hts⟩ (c_Ro_copyInto l G b 47 (18 + 1 + (0 : Int32).toNatClampNeg) M2 N3 hw) (va_cwS 2 hts (z_good (zgS wd547 wd363 wd13 wd364)) rfl rfl rfl hd_Ro_copyInto ⟨Nat.le_of_ble_eq_true rfl, Nat.le_of_ble_eq_true rfl⟩) (z_preS hZ hK hT hS) rfl rfl hl.1 rfl (lv_room (Nat.le_of_ble_eq_true rfl)) d_MP_find_18 ⟨Nat.le_of_ble_eq_true rfl, Nat.le_of_ble_eq_true rfl⟩) hS (fun M5 N6 H locs hw hZ hS => ?_)
  obtain ⟨hw, eN6⟩ := hw
  rw [eN6] at hZ
  refine lv_aload_n (pc := 21) hx hb d_MP_find_21 rfl (lv_at hl 1 rfl) ?_
  refine lv_iconst (pc := 22) (v := 1) hx hb d_MP_find_22 (by decide) ?_
  refine zp_MP_16 (pc := 23) hx hb hta hown hK hZ hS d_MP_find_23 (fun N7 H locs hN7 hZ hS => ?_)
  have hw := hw N7 hN7
  refine lv_iconst (pc := 26) (v := 1) hx hb d_MP_find_26 (by decide) ?_
  refine lv_istore (pc := 27) (lv' := [(5, .int (1 : Int32)), (4, .int r1), (0, .ref (b + 17)), (1, .ref (b + a1)), (2, .long a2)]) hx hb d_MP_find_27 hl (by decide) rfl (fun ls hl => ?_)
  obtain ⟨n, hw⟩ := hw
  exact lp29 r1 n (1 : Int32) M5 N7 _ _ _ hZ hS (lv_sub hl [2, 4, 1, 0] rfl) hw
theorem d_Re_productInto_0 : decode prog_6_method_11_code 0 = .ok (.aload_n 3, 1) := by decide +kernel
theorem d_Re_productInto_1 : decode prog_6_method_11_code 1 = .ok (.lconst 0, 1) := by decide +kernel
theorem d_Re_productInto_2 : decode prog_6_method_11_code 2 = .ok (.invokestatic 26, 3) := by decide +kernel
theorem d_Re_productInto_5 : decode prog_6_method_11_code 5 = .ok (.aload_n 2, 1) := by decide +kernel
theorem d_Re_productInto_6 : decode prog_6_method_11_code 6 = .ok (.invokestatic 17, 3) := by decide +kernel
theorem d_Re_productInto_9 : decode prog_6_method_11_code 9 = .ok (.istore 6, 2) := by decide +kernel
theorem d_Re_productInto_11 : decode prog_6_method_11_code 11 = .ok (.aload_n 0, 1) := by decide +kernel
theorem d_Re_productInto_12 : decode prog_6_method_11_code 12 = .ok (.invokestatic 17, 3) := by decide +kernel
theorem d_Re_productInto_15 : decode prog_6_method_11_code 15 = .ok (.istore 7, 2) := by decide +kernel
theorem d_Re_productInto_17 : decode prog_6_method_11_code 17 = .ok (.iload 7, 2) := by decide +kernel
theorem d_Re_productInto_19 : decode prog_6_method_11_code 19 = .ok (.ifCond .lt 57, 3) := by decide +kernel
theorem d_Re_productInto_22 : decode prog_6_method_11_code 22 = .ok (.aload_n 3, 1) := by decide +kernel
theorem d_Re_productInto_23 : decode prog_6_method_11_code 23 = .ok (.aload_n 2, 1) := by decide +kernel
theorem d_Re_productInto_24 : decode prog_6_method_11_code 24 = .ok (.iload 6, 2) := by decide +kernel
theorem d_Re_productInto_26 : decode prog_6_method_11_code 26 = .ok (.lload 4, 2) := by decide +kernel
theorem d_Re_productInto_28 : decode prog_6_method_11_code 28 = .ok (.invokestatic 39, 3) := by decide +kernel
theorem d_Re_productInto_31 : decode prog_6_method_11_code 31 = .ok (.iconst 0, 1) := by decide +kernel
theorem d_Re_productInto_32 : decode prog_6_method_11_code 32 = .ok (.istore 8, 2) := by decide +kernel
theorem d_Re_productInto_34 : decode prog_6_method_11_code 34 = .ok (.iload 8, 2) := by decide +kernel
theorem d_Re_productInto_36 : decode prog_6_method_11_code 36 = .ok (.iload 6, 2) := by decide +kernel
theorem d_Re_productInto_38 : decode prog_6_method_11_code 38 = .ok (.if_icmp .ge 32, 3) := by decide +kernel
theorem d_Re_productInto_41 : decode prog_6_method_11_code 41 = .ok (.aload_n 3, 1) := by decide +kernel
theorem d_Re_productInto_42 : decode prog_6_method_11_code 42 = .ok (.iload 8, 2) := by decide +kernel
theorem d_Re_productInto_44 : decode prog_6_method_11_code 44 = .ok (.aload_n 3, 1) := by decide +kernel
theorem d_Re_productInto_45 : decode prog_6_method_11_code 45 = .ok (.iload 8, 2) := by decide +kernel
theorem d_Re_productInto_47 : decode prog_6_method_11_code 47 = .ok (.laload, 1) := by decide +kernel
theorem d_Re_productInto_48 : decode prog_6_method_11_code 48 = .ok (.aload_n 0, 1) := by decide +kernel
theorem d_Re_productInto_49 : decode prog_6_method_11_code 49 = .ok (.iload 7, 2) := by decide +kernel
theorem d_Re_productInto_51 : decode prog_6_method_11_code 51 = .ok (.laload, 1) := by decide +kernel
theorem d_Re_productInto_52 : decode prog_6_method_11_code 52 = .ok (.aload_n 1, 1) := by decide +kernel
theorem d_Re_productInto_53 : decode prog_6_method_11_code 53 = .ok (.iload 8, 2) := by decide +kernel
theorem d_Re_productInto_55 : decode prog_6_method_11_code 55 = .ok (.laload, 1) := by decide +kernel
theorem d_Re_productInto_56 : decode prog_6_method_11_code 56 = .ok (.lmul, 1) := by decide +kernel
theorem d_Re_productInto_57 : decode prog_6_method_11_code 57 = .ok (.ladd, 1) := by decide +kernel
theorem d_Re_productInto_58 : decode prog_6_method_11_code 58 = .ok (.lload 4, 2) := by decide +kernel
theorem d_Re_productInto_60 : decode prog_6_method_11_code 60 = .ok (.invokestatic 9, 3) := by decide +kernel
theorem d_Re_productInto_63 : decode prog_6_method_11_code 63 = .ok (.lastore, 1) := by decide +kernel
theorem d_Re_productInto_64 : decode prog_6_method_11_code 64 = .ok (.iinc 8 1, 3) := by decide +kernel
theorem d_Re_productInto_67 : decode prog_6_method_11_code 67 = .ok (.goto (-33), 3) := by decide +kernel
theorem d_Re_productInto_70 : decode prog_6_method_11_code 70 = .ok (.iinc 7 (-1), 3) := by decide +kernel
theorem d_Re_productInto_73 : decode prog_6_method_11_code 73 = .ok (.goto (-56), 3) := by decide +kernel
theorem d_Re_productInto_76 : decode prog_6_method_11_code 76 = .ok (.return_, 1) := by decide +kernel
def B_Re_productInto_34 (P : zM → Prop) (k17 : Int32 → zM → Prop) (a0 : Nat) (a1 : Nat) (a2 : Nat) (a3 : Nat) (a4 : Int64) (v6 : Int32) (v7 : Int32) (k34 : Int32 → zM → Prop) (v8 : Int32) (M : zM) : Prop := (v6 ≤ v8 → k17 (v7 + (-1 : Int32)) M) ∧ (¬ v6 ≤ v8 → vp_in v8 (zlong a3) ∧ vp_in v7 (zlong a0) ∧ vp_in v8 (zlong a1) ∧ w_Re_residue ((M a3 v8.toNatClampNeg) + ((M a0 v7.toNatClampNeg) * (M a1 v8.toNatClampNeg))) a4  (fun r13 => vp_in v8 (zlong a3) ∧ ∀ M16 : zM, M16 = zput M a3 v8.toNatClampNeg r13 → k34 (v8 + (1 : Int32)) M16))
def L_Re_productInto_34 (P : zM → Prop) (k17 : Int32 → zM → Prop) (a0 : Nat) (a1 : Nat) (a2 : Nat) (a3 : Nat) (a4 : Int64) (v6 : Int32) (v7 : Int32) (n : Nat) : Int32 → zM → Prop := Nat.rec (fun _ _ => False) (fun _ k => B_Re_productInto_34 P k17 a0 a1 a2 a3 a4 v6 v7 k) n
def B_Re_productInto_17 (P : zM → Prop) (a0 : Nat) (a1 : Nat) (a2 : Nat) (a3 : Nat) (a4 : Int64) (v6 : Int32) (k17 : Int32 → zM → Prop) (v7 : Int32) (M : zM) : Prop := (v7 < 0 → P M) ∧ (¬ v7 < 0 → w_Re_timesX a3 a2 v6 a4 M (fun M11 => ∃ n, L_Re_productInto_34 P k17 a0 a1 a2 a3 a4 v6 v7 n (0 : Int32) M11))
def L_Re_productInto_17 (P : zM → Prop) (a0 : Nat) (a1 : Nat) (a2 : Nat) (a3 : Nat) (a4 : Int64) (v6 : Int32) (n : Nat) : Int32 → zM → Prop := Nat.rec (fun _ _ => False) (fun _ k => B_Re_productInto_17 P a0 a1 a2 a3 a4 v6 k) n
def w_Re_productInto (a0 : Nat) (a1 : Nat) (a2 : Nat) (a3 : Nat) (a4 : Int64) (M : zM) (P : zM → Prop) : Prop := w_Ar_fillJ a3 (0 : Int64) M (fun M2 => w_Ro_degreeOf a2 M2 (fun r4 => w_Ro_degreeOf a0 M2 (fun r7 => ∃ n, L_Re_productInto_17 P a0 a1 a2 a3 a4 r4 n r7 M2)))
def ws_Re_productInto : List Cond := .code y_Re_productInto prog_6_method_11_code 9 (Option.none : Option Jvm.ClassFile.FieldType) :: zall
def rm_Re_productInto : Room := { frames := 2, cells := 0, slots := 0, locals := 52 }
theorem hd_Re_productInto : y_Re_productInto.cls ≠ "java/lang/invoke/MethodHandle" ∧ y_Re_productInto.cls ≠ "java/lang/invoke/VarHandle" ∧ (parseMethodDescriptor y_Re_productInto.desc).map (fun d => d.parameters.length) = some 5 := by decide +kernel
set_option maxHeartbeats 4000000 in
set_option maxRecDepth 100000 in
theorem c_Re_productInto (l : Launch) (G : zG) (b : Nat) (a0 : Nat) (a1 : Nat) (a2 : Nat) (a3 : Nat) (a4 : Int64) (M : zM) (N : zN) {P : zM → Prop} (hw : w_Re_productInto a0 a1 a2 a3 a4 M P) : Met l y_Re_productInto ws_Re_productInto rm_Re_productInto (zPc G b M N [.ref (b + a0), .ref (b + a1), .ref (b + a2), .ref (b + a3), .long a4]) (zQv G b (fun M' N' => P M' ∧ N' = N)) 0 0 (zA b) := by
  refine Met.ofW (cc := prog_6_method_11_code) (maxL := 9) (ret := (Option.none : Option Jvm.ClassFile.FieldType)) (by decide) rfl ?_
  intro p e s m args below meth c s₁ B hml hv
  obtain ⟨rfl, hZ, hK, hT⟩ := hv
  have hx := B.exec
  have hb := B.bytes
  have hr := B.returns
  have hts := atoms_spec (ws := ws_Re_productInto) B.pre
  have hta : ∀ w ∈ zall, w.before ([.ref (b + a0), .ref (b + a1), .ref (b + a2), .ref (b + a3), .long a4] : List Value).toArray s = true := fun w h => hts w (List.mem_cons_of_mem _ h)
  have hown : s.vm.findClass R_Re = some m.cls := findClass_of_methodNamed B.named
  have hlocks := B.notSynchronized
  have hS : va_S (zA b) s.heap s.heap [] := va_S.rf
  have hl := lv_entry ([.ref (b + a0), .ref (b + a1), .ref (b + a2), .ref (b + a3), .long a4]) (n := 9) (Nat.le_of_ble_eq_true rfl)
  rw [lg_entry_eq]
  generalize (lg_sl ([.ref (b + a0), .ref (b + a1), .ref (b + a2), .ref (b + a3), .long a4]) ++ List.replicate (9 - (lg_sl ([.ref (b + a0), .ref (b + a1), .ref (b + a2), .ref (b + a3), .long a4])).length) Slot.unset).toArray = ls at hl ⊢
  have hl : lv_has ls 9 [(0, .ref (b + a0)), (1, .ref (b + a1)), (2, .ref (b + a2)), (3, .ref (b + a3)), (4, .long a4)] := hl
  have lp17 : ∀ (v6 : Int32) (n : Nat) (v7 : Int32) (M : zM) (H : Heap) (ls : Array Slot) (locs : List Loc), va_P G.1 zCl (zws G b M N) H → va_S (zA b) s.heap H locs → lv_has ls 9 [(0, .ref (b + a0)), (1, .ref (b + a1)), (2, .ref (b + a2)), (3, .ref (b + a3)), (4, .long a4), (6, .int v6), (7, .int v7)] → L_Re_productInto_17 P a0 a1 a2 a3 a4 v6 n v7 M → W p l e (headSpec ws_Re_productInto rm_Re_productInto).room s m ([.ref (b + a0), .ref (b + a1), .ref (b + a2), .ref (b + a3), .long a4] : List Value).toArray below meth c H locs 0 0 (MQ below (zQv G b (fun M' N' => P M' ∧ N' = N)) ([.ref (b + a0), .ref (b + a1), .ref (b + a2), .ref (b + a3), .long a4] : List Value).toArray s 0 0 (zA b)) (F0 m 17 ls []) := by
    intro v6 n
    induction n with
    | zero => intro v7 M H ls locs hZ hS hl hw; exact False.elim hw
    | succ n17 ih17 =>
      have lp34 : ∀ (v7 : Int32) (n : Nat) (v8 : Int32) (M : zM) (H : Heap) (ls : Array Slot) (locs : List Loc), va_P G.1 zCl (zws G b M N) H → va_S (zA b) s.heap H locs → lv_has ls 9 [(0, .ref (b + a0)), (1, .ref (b + a1)), (2, .ref (b + a2)), (3, .ref (b + a3)), (4, .long a4), (6, .int v6), (7, .int v7), (8, .int v8)] → L_Re_productInto_34 P (L_Re_productInto_17 P a0 a1 a2 a3 a4 v6 n17) a0 a1 a2 a3 a4 v6 v7 n v8 M → W p l e (headSpec ws_Re_productInto rm_Re_productInto).room s m ([.ref (b + a0), .ref (b + a1), .ref (b + a2), .ref (b + a3), .long a4] : List Value).toArray below meth c H locs 0 0 (MQ below (zQv G b (fun M' N' => P M' ∧ N' = N)) ([.ref (b + a0), .ref (b + a1), .ref (b + a2), .ref (b + a3), .long a4] : List Value).toArray s 0 0 (zA b)) (F0 m 34 ls []) := by
        intro v7 n
        induction n with
        | zero => intro v8 M H ls locs hZ hS hl hw; exact False.elim hw
        | succ n34 ih34 =>
          intro v8 M H ls locs hZ hS hl hw
          have hw : B_Re_productInto_34 P (L_Re_productInto_17 P a0 a1 a2 a3 a4 v6 n17) a0 a1 a2 a3 a4 v6 v7 (L_Re_productInto_34 P (L_Re_productInto_17 P a0 a1 a2 a3 a4 v6 n17) a0 a1 a2 a3 a4 v6 v7 n34) v8 M := hw
          unfold B_Re_productInto_34 at hw
          refine lv_iload (pc := 34) hx hb d_Re_productInto_34 (lv_at hl 7 rfl) ?_
          refine lv_iload (pc := 36) hx hb d_Re_productInto_36 (lv_at hl 5 rfl) ?_
          refine lv_icmp_ge (pc := 38) (tgt := 70) hx hb d_Re_productInto_38 (by decide) (fun hc => ?_) (fun hc => ?_)
          · have hw := hw.1 hc
            refine lv_iinc (pc := 70) (k := 6) (v := v7 + (-1 : Int32)) (lv' := [(7, .int (v7 + (-1 : Int32))), (0, .ref (b + a0)), (1, .ref (b + a1)), (2, .ref (b + a2)), (3, .ref (b + a3)), (4, .long a4), (6, .int v6), (8, .int v8)]) hx hb d_Re_productInto_70 hl rfl (by rfl) (by decide) rfl (fun ls hl => ?_)
            refine lv_goto (pc := 73) (tgt := 17) hx hb d_Re_productInto_73 (by decide) ?_
            exact ih17 (v7 + (-1 : Int32)) M _ _ _ hZ hS (lv_sub hl [1, 2, 3, 4, 5, 6, 0] rfl) hw
          · have hw := hw.2 hc
            refine lv_aload_n (pc := 41) hx hb d_Re_productInto_41 rfl (lv_at hl 3 rfl) ?_
            refine lv_iload (pc := 42) hx hb d_Re_productInto_42 (lv_at hl 7 rfl) ?_
            refine lv_aload_n (pc := 44) hx hb d_Re_productInto_44 rfl (lv_at hl 3 rfl) ?_
            refine lv_iload (pc := 45) hx hb d_Re_productInto_45 (lv_at hl 7 rfl) ?_
            obtain ⟨hc, hw⟩ := hw
            refine z_lald (pc := 47) hx hb hK hZ hc d_Re_productInto_47 ?_
            refine lv_aload_n (pc := 48) hx hb d_Re_productInto_48 rfl (lv_at hl 0 rfl) ?_
            refine lv_iload (pc := 49) hx hb d_Re_productInto_49 (lv_at hl 6 rfl) ?_
            obtain ⟨hc, hw⟩ := hw
            refine z_lald (pc := 51) hx hb hK hZ hc d_Re_productInto_51 ?_
            refine lv_aload_n (pc := 52) hx hb d_Re_productInto_52 rfl (lv_at hl 1 rfl) ?_
            refine lv_iload (pc := 53) hx hb d_Re_productInto_53 (lv_at hl 7 rfl) ?_
            obtain ⟨hc, hw⟩ := hw
            refine z_lald (pc := 55) hx hb hK hZ hc d_Re_productInto_55 ?_
            refine lv_lmul (pc := 56) hx hb d_Re_productInto_56 ?_
            refine lv_ladd (pc := 57) hx hb d_Re_productInto_57 ?_
            refine lv_lload (pc := 58) hx hb d_Re_productInto_58 (lv_at hl 4 rfl) ?_
            refine z_calll (pc := 60) (va_runS (As := [.long ((M a3 v8.toNatClampNeg) + ((M a0 v7.toNatClampNeg) * (M a1 v8.toNatClampNeg))), .long a4]) (rest := [.int v8, .ref (b + a3)]) ⟨hx, hb, hml, hown, hts⟩ (c_Re_residue l G b ((M a3 v8.toNatClampNeg) + ((M a0 v7.toNatClampNeg) * (M a1 v8.toNatClampNeg))) a4 M N hw) (va_cwS 2 hts (z_good (zgS wd465 wd466 wd18 wd467)) rfl rfl rfl hd_Re_residue ⟨Nat.le_of_ble_eq_true rfl, Nat.le_of_ble_eq_true rfl⟩) (z_preS hZ hK hT hS) rfl rfl hl.1 rfl (lv_room (Nat.le_of_ble_eq_true rfl)) d_Re_productInto_60 ⟨Nat.le_of_ble_eq_true rfl, Nat.le_of_ble_eq_true rfl⟩) hS (fun r13 M14 N15 H locs hw hZ hS => ?_)
            obtain ⟨hw, eM14, eN15⟩ := hw
            rw [eM14, eN15] at hZ
            obtain ⟨hc, hw⟩ := hw
            refine z_last (pc := 63) hx hb hK hZ hS hc d_Re_productInto_63 (fun M16 H locs hM16 hZ hS => ?_)
            have hw := hw M16 hM16
            refine lv_iinc (pc := 64) (k := 7) (v := v8 + (1 : Int32)) (lv' := [(8, .int (v8 + (1 : Int32))), (0, .ref (b + a0)), (1, .ref (b + a1)), (2, .ref (b + a2)), (3, .ref (b + a3)), (4, .long a4), (6, .int v6), (7, .int v7)]) hx hb d_Re_productInto_64 hl rfl (by rfl) (by decide) rfl (fun ls hl => ?_)
            refine lv_goto (pc := 67) (tgt := 34) hx hb d_Re_productInto_67 (by decide) ?_
            exact ih34 (v8 + (1 : Int32)) M16 _ _ _ hZ hS (lv_sub hl [1, 2, 3, 4, 5, 6, 7, 0] rfl) hw
      intro v7 M H ls locs hZ hS hl hw
      have hw : B_Re_productInto_17 P a0 a1 a2 a3 a4 v6 (L_Re_productInto_17 P a0 a1 a2 a3 a4 v6 n17) v7 M := hw
      unfold B_Re_productInto_17 at hw
      refine lv_iload (pc := 17) hx hb d_Re_productInto_17 (lv_at hl 6 rfl) ?_
      refine lv_if_lt (pc := 19) (tgt := 76) hx hb d_Re_productInto_19 (by decide) (fun hc => ?_) (fun hc => ?_)
      · have hw := hw.1 hc
        exact z_vret hx hb hr hlocks hK hT hZ hS ⟨hw, rfl⟩ d_Re_productInto_76
      · have hw := hw.2 hc
        refine lv_aload_n (pc := 22) hx hb d_Re_productInto_22 rfl (lv_at hl 3 rfl) ?_
        refine lv_aload_n (pc := 23) hx hb d_Re_productInto_23 rfl (lv_at hl 2 rfl) ?_
        refine lv_iload (pc := 24) hx hb d_Re_productInto_24 (lv_at hl 5 rfl) ?_
        refine lv_lload (pc := 26) hx hb d_Re_productInto_26 (lv_at hl 4 rfl) ?_
        refine z_callv (pc := 28) (va_runS (As := [.ref (b + a3), .ref (b + a2), .int v6, .long a4]) (rest := []) ⟨hx, hb, hml, hown, hts⟩ (c_Re_timesX l G b a3 a2 v6 a4 M N hw) (va_cwS 4 hts (z_good (zgS wd593 wd550 wd18 wd551)) rfl rfl rfl hd_Re_timesX ⟨Nat.le_of_ble_eq_true rfl, Nat.le_of_ble_eq_true rfl⟩) (z_preS hZ hK hT hS) rfl rfl hl.1 rfl (lv_room (Nat.le_of_ble_eq_true rfl)) d_Re_productInto_28 ⟨Nat.le_of_ble_eq_true rfl, Nat.le_of_ble_eq_true rfl⟩) hS (fun M11 N12 H locs hw hZ hS => ?_)
        obtain ⟨hw, eN12⟩ := hw
        rw [eN12] at hZ
        refine lv_iconst (pc := 31) (v := 0) hx hb d_Re_productInto_31 (by decide) ?_
        refine lv_istore (pc := 32) (lv' := [(8, .int (0 : Int32)), (0, .ref (b + a0)), (1, .ref (b + a1)), (2, .ref (b + a2)), (3, .ref (b + a3)), (4, .long a4), (6, .int v6), (7, .int v7)]) hx hb d_Re_productInto_32 hl (by decide) rfl (fun ls hl => ?_)
        obtain ⟨n, hw⟩ := hw
        exact lp34 v7 n (0 : Int32) M11 _ _ _ hZ hS (lv_sub hl [1, 2, 3, 4, 5, 6, 7, 0] rfl) hw
  unfold w_Re_productInto at hw
  refine lv_aload_n (pc := 0) hx hb d_Re_productInto_0 rfl (lv_at hl 3 rfl) ?_
  refine lv_lconst (pc := 1) (v := 0) hx hb d_Re_productInto_1 (by decide) ?_
  refine z_callv (pc := 2) (va_runS (As := [.ref (b + a3), .long (0 : Int64)]) (rest := []) ⟨hx, hb, hml, hown, hts⟩ (c_Ar_fillJ l G b a3 (0 : Int64) M N hw) (va_cwS 2 hts (z_good (zgS wd475 wd337 wd14 wd338)) rfl rfl rfl hd_Ar_fillJ ⟨Nat.le_of_ble_eq_true rfl, Nat.le_of_ble_eq_true rfl⟩) (z_preS hZ hK hT hS) rfl rfl hl.1 rfl (lv_room (Nat.le_of_ble_eq_true rfl)) d_Re_productInto_2 ⟨Nat.le_of_ble_eq_true rfl, Nat.le_of_ble_eq_true rfl⟩) hS (fun M2 N3 H locs hw hZ hS => ?_)
  obtain ⟨hw, eN3⟩ := hw
  rw [eN3] at hZ
  refine lv_aload_n (pc := 5) hx hb d_Re_productInto_5 rfl (lv_at hl 2 rfl) ?_
  refine z_calli (pc := 6) (va_runS (As := [.ref (b + a2)]) (rest := []) ⟨hx, hb, hml, hown, hts⟩ (c_Ro_degreeOf l G b a2 M2 N hw) (va_cwS 1 hts (z_good (zgS wd471 wd312 wd13 wd313)) rfl rfl rfl hd_Ro_degreeOf ⟨Nat.le_of_ble_eq_true rfl, Nat.le_of_ble_eq_true rfl⟩) (z_preS hZ hK hT hS) rfl rfl hl.1 rfl (lv_room (Nat.le_of_ble_eq_true rfl)) d_Re_productInto_6 ⟨Nat.le_of_ble_eq_true rfl, Nat.le_of_ble_eq_true rfl⟩) hS (fun r4 M5 N6 H locs hw hZ hS => ?_)
  obtain ⟨hw, eM5, eN6⟩ := hw
  rw [eM5, eN6] at hZ
  refine lv_istore (pc := 9) (lv' := [(6, .int r4), (0, .ref (b + a0)), (1, .ref (b + a1)), (2, .ref (b + a2)), (3, .ref (b + a3)), (4, .long a4)]) hx hb d_Re_productInto_9 hl (by decide) rfl (fun ls hl => ?_)
  refine lv_aload_n (pc := 11) hx hb d_Re_productInto_11 rfl (lv_at hl 1 rfl) ?_
  refine z_calli (pc := 12) (va_runS (As := [.ref (b + a0)]) (rest := []) ⟨hx, hb, hml, hown, hts⟩ (c_Ro_degreeOf l G b a0 M2 N hw) (va_cwS 1 hts (z_good (zgS wd471 wd312 wd13 wd313)) rfl rfl rfl hd_Ro_degreeOf ⟨Nat.le_of_ble_eq_true rfl, Nat.le_of_ble_eq_true rfl⟩) (z_preS hZ hK hT hS) rfl rfl hl.1 rfl (lv_room (Nat.le_of_ble_eq_true rfl)) d_Re_productInto_12 ⟨Nat.le_of_ble_eq_true rfl, Nat.le_of_ble_eq_true rfl⟩) hS (fun r7 M8 N9 H locs hw hZ hS => ?_)
  obtain ⟨hw, eM8, eN9⟩ := hw
  rw [eM8, eN9] at hZ
  refine lv_istore (pc := 15) (lv' := [(7, .int r7), (6, .int r4), (0, .ref (b + a0)), (1, .ref (b + a1)), (2, .ref (b + a2)), (3, .ref (b + a3)), (4, .long a4)]) hx hb d_Re_productInto_15 hl (by decide) rfl (fun ls hl => ?_)
  obtain ⟨n, hw⟩ := hw
  exact lp17 r4 n r7 M2 _ _ _ hZ hS (lv_sub hl [2, 3, 4, 5, 6, 1, 0] rfl) hw
theorem zg_Li_27 {p : Program} {l : Launch} {e : Env} {R : Room} {s : State} {m : MethodId} {args : Array Value} {below : List Frame} {meth : Method} {c : Code} {H : Heap} {locs : List Loc} {cells slots : Nat} {Q : State → Prop} {cc : ByteArray} {pc : Nat} {ls : Array Slot} {rest : List Value} {G : zG} {b : Nat} {M : zM} {N : zN} (hx : p.tables.exec = Jvm.exec) (hb : c.code = cc) (hta : ∀ w ∈ zall, w.before args s = true) (hown : s.vm.findClass R_Li = some m.cls) (hK : va_K G.1 zCl (zty G) s) (hZ : va_P G.1 zCl (zws G b M N) H) (hdg : decode cc pc = .ok (.getfield 27, 3)) (kk : W p l e R s m args below meth c H locs cells slots Q (F0 m (pc + 3) ls (.ref (b + 71) :: rest))) : W p l e R s m args below meth c H locs cells slots Q (F0 m pc ls (.ref (b + 51) :: rest)) :=
  va_get (D := G.1) (ci := 2) (v := .ref (b + 71)) (C := R_Li) (T := T_Li) (N := 6) hx hb hta hin_Li hown hK hZ 51 zo_Li rfl 4 (by decide) (hta _ wd119) (fun _ h9 => h9) rfl hdg kk
theorem zg_Li_33 {p : Program} {l : Launch} {e : Env} {R : Room} {s : State} {m : MethodId} {args : Array Value} {below : List Frame} {meth : Method} {c : Code} {H : Heap} {locs : List Loc} {cells slots : Nat} {Q : State → Prop} {cc : ByteArray} {pc : Nat} {ls : Array Slot} {rest : List Value} {G : zG} {b : Nat} {M : zM} {N : zN} (hx : p.tables.exec = Jvm.exec) (hb : c.code = cc) (hta : ∀ w ∈ zall, w.before args s = true) (hown : s.vm.findClass R_Li = some m.cls) (hK : va_K G.1 zCl (zty G) s) (hZ : va_P G.1 zCl (zws G b M N) H) (hdg : decode cc pc = .ok (.getfield 33, 3)) (kk : W p l e R s m args below meth c H locs cells slots Q (F0 m (pc + 3) ls (.int (N 17 1) :: rest))) : W p l e R s m args below meth c H locs cells slots Q (F0 m pc ls (.ref (b + 17) :: rest)) :=
  va_get (D := G.1) (ci := 3) (v := .int (N 17 1)) (C := R_MP) (T := T_MP) (N := 10) hx hb hta hin_MP hown hK hZ 17 zo_MP rfl 1 (by decide) (hta _ wd74) (fun _ h9 => h9) rfl hdg kk
theorem zg_Li_39 {p : Program} {l : Launch} {e : Env} {R : Room} {s : State} {m : MethodId} {args : Array Value} {below : List Frame} {meth : Method} {c : Code} {H : Heap} {locs : List Loc} {cells slots : Nat} {Q : State → Prop} {cc : ByteArray} {pc : Nat} {ls : Array Slot} {rest : List Value} {G : zG} {b : Nat} {M : zM} {N : zN} (hx : p.tables.exec = Jvm.exec) (hb : c.code = cc) (hta : ∀ w ∈ zall, w.before args s = true) (hown : s.vm.findClass R_Li = some m.cls) (hK : va_K G.1 zCl (zty G) s) (hZ : va_P G.1 zCl (zws G b M N) H) (hdg : decode cc pc = .ok (.getfield 39, 3)) (kk : W p l e R s m args below meth c H locs cells slots Q (F0 m (pc + 3) ls (.ref (b + 18) :: rest))) : W p l e R s m args below meth c H locs cells slots Q (F0 m pc ls (.ref (b + 17) :: rest)) :=
  va_get (D := G.1) (ci := 3) (v := .ref (b + 18)) (C := R_MP) (T := T_MP) (N := 10) hx hb hta hin_MP hown hK hZ 17 zo_MP rfl 0 (by decide) (hta _ wd71) (fun _ h9 => h9) rfl hdg kk
theorem zg_Li_30 {p : Program} {l : Launch} {e : Env} {R : Room} {s : State} {m : MethodId} {args : Array Value} {below : List Frame} {meth : Method} {c : Code} {H : Heap} {locs : List Loc} {cells slots : Nat} {Q : State → Prop} {cc : ByteArray} {pc : Nat} {ls : Array Slot} {rest : List Value} {G : zG} {b : Nat} {M : zM} {N : zN} (hx : p.tables.exec = Jvm.exec) (hb : c.code = cc) (hta : ∀ w ∈ zall, w.before args s = true) (hown : s.vm.findClass R_Li = some m.cls) (hK : va_K G.1 zCl (zty G) s) (hZ : va_P G.1 zCl (zws G b M N) H) (hdg : decode cc pc = .ok (.getfield 30, 3)) (kk : W p l e R s m args below meth c H locs cells slots Q (F0 m (pc + 3) ls (.ref (b + 72) :: rest))) : W p l e R s m args below meth c H locs cells slots Q (F0 m pc ls (.ref (b + 51) :: rest)) :=
  va_get (D := G.1) (ci := 2) (v := .ref (b + 72)) (C := R_Li) (T := T_Li) (N := 6) hx hb hta hin_Li hown hK hZ 51 zo_Li rfl 5 (by decide) (hta _ wd120) (fun _ h9 => h9) rfl hdg kk
theorem d_Li_multiplyOthers_0 : decode prog_4_method_3_code 0 = .ok (.aload_n 0, 1) := by decide +kernel
theorem d_Li_multiplyOthers_1 : decode prog_4_method_3_code 1 = .ok (.getfield 27, 3) := by decide +kernel
theorem d_Li_multiplyOthers_4 : decode prog_4_method_3_code 4 = .ok (.lconst 0, 1) := by decide +kernel
theorem d_Li_multiplyOthers_5 : decode prog_4_method_3_code 5 = .ok (.invokestatic 70, 3) := by decide +kernel
theorem d_Li_multiplyOthers_8 : decode prog_4_method_3_code 8 = .ok (.aload_n 0, 1) := by decide +kernel
theorem d_Li_multiplyOthers_9 : decode prog_4_method_3_code 9 = .ok (.getfield 27, 3) := by decide +kernel
theorem d_Li_multiplyOthers_12 : decode prog_4_method_3_code 12 = .ok (.iconst 0, 1) := by decide +kernel
theorem d_Li_multiplyOthers_13 : decode prog_4_method_3_code 13 = .ok (.lload_n 2, 1) := by decide +kernel
theorem d_Li_multiplyOthers_14 : decode prog_4_method_3_code 14 = .ok (.lload 5, 2) := by decide +kernel
theorem d_Li_multiplyOthers_16 : decode prog_4_method_3_code 16 = .ok (.invokestatic 76, 3) := by decide +kernel
theorem d_Li_multiplyOthers_19 : decode prog_4_method_3_code 19 = .ok (.lastore, 1) := by decide +kernel
theorem d_Li_multiplyOthers_20 : decode prog_4_method_3_code 20 = .ok (.iconst 0, 1) := by decide +kernel
theorem d_Li_multiplyOthers_21 : decode prog_4_method_3_code 21 = .ok (.istore 7, 2) := by decide +kernel
theorem d_Li_multiplyOthers_23 : decode prog_4_method_3_code 23 = .ok (.iload 7, 2) := by decide +kernel
theorem d_Li_multiplyOthers_25 : decode prog_4_method_3_code 25 = .ok (.aload 4, 2) := by decide +kernel
theorem d_Li_multiplyOthers_27 : decode prog_4_method_3_code 27 = .ok (.getfield 33, 3) := by decide +kernel
theorem d_Li_multiplyOthers_30 : decode prog_4_method_3_code 30 = .ok (.if_icmp .ge 54, 3) := by decide +kernel
theorem d_Li_multiplyOthers_33 : decode prog_4_method_3_code 33 = .ok (.iload 7, 2) := by decide +kernel
theorem d_Li_multiplyOthers_35 : decode prog_4_method_3_code 35 = .ok (.iload_n 1, 1) := by decide +kernel
theorem d_Li_multiplyOthers_36 : decode prog_4_method_3_code 36 = .ok (.if_icmp .eq 42, 3) := by decide +kernel
theorem d_Li_multiplyOthers_39 : decode prog_4_method_3_code 39 = .ok (.aload 4, 2) := by decide +kernel
theorem d_Li_multiplyOthers_41 : decode prog_4_method_3_code 41 = .ok (.getfield 39, 3) := by decide +kernel
theorem d_Li_multiplyOthers_44 : decode prog_4_method_3_code 44 = .ok (.iload 7, 2) := by decide +kernel
theorem d_Li_multiplyOthers_46 : decode prog_4_method_3_code 46 = .ok (.aaload, 1) := by decide +kernel
theorem d_Li_multiplyOthers_47 : decode prog_4_method_3_code 47 = .ok (.aload_n 0, 1) := by decide +kernel
theorem d_Li_multiplyOthers_48 : decode prog_4_method_3_code 48 = .ok (.getfield 27, 3) := by decide +kernel
theorem d_Li_multiplyOthers_51 : decode prog_4_method_3_code 51 = .ok (.aload 4, 2) := by decide +kernel
theorem d_Li_multiplyOthers_53 : decode prog_4_method_3_code 53 = .ok (.getfield 39, 3) := by decide +kernel
theorem d_Li_multiplyOthers_56 : decode prog_4_method_3_code 56 = .ok (.iload_n 1, 1) := by decide +kernel
theorem d_Li_multiplyOthers_57 : decode prog_4_method_3_code 57 = .ok (.aaload, 1) := by decide +kernel
theorem d_Li_multiplyOthers_58 : decode prog_4_method_3_code 58 = .ok (.aload_n 0, 1) := by decide +kernel
theorem d_Li_multiplyOthers_59 : decode prog_4_method_3_code 59 = .ok (.getfield 30, 3) := by decide +kernel
theorem d_Li_multiplyOthers_62 : decode prog_4_method_3_code 62 = .ok (.lload 5, 2) := by decide +kernel
theorem d_Li_multiplyOthers_64 : decode prog_4_method_3_code 64 = .ok (.invokestatic 64, 3) := by decide +kernel
theorem d_Li_multiplyOthers_67 : decode prog_4_method_3_code 67 = .ok (.aload_n 0, 1) := by decide +kernel
theorem d_Li_multiplyOthers_68 : decode prog_4_method_3_code 68 = .ok (.getfield 30, 3) := by decide +kernel
theorem d_Li_multiplyOthers_71 : decode prog_4_method_3_code 71 = .ok (.aload_n 0, 1) := by decide +kernel
theorem d_Li_multiplyOthers_72 : decode prog_4_method_3_code 72 = .ok (.getfield 27, 3) := by decide +kernel
theorem d_Li_multiplyOthers_75 : decode prog_4_method_3_code 75 = .ok (.invokestatic 40, 3) := by decide +kernel
theorem d_Li_multiplyOthers_78 : decode prog_4_method_3_code 78 = .ok (.iinc 7 1, 3) := by decide +kernel
theorem d_Li_multiplyOthers_81 : decode prog_4_method_3_code 81 = .ok (.goto (-58), 3) := by decide +kernel
theorem d_Li_multiplyOthers_84 : decode prog_4_method_3_code 84 = .ok (.return_, 1) := by decide +kernel
def B_Li_multiplyOthers_23 (P : zM → Prop) (a1 : Int32) (a5 : Int64) (N : zN) (k23 : Int32 → zM → Prop) (v7 : Int32) (M : zM) : Prop := ((N 17 1) ≤ v7 → P M) ∧ (¬ (N 17 1) ≤ v7 → (v7 = a1 → k23 (v7 + (1 : Int32)) M) ∧ (¬ v7 = a1 → vp_in v7 (zgn 18) ∧ vp_in a1 (zgn 18) ∧ w_Re_productInto (18 + 1 + v7.toNatClampNeg) 71 (18 + 1 + a1.toNatClampNeg) 72 a5 M (fun M9 => w_Ro_copyInto 72 71 M9 (fun M12 => k23 (v7 + (1 : Int32)) M12))))
def L_Li_multiplyOthers_23 (P : zM → Prop) (a1 : Int32) (a5 : Int64) (N : zN) (n : Nat) : Int32 → zM → Prop := Nat.rec (fun _ _ => False) (fun _ k => B_Li_multiplyOthers_23 P a1 a5 N k) n
def w_Li_multiplyOthers (a1 : Int32) (a2 : Int64) (a5 : Int64) (M : zM) (N : zN) (P : zM → Prop) : Prop := w_Ar_fillJ 71 (0 : Int64) M (fun M2 => w_Re_residue a2 a5  (fun r4 => vp_in (0 : Int32) (zlong 71) ∧ ∀ M7 : zM, M7 = zput M2 71 (0 : Int32).toNatClampNeg r4 → ∃ n, L_Li_multiplyOthers_23 P a1 a5 N n (0 : Int32) M7))
def ws_Li_multiplyOthers : List Cond := .code y_Li_multiplyOthers prog_4_method_3_code 8 (Option.none : Option Jvm.ClassFile.FieldType) :: zall
def rm_Li_multiplyOthers : Room := { frames := 3, cells := 0, slots := 0, locals := 80 }
theorem hd_Li_multiplyOthers : y_Li_multiplyOthers.cls ≠ "java/lang/invoke/MethodHandle" ∧ y_Li_multiplyOthers.cls ≠ "java/lang/invoke/VarHandle" ∧ (parseMethodDescriptor y_Li_multiplyOthers.desc).map (fun d => d.parameters.length) = some 4 := by decide +kernel
set_option maxHeartbeats 4000000 in
set_option maxRecDepth 100000 in
theorem c_Li_multiplyOthers (l : Launch) (G : zG) (b : Nat) (a1 : Int32) (a2 : Int64) (a5 : Int64) (M : zM) (N : zN) {P : zM → Prop} (hw : w_Li_multiplyOthers a1 a2 a5 M N P) : Met l y_Li_multiplyOthers ws_Li_multiplyOthers rm_Li_multiplyOthers (zPc G b M N [.ref (b + 51), .int a1, .long a2, .ref (b + 17), .long a5]) (zQv G b (fun M' N' => P M' ∧ N' = N)) 0 0 (zA b) := by
  refine Met.ofW (cc := prog_4_method_3_code) (maxL := 8) (ret := (Option.none : Option Jvm.ClassFile.FieldType)) (by decide) rfl ?_
  intro p e s m args below meth c s₁ B hml hv
  obtain ⟨rfl, hZ, hK, hT⟩ := hv
  have hx := B.exec
  have hb := B.bytes
  have hr := B.returns
  have hts := atoms_spec (ws := ws_Li_multiplyOthers) B.pre
  have hta : ∀ w ∈ zall, w.before ([.ref (b + 51), .int a1, .long a2, .ref (b + 17), .long a5] : List Value).toArray s = true := fun w h => hts w (List.mem_cons_of_mem _ h)
  have hown : s.vm.findClass R_Li = some m.cls := findClass_of_methodNamed B.named
  have hlocks := B.notSynchronized
  have hS : va_S (zA b) s.heap s.heap [] := va_S.rf
  have hl := lv_entry ([.ref (b + 51), .int a1, .long a2, .ref (b + 17), .long a5]) (n := 8) (Nat.le_of_ble_eq_true rfl)
  rw [lg_entry_eq]
  generalize (lg_sl ([.ref (b + 51), .int a1, .long a2, .ref (b + 17), .long a5]) ++ List.replicate (8 - (lg_sl ([.ref (b + 51), .int a1, .long a2, .ref (b + 17), .long a5])).length) Slot.unset).toArray = ls at hl ⊢
  have hl : lv_has ls 8 [(0, .ref (b + 51)), (1, .int a1), (2, .long a2), (4, .ref (b + 17)), (5, .long a5)] := hl
  have lp23 : ∀ (n : Nat) (v7 : Int32) (M : zM) (H : Heap) (ls : Array Slot) (locs : List Loc), va_P G.1 zCl (zws G b M N) H → va_S (zA b) s.heap H locs → lv_has ls 8 [(0, .ref (b + 51)), (1, .int a1), (4, .ref (b + 17)), (5, .long a5), (7, .int v7)] → L_Li_multiplyOthers_23 P a1 a5 N n v7 M → W p l e (headSpec ws_Li_multiplyOthers rm_Li_multiplyOthers).room s m ([.ref (b + 51), .int a1, .long a2, .ref (b + 17), .long a5] : List Value).toArray below meth c H locs 0 0 (MQ below (zQv G b (fun M' N' => P M' ∧ N' = N)) ([.ref (b + 51), .int a1, .long a2, .ref (b + 17), .long a5] : List Value).toArray s 0 0 (zA b)) (F0 m 23 ls []) := by
    intro  n
    induction n with
    | zero => intro v7 M H ls locs hZ hS hl hw; exact False.elim hw
    | succ n23 ih23 =>
      intro v7 M H ls locs hZ hS hl hw
      have hw : B_Li_multiplyOthers_23 P a1 a5 N (L_Li_multiplyOthers_23 P a1 a5 N n23) v7 M := hw
      unfold B_Li_multiplyOthers_23 at hw
      refine lv_iload (pc := 23) hx hb d_Li_multiplyOthers_23 (lv_at hl 4 rfl) ?_
      refine lv_aload (pc := 25) hx hb d_Li_multiplyOthers_25 (lv_at hl 2 rfl) ?_
      refine zg_Li_33 (pc := 27) hx hb hta hown hK hZ d_Li_multiplyOthers_27 ?_
      refine lv_icmp_ge (pc := 30) (tgt := 84) hx hb d_Li_multiplyOthers_30 (by decide) (fun hc => ?_) (fun hc => ?_)
      · have hw := hw.1 hc
        exact z_vret hx hb hr hlocks hK hT hZ hS ⟨hw, rfl⟩ d_Li_multiplyOthers_84
      · have hw := hw.2 hc
        refine lv_iload (pc := 33) hx hb d_Li_multiplyOthers_33 (lv_at hl 4 rfl) ?_
        refine lv_iload_n (pc := 35) hx hb d_Li_multiplyOthers_35 rfl (lv_at hl 1 rfl) ?_
        refine lv_icmp_eq (pc := 36) (tgt := 78) hx hb d_Li_multiplyOthers_36 (by decide) (fun hc => ?_) (fun hc => ?_)
        · have hw := hw.1 hc
          refine lv_iinc (pc := 78) (k := 4) (v := v7 + (1 : Int32)) (lv' := [(7, .int (v7 + (1 : Int32))), (0, .ref (b + 51)), (1, .int a1), (4, .ref (b + 17)), (5, .long a5)]) hx hb d_Li_multiplyOthers_78 hl rfl (by rfl) (by decide) rfl (fun ls hl => ?_)
          refine lv_goto (pc := 81) (tgt := 23) hx hb d_Li_multiplyOthers_81 (by decide) ?_
          exact ih23 (v7 + (1 : Int32)) M _ _ _ hZ hS (lv_sub hl [1, 2, 3, 4, 0] rfl) hw
        · have hw := hw.2 hc
          refine lv_aload (pc := 39) hx hb d_Li_multiplyOthers_39 (lv_at hl 2 rfl) ?_
          refine zg_Li_39 (pc := 41) hx hb hta hown hK hZ d_Li_multiplyOthers_41 ?_
          refine lv_iload (pc := 44) hx hb d_Li_multiplyOthers_44 (lv_at hl 4 rfl) ?_
          obtain ⟨hc, hw⟩ := hw
          refine z_aald (pc := 46) hx hb hK hZ hc d_Li_multiplyOthers_46 ?_
          refine lv_aload_n (pc := 47) hx hb d_Li_multiplyOthers_47 rfl (lv_at hl 0 rfl) ?_
          refine zg_Li_27 (pc := 48) hx hb hta hown hK hZ d_Li_multiplyOthers_48 ?_
          refine lv_aload (pc := 51) hx hb d_Li_multiplyOthers_51 (lv_at hl 2 rfl) ?_
          refine zg_Li_39 (pc := 53) hx hb hta hown hK hZ d_Li_multiplyOthers_53 ?_
          refine lv_iload_n (pc := 56) hx hb d_Li_multiplyOthers_56 rfl (lv_at hl 1 rfl) ?_
          obtain ⟨hc, hw⟩ := hw
          refine z_aald (pc := 57) hx hb hK hZ hc d_Li_multiplyOthers_57 ?_
          refine lv_aload_n (pc := 58) hx hb d_Li_multiplyOthers_58 rfl (lv_at hl 0 rfl) ?_
          refine zg_Li_30 (pc := 59) hx hb hta hown hK hZ d_Li_multiplyOthers_59 ?_
          refine lv_lload (pc := 62) hx hb d_Li_multiplyOthers_62 (lv_at hl 3 rfl) ?_
          refine z_callv (pc := 64) (va_runS (As := [.ref (b + (18 + 1 + v7.toNatClampNeg)), .ref (b + 71), .ref (b + (18 + 1 + a1.toNatClampNeg)), .ref (b + 72), .long a5]) (rest := []) ⟨hx, hb, hml, hown, hts⟩ (c_Re_productInto l G b (18 + 1 + v7.toNatClampNeg) 71 (18 + 1 + a1.toNatClampNeg) 72 a5 M N hw) (va_cwS 5 hts (z_good (zgS wd590 wd591 wd18 wd592)) rfl rfl rfl hd_Re_productInto ⟨Nat.le_of_ble_eq_true rfl, Nat.le_of_ble_eq_true rfl⟩) (z_preS hZ hK hT hS) rfl rfl hl.1 rfl (lv_room (Nat.le_of_ble_eq_true rfl)) d_Li_multiplyOthers_64 ⟨Nat.le_of_ble_eq_true rfl, Nat.le_of_ble_eq_true rfl⟩) hS (fun M9 N10 H locs hw hZ hS => ?_)
          obtain ⟨hw, eN10⟩ := hw
          rw [eN10] at hZ
          refine lv_aload_n (pc := 67) hx hb d_Li_multiplyOthers_67 rfl (lv_at hl 0 rfl) ?_
          refine zg_Li_30 (pc := 68) hx hb hta hown hK hZ d_Li_multiplyOthers_68 ?_
          refine lv_aload_n (pc := 71) hx hb d_Li_multiplyOthers_71 rfl (lv_at hl 0 rfl) ?_
          refine zg_Li_27 (pc := 72) hx hb hta hown hK hZ d_Li_multiplyOthers_72 ?_
          refine z_callv (pc := 75) (va_runS (As := [.ref (b + 72), .ref (b + 71)]) (rest := []) ⟨hx, hb, hml, hown, hts⟩ (c_Ro_copyInto l G b 72 71 M9 N hw) (va_cwS 2 hts (z_good (zgS wd582 wd363 wd13 wd364)) rfl rfl rfl hd_Ro_copyInto ⟨Nat.le_of_ble_eq_true rfl, Nat.le_of_ble_eq_true rfl⟩) (z_preS hZ hK hT hS) rfl rfl hl.1 rfl (lv_room (Nat.le_of_ble_eq_true rfl)) d_Li_multiplyOthers_75 ⟨Nat.le_of_ble_eq_true rfl, Nat.le_of_ble_eq_true rfl⟩) hS (fun M12 N13 H locs hw hZ hS => ?_)
          obtain ⟨hw, eN13⟩ := hw
          rw [eN13] at hZ
          refine lv_iinc (pc := 78) (k := 4) (v := v7 + (1 : Int32)) (lv' := [(7, .int (v7 + (1 : Int32))), (0, .ref (b + 51)), (1, .int a1), (4, .ref (b + 17)), (5, .long a5)]) hx hb d_Li_multiplyOthers_78 hl rfl (by rfl) (by decide) rfl (fun ls hl => ?_)
          refine lv_goto (pc := 81) (tgt := 23) hx hb d_Li_multiplyOthers_81 (by decide) ?_
          exact ih23 (v7 + (1 : Int32)) M12 _ _ _ hZ hS (lv_sub hl [1, 2, 3, 4, 0] rfl) hw
  unfold w_Li_multiplyOthers at hw
  refine lv_aload_n (pc := 0) hx hb d_Li_multiplyOthers_0 rfl (lv_at hl 0 rfl) ?_
  refine zg_Li_27 (pc := 1) hx hb hta hown hK hZ d_Li_multiplyOthers_1 ?_
  refine lv_lconst (pc := 4) (v := 0) hx hb d_Li_multiplyOthers_4 (by decide) ?_
  refine z_callv (pc := 5) (va_runS (As := [.ref (b + 71), .long (0 : Int64)]) (rest := []) ⟨hx, hb, hml, hown, hts⟩ (c_Ar_fillJ l G b 71 (0 : Int64) M N hw) (va_cwS 2 hts (z_good (zgS wd588 wd337 wd14 wd338)) rfl rfl rfl hd_Ar_fillJ ⟨Nat.le_of_ble_eq_true rfl, Nat.le_of_ble_eq_true rfl⟩) (z_preS hZ hK hT hS) rfl rfl hl.1 rfl (lv_room (Nat.le_of_ble_eq_true rfl)) d_Li_multiplyOthers_5 ⟨Nat.le_of_ble_eq_true rfl, Nat.le_of_ble_eq_true rfl⟩) hS (fun M2 N3 H locs hw hZ hS => ?_)
  obtain ⟨hw, eN3⟩ := hw
  rw [eN3] at hZ
  refine lv_aload_n (pc := 8) hx hb d_Li_multiplyOthers_8 rfl (lv_at hl 0 rfl) ?_
  refine zg_Li_27 (pc := 9) hx hb hta hown hK hZ d_Li_multiplyOthers_9 ?_
  refine lv_iconst (pc := 12) (v := 0) hx hb d_Li_multiplyOthers_12 (by decide) ?_
  refine lv_lload_n (pc := 13) hx hb d_Li_multiplyOthers_13 rfl (lv_at hl 2 rfl) ?_
  refine lv_lload (pc := 14) hx hb d_Li_multiplyOthers_14 (lv_at hl 4 rfl) ?_
  refine z_calll (pc := 16) (va_runS (As := [.long a2, .long a5]) (rest := [.int (0 : Int32), .ref (b + 71)]) ⟨hx, hb, hml, hown, hts⟩ (c_Re_residue l G b a2 a5 M2 N hw) (va_cwS 2 hts (z_good (zgS wd589 wd466 wd18 wd467)) rfl rfl rfl hd_Re_residue ⟨Nat.le_of_ble_eq_true rfl, Nat.le_of_ble_eq_true rfl⟩) (z_preS hZ hK hT hS) rfl rfl hl.1 rfl (lv_room (Nat.le_of_ble_eq_true rfl)) d_Li_multiplyOthers_16 ⟨Nat.le_of_ble_eq_true rfl, Nat.le_of_ble_eq_true rfl⟩) hS (fun r4 M5 N6 H locs hw hZ hS => ?_)
  obtain ⟨hw, eM5, eN6⟩ := hw
  rw [eM5, eN6] at hZ
  obtain ⟨hc, hw⟩ := hw
  refine z_last (pc := 19) hx hb hK hZ hS hc d_Li_multiplyOthers_19 (fun M7 H locs hM7 hZ hS => ?_)
  have hw := hw M7 hM7
  refine lv_iconst (pc := 20) (v := 0) hx hb d_Li_multiplyOthers_20 (by decide) ?_
  refine lv_istore (pc := 21) (lv' := [(7, .int (0 : Int32)), (0, .ref (b + 51)), (1, .int a1), (2, .long a2), (4, .ref (b + 17)), (5, .long a5)]) hx hb d_Li_multiplyOthers_21 hl (by decide) rfl (fun ls hl => ?_)
  obtain ⟨n, hw⟩ := hw
  exact lp23  n (0 : Int32) M7 _ _ _ hZ hS (lv_sub hl [1, 2, 4, 5, 0] rfl) hw
theorem d_Li_fillInverse_0 : decode prog_4_method_4_code 0 = .ok (.lconst 1, 1) := by decide +kernel
theorem d_Li_fillInverse_1 : decode prog_4_method_4_code 1 = .ok (.lstore 5, 2) := by decide +kernel
theorem d_Li_fillInverse_3 : decode prog_4_method_4_code 3 = .ok (.iconst 0, 1) := by decide +kernel
theorem d_Li_fillInverse_4 : decode prog_4_method_4_code 4 = .ok (.istore 7, 2) := by decide +kernel
theorem d_Li_fillInverse_6 : decode prog_4_method_4_code 6 = .ok (.iload 7, 2) := by decide +kernel
theorem d_Li_fillInverse_8 : decode prog_4_method_4_code 8 = .ok (.aload_n 1, 1) := by decide +kernel
theorem d_Li_fillInverse_9 : decode prog_4_method_4_code 9 = .ok (.invokestatic 80, 3) := by decide +kernel
theorem d_Li_fillInverse_12 : decode prog_4_method_4_code 12 = .ok (.if_icmp .ge 15, 3) := by decide +kernel
theorem d_Li_fillInverse_15 : decode prog_4_method_4_code 15 = .ok (.lload 5, 2) := by decide +kernel
theorem d_Li_fillInverse_17 : decode prog_4_method_4_code 17 = .ok (.lload_n 3, 1) := by decide +kernel
theorem d_Li_fillInverse_18 : decode prog_4_method_4_code 18 = .ok (.lmul, 1) := by decide +kernel
theorem d_Li_fillInverse_19 : decode prog_4_method_4_code 19 = .ok (.lstore 5, 2) := by decide +kernel
theorem d_Li_fillInverse_21 : decode prog_4_method_4_code 21 = .ok (.iinc 7 1, 3) := by decide +kernel
theorem d_Li_fillInverse_24 : decode prog_4_method_4_code 24 = .ok (.goto (-18), 3) := by decide +kernel
theorem d_Li_fillInverse_27 : decode prog_4_method_4_code 27 = .ok (.aload_n 2, 1) := by decide +kernel
theorem d_Li_fillInverse_28 : decode prog_4_method_4_code 28 = .ok (.lconst 0, 1) := by decide +kernel
theorem d_Li_fillInverse_29 : decode prog_4_method_4_code 29 = .ok (.invokestatic 70, 3) := by decide +kernel
theorem d_Li_fillInverse_32 : decode prog_4_method_4_code 32 = .ok (.aload_n 2, 1) := by decide +kernel
theorem d_Li_fillInverse_33 : decode prog_4_method_4_code 33 = .ok (.iconst 0, 1) := by decide +kernel
theorem d_Li_fillInverse_34 : decode prog_4_method_4_code 34 = .ok (.lconst 1, 1) := by decide +kernel
theorem d_Li_fillInverse_35 : decode prog_4_method_4_code 35 = .ok (.lastore, 1) := by decide +kernel
theorem d_Li_fillInverse_36 : decode prog_4_method_4_code 36 = .ok (.lload 5, 2) := by decide +kernel
theorem d_Li_fillInverse_38 : decode prog_4_method_4_code 38 = .ok (.ldc2_w 84, 3) := by decide +kernel
theorem d_Li_fillInverse_41 : decode prog_4_method_4_code 41 = .ok (.lsub, 1) := by decide +kernel
theorem d_Li_fillInverse_42 : decode prog_4_method_4_code 42 = .ok (.lstore 7, 2) := by decide +kernel
theorem d_Li_fillInverse_44 : decode prog_4_method_4_code 44 = .ok (.lload 7, 2) := by decide +kernel
theorem d_Li_fillInverse_46 : decode prog_4_method_4_code 46 = .ok (.lconst 0, 1) := by decide +kernel
theorem d_Li_fillInverse_47 : decode prog_4_method_4_code 47 = .ok (.lcmp, 1) := by decide +kernel
theorem d_Li_fillInverse_48 : decode prog_4_method_4_code 48 = .ok (.ifCond .le 71, 3) := by decide +kernel
theorem d_Li_fillInverse_51 : decode prog_4_method_4_code 51 = .ok (.lload 7, 2) := by decide +kernel
theorem d_Li_fillInverse_53 : decode prog_4_method_4_code 53 = .ok (.lconst 1, 1) := by decide +kernel
theorem d_Li_fillInverse_54 : decode prog_4_method_4_code 54 = .ok (.land, 1) := by decide +kernel
theorem d_Li_fillInverse_55 : decode prog_4_method_4_code 55 = .ok (.lconst 1, 1) := by decide +kernel
theorem d_Li_fillInverse_56 : decode prog_4_method_4_code 56 = .ok (.lcmp, 1) := by decide +kernel
theorem d_Li_fillInverse_57 : decode prog_4_method_4_code 57 = .ok (.ifCond .ne 25, 3) := by decide +kernel
theorem d_Li_fillInverse_60 : decode prog_4_method_4_code 60 = .ok (.aload_n 0, 1) := by decide +kernel
theorem d_Li_fillInverse_61 : decode prog_4_method_4_code 61 = .ok (.getfield 27, 3) := by decide +kernel
theorem d_Li_fillInverse_64 : decode prog_4_method_4_code 64 = .ok (.aload_n 2, 1) := by decide +kernel
theorem d_Li_fillInverse_65 : decode prog_4_method_4_code 65 = .ok (.aload_n 1, 1) := by decide +kernel
theorem d_Li_fillInverse_66 : decode prog_4_method_4_code 66 = .ok (.aload_n 0, 1) := by decide +kernel
theorem d_Li_fillInverse_67 : decode prog_4_method_4_code 67 = .ok (.getfield 30, 3) := by decide +kernel
theorem d_Li_fillInverse_70 : decode prog_4_method_4_code 70 = .ok (.lload_n 3, 1) := by decide +kernel
theorem d_Li_fillInverse_71 : decode prog_4_method_4_code 71 = .ok (.invokestatic 64, 3) := by decide +kernel
theorem d_Li_fillInverse_74 : decode prog_4_method_4_code 74 = .ok (.aload_n 0, 1) := by decide +kernel
theorem d_Li_fillInverse_75 : decode prog_4_method_4_code 75 = .ok (.getfield 30, 3) := by decide +kernel
theorem d_Li_fillInverse_78 : decode prog_4_method_4_code 78 = .ok (.aload_n 2, 1) := by decide +kernel
theorem d_Li_fillInverse_79 : decode prog_4_method_4_code 79 = .ok (.invokestatic 40, 3) := by decide +kernel
theorem d_Li_fillInverse_82 : decode prog_4_method_4_code 82 = .ok (.aload_n 0, 1) := by decide +kernel
theorem d_Li_fillInverse_83 : decode prog_4_method_4_code 83 = .ok (.getfield 27, 3) := by decide +kernel
theorem d_Li_fillInverse_86 : decode prog_4_method_4_code 86 = .ok (.aload_n 0, 1) := by decide +kernel
theorem d_Li_fillInverse_87 : decode prog_4_method_4_code 87 = .ok (.getfield 27, 3) := by decide +kernel
theorem d_Li_fillInverse_90 : decode prog_4_method_4_code 90 = .ok (.aload_n 1, 1) := by decide +kernel
theorem d_Li_fillInverse_91 : decode prog_4_method_4_code 91 = .ok (.aload_n 0, 1) := by decide +kernel
theorem d_Li_fillInverse_92 : decode prog_4_method_4_code 92 = .ok (.getfield 30, 3) := by decide +kernel
theorem d_Li_fillInverse_95 : decode prog_4_method_4_code 95 = .ok (.lload_n 3, 1) := by decide +kernel
theorem d_Li_fillInverse_96 : decode prog_4_method_4_code 96 = .ok (.invokestatic 64, 3) := by decide +kernel
theorem d_Li_fillInverse_99 : decode prog_4_method_4_code 99 = .ok (.aload_n 0, 1) := by decide +kernel
theorem d_Li_fillInverse_100 : decode prog_4_method_4_code 100 = .ok (.getfield 30, 3) := by decide +kernel
theorem d_Li_fillInverse_103 : decode prog_4_method_4_code 103 = .ok (.aload_n 0, 1) := by decide +kernel
theorem d_Li_fillInverse_104 : decode prog_4_method_4_code 104 = .ok (.getfield 27, 3) := by decide +kernel
theorem d_Li_fillInverse_107 : decode prog_4_method_4_code 107 = .ok (.invokestatic 40, 3) := by decide +kernel
theorem d_Li_fillInverse_110 : decode prog_4_method_4_code 110 = .ok (.lload 7, 2) := by decide +kernel
theorem d_Li_fillInverse_112 : decode prog_4_method_4_code 112 = .ok (.iconst 1, 1) := by decide +kernel
theorem d_Li_fillInverse_113 : decode prog_4_method_4_code 113 = .ok (.lshr, 1) := by decide +kernel
theorem d_Li_fillInverse_114 : decode prog_4_method_4_code 114 = .ok (.lstore 7, 2) := by decide +kernel
theorem d_Li_fillInverse_116 : decode prog_4_method_4_code 116 = .ok (.goto (-72), 3) := by decide +kernel
theorem d_Li_fillInverse_119 : decode prog_4_method_4_code 119 = .ok (.return_, 1) := by decide +kernel
def J_Li_fillInverse_82 (P : zM → Prop) (k44 : Int64 → zM → Prop) (a1 : Nat) (a2 : Nat) (a3 : Int64) (v7 : Int64) (M : zM) : Prop := w_Re_productInto 71 71 a1 72 a3 M (fun M17 => w_Ro_copyInto 72 71 M17 (fun M20 => ∀ x22 : Int64, x22 = v7 >>> ((1 : Int32).toInt64 &&& 63) → k44 x22 M20))
def B_Li_fillInverse_44 (P : zM → Prop) (a1 : Nat) (a2 : Nat) (a3 : Int64) (k44 : Int64 → zM → Prop) (v7 : Int64) (M : zM) : Prop := (v7 ≤ (0 : Int64) → P M) ∧ (¬ v7 ≤ (0 : Int64) → (¬ (v7 &&& (1 : Int64)) = (1 : Int64) → J_Li_fillInverse_82 P k44 a1 a2 a3 v7 M) ∧ ((v7 &&& (1 : Int64)) = (1 : Int64) → w_Re_productInto 71 a2 a1 72 a3 M (fun M11 => w_Ro_copyInto 72 a2 M11 (fun M14 => J_Li_fillInverse_82 P k44 a1 a2 a3 v7 M14))))
def L_Li_fillInverse_44 (P : zM → Prop) (a1 : Nat) (a2 : Nat) (a3 : Int64) (n : Nat) : Int64 → zM → Prop := Nat.rec (fun _ _ => False) (fun _ k => B_Li_fillInverse_44 P a1 a2 a3 k) n
def B_Li_fillInverse_6 (P : zM → Prop) (a1 : Nat) (a2 : Nat) (a3 : Int64) (M : zM) (k6 : Int64 → Int32 → Prop) (v5 : Int64) (v7 : Int32) : Prop := w_Ro_degreeOf a1 M (fun r1 => (r1 ≤ v7 → w_Ar_fillJ a2 (0 : Int64) M (fun M5 => vp_in (0 : Int32) (zlong a2) ∧ ∀ M7 : zM, M7 = zput M5 a2 (0 : Int32).toNatClampNeg (1 : Int64) → ∀ x8 : Int64, x8 = v5 - (2 : Int64) → ∃ n, L_Li_fillInverse_44 P a1 a2 a3 n x8 M7)) ∧ (¬ r1 ≤ v7 → ∀ x9 : Int64, x9 = v5 * a3 → k6 x9 (v7 + (1 : Int32))))
def L_Li_fillInverse_6 (P : zM → Prop) (a1 : Nat) (a2 : Nat) (a3 : Int64) (M : zM) (n : Nat) : Int64 → Int32 → Prop := Nat.rec (fun _ _ => False) (fun _ k => B_Li_fillInverse_6 P a1 a2 a3 M k) n
def w_Li_fillInverse (a1 : Nat) (a2 : Nat) (a3 : Int64) (M : zM) (P : zM → Prop) : Prop := ∃ n, L_Li_fillInverse_6 P a1 a2 a3 M n (1 : Int64) (0 : Int32)
def ws_Li_fillInverse : List Cond := .code y_Li_fillInverse prog_4_method_4_code 9 (Option.none : Option Jvm.ClassFile.FieldType) :: zall
def rm_Li_fillInverse : Room := { frames := 3, cells := 0, slots := 0, locals := 80 }
theorem hd_Li_fillInverse : y_Li_fillInverse.cls ≠ "java/lang/invoke/MethodHandle" ∧ y_Li_fillInverse.cls ≠ "java/lang/invoke/VarHandle" ∧ (parseMethodDescriptor y_Li_fillInverse.desc).map (fun d => d.parameters.length) = some 3 := by decide +kernel
set_option maxHeartbeats 4000000 in
set_option maxRecDepth 100000 in
theorem c_Li_fillInverse (l : Launch) (G : zG) (b : Nat) (a1 : Nat) (a2 : Nat) (a3 : Int64) (M : zM) (N : zN) {P : zM → Prop} (hw : w_Li_fillInverse a1 a2 a3 M P) : Met l y_Li_fillInverse ws_Li_fillInverse rm_Li_fillInverse (zPc G b M N [.ref (b + 51), .ref (b + a1), .ref (b + a2), .long a3]) (zQv G b (fun M' N' => P M' ∧ N' = N)) 0 0 (zA b) := by
  refine Met.ofW (cc := prog_4_method_4_code) (maxL := 9) (ret := (Option.none : Option Jvm.ClassFile.FieldType)) (by decide) rfl ?_
  intro p e s m args below meth c s₁ B hml hv
  obtain ⟨rfl, hZ, hK, hT⟩ := hv
  have hx := B.exec
  have hb := B.bytes
  have hr := B.returns
  have hts := atoms_spec (ws := ws_Li_fillInverse) B.pre
  have hta : ∀ w ∈ zall, w.before ([.ref (b + 51), .ref (b + a1), .ref (b + a2), .long a3] : List Value).toArray s = true := fun w h => hts w (List.mem_cons_of_mem _ h)
  have hown : s.vm.findClass R_Li = some m.cls := findClass_of_methodNamed B.named
  have hlocks := B.notSynchronized
  have hS : va_S (zA b) s.heap s.heap [] := va_S.rf
  have hl := lv_entry ([.ref (b + 51), .ref (b + a1), .ref (b + a2), .long a3]) (n := 9) (Nat.le_of_ble_eq_true rfl)
  rw [lg_entry_eq]
  generalize (lg_sl ([.ref (b + 51), .ref (b + a1), .ref (b + a2), .long a3]) ++ List.replicate (9 - (lg_sl ([.ref (b + 51), .ref (b + a1), .ref (b + a2), .long a3])).length) Slot.unset).toArray = ls at hl ⊢
  have hl : lv_has ls 9 [(0, .ref (b + 51)), (1, .ref (b + a1)), (2, .ref (b + a2)), (3, .long a3)] := hl
  have lp44 : ∀ (n : Nat) (v7 : Int64) (M : zM) (H : Heap) (ls : Array Slot) (locs : List Loc), va_P G.1 zCl (zws G b M N) H → va_S (zA b) s.heap H locs → lv_has ls 9 [(0, .ref (b + 51)), (1, .ref (b + a1)), (2, .ref (b + a2)), (3, .long a3), (7, .long v7)] → L_Li_fillInverse_44 P a1 a2 a3 n v7 M → W p l e (headSpec ws_Li_fillInverse rm_Li_fillInverse).room s m ([.ref (b + 51), .ref (b + a1), .ref (b + a2), .long a3] : List Value).toArray below meth c H locs 0 0 (MQ below (zQv G b (fun M' N' => P M' ∧ N' = N)) ([.ref (b + 51), .ref (b + a1), .ref (b + a2), .long a3] : List Value).toArray s 0 0 (zA b)) (F0 m 44 ls []) := by
    intro  n
    induction n with
    | zero => intro v7 M H ls locs hZ hS hl hw; exact False.elim hw
    | succ n44 ih44 =>
      have j82 : ∀ (v7 : Int64) (M : zM) (H : Heap) (ls : Array Slot) (locs : List Loc), va_P G.1 zCl (zws G b M N) H → va_S (zA b) s.heap H locs → lv_has ls 9 [(0, .ref (b + 51)), (1, .ref (b + a1)), (2, .ref (b + a2)), (3, .long a3), (7, .long v7)] → J_Li_fillInverse_82 P (L_Li_fillInverse_44 P a1 a2 a3 n44) a1 a2 a3 v7 M → W p l e (headSpec ws_Li_fillInverse rm_Li_fillInverse).room s m ([.ref (b + 51), .ref (b + a1), .ref (b + a2), .long a3] : List Value).toArray below meth c H locs 0 0 (MQ below (zQv G b (fun M' N' => P M' ∧ N' = N)) ([.ref (b + 51), .ref (b + a1), .ref (b + a2), .long a3] : List Value).toArray s 0 0 (zA b)) (F0 m 82 ls []) := by
        intro v7 M H ls locs hZ hS hl hw
        unfold J_Li_fillInverse_82 at hw
        refine lv_aload_n (pc := 82) hx hb d_Li_fillInverse_82 rfl (lv_at hl 0 rfl) ?_
        refine zg_Li_27 (pc := 83) hx hb hta hown hK hZ d_Li_fillInverse_83 ?_
        refine lv_aload_n (pc := 86) hx hb d_Li_fillInverse_86 rfl (lv_at hl 0 rfl) ?_
        refine zg_Li_27 (pc := 87) hx hb hta hown hK hZ d_Li_fillInverse_87 ?_
        refine lv_aload_n (pc := 90) hx hb d_Li_fillInverse_90 rfl (lv_at hl 1 rfl) ?_
        refine lv_aload_n (pc := 91) hx hb d_Li_fillInverse_91 rfl (lv_at hl 0 rfl) ?_
        refine zg_Li_30 (pc := 92) hx hb hta hown hK hZ d_Li_fillInverse_92 ?_
        refine lv_lload_n (pc := 95) hx hb d_Li_fillInverse_95 rfl (lv_at hl 3 rfl) ?_
        refine z_callv (pc := 96) (va_runS (As := [.ref (b + 71), .ref (b + 71), .ref (b + a1), .ref (b + 72), .long a3]) (rest := []) ⟨hx, hb, hml, hown, hts⟩ (c_Re_productInto l G b 71 71 a1 72 a3 M N hw) (va_cwS 5 hts (z_good (zgS wd590 wd591 wd18 wd592)) rfl rfl rfl hd_Re_productInto ⟨Nat.le_of_ble_eq_true rfl, Nat.le_of_ble_eq_true rfl⟩) (z_preS hZ hK hT hS) rfl rfl hl.1 rfl (lv_room (Nat.le_of_ble_eq_true rfl)) d_Li_fillInverse_96 ⟨Nat.le_of_ble_eq_true rfl, Nat.le_of_ble_eq_true rfl⟩) hS (fun M17 N18 H locs hw hZ hS => ?_)
        obtain ⟨hw, eN18⟩ := hw
        rw [eN18] at hZ
        refine lv_aload_n (pc := 99) hx hb d_Li_fillInverse_99 rfl (lv_at hl 0 rfl) ?_
        refine zg_Li_30 (pc := 100) hx hb hta hown hK hZ d_Li_fillInverse_100 ?_
        refine lv_aload_n (pc := 103) hx hb d_Li_fillInverse_103 rfl (lv_at hl 0 rfl) ?_
        refine zg_Li_27 (pc := 104) hx hb hta hown hK hZ d_Li_fillInverse_104 ?_
        refine z_callv (pc := 107) (va_runS (As := [.ref (b + 72), .ref (b + 71)]) (rest := []) ⟨hx, hb, hml, hown, hts⟩ (c_Ro_copyInto l G b 72 71 M17 N hw) (va_cwS 2 hts (z_good (zgS wd582 wd363 wd13 wd364)) rfl rfl rfl hd_Ro_copyInto ⟨Nat.le_of_ble_eq_true rfl, Nat.le_of_ble_eq_true rfl⟩) (z_preS hZ hK hT hS) rfl rfl hl.1 rfl (lv_room (Nat.le_of_ble_eq_true rfl)) d_Li_fillInverse_107 ⟨Nat.le_of_ble_eq_true rfl, Nat.le_of_ble_eq_true rfl⟩) hS (fun M20 N21 H locs hw hZ hS => ?_)
        obtain ⟨hw, eN21⟩ := hw
        rw [eN21] at hZ
        refine lv_lload (pc := 110) hx hb d_Li_fillInverse_110 (lv_at hl 4 rfl) ?_
        refine lv_iconst (pc := 112) (v := 1) hx hb d_Li_fillInverse_112 (by decide) ?_
        refine lv_lshr (pc := 113) (v := v7 >>> ((1 : Int32).toInt64 &&& 63)) hx hb d_Li_fillInverse_113 rfl ?_
        refine lv_topl (fun x22 hx22 => ?_)
        have hw := hw x22 hx22
        refine lv_lstore (pc := 114) (lv' := [(7, .long x22), (0, .ref (b + 51)), (1, .ref (b + a1)), (2, .ref (b + a2)), (3, .long a3)]) hx hb d_Li_fillInverse_114 hl (by decide) rfl (fun ls hl => ?_)
        refine lv_goto (pc := 116) (tgt := 44) hx hb d_Li_fillInverse_116 (by decide) ?_
        exact ih44 x22 M20 _ _ _ hZ hS (lv_sub hl [1, 2, 3, 4, 0] rfl) hw
      intro v7 M H ls locs hZ hS hl hw
      have hw : B_Li_fillInverse_44 P a1 a2 a3 (L_Li_fillInverse_44 P a1 a2 a3 n44) v7 M := hw
      unfold B_Li_fillInverse_44 at hw
      refine lv_lload (pc := 44) hx hb d_Li_fillInverse_44 (lv_at hl 4 rfl) ?_
      refine lv_lconst (pc := 46) (v := 0) hx hb d_Li_fillInverse_46 (by decide) ?_
      refine z_lc_le (pc := 47) (tgt := 119) hx hb d_Li_fillInverse_47 d_Li_fillInverse_48 (by decide) (fun hc => ?_) (fun hc => ?_)
      · have hw := hw.1 hc
        exact z_vret hx hb hr hlocks hK hT hZ hS ⟨hw, rfl⟩ d_Li_fillInverse_119
      · have hw := hw.2 hc
        refine lv_lload (pc := 51) hx hb d_Li_fillInverse_51 (lv_at hl 4 rfl) ?_
        refine lv_lconst (pc := 53) (v := 1) hx hb d_Li_fillInverse_53 (by decide) ?_
        refine lv_land (pc := 54) hx hb d_Li_fillInverse_54 ?_
        refine lv_lconst (pc := 55) (v := 1) hx hb d_Li_fillInverse_55 (by decide) ?_
        refine z_lc_ne (pc := 56) (tgt := 82) hx hb d_Li_fillInverse_56 d_Li_fillInverse_57 (by decide) (fun hc => ?_) (fun hc => ?_)
        · have hw := hw.1 hc
          exact j82 v7 M _ _ _ hZ hS hl hw
        · have hw := hw.2 hc
          refine lv_aload_n (pc := 60) hx hb d_Li_fillInverse_60 rfl (lv_at hl 0 rfl) ?_
          refine zg_Li_27 (pc := 61) hx hb hta hown hK hZ d_Li_fillInverse_61 ?_
          refine lv_aload_n (pc := 64) hx hb d_Li_fillInverse_64 rfl (lv_at hl 2 rfl) ?_
          refine lv_aload_n (pc := 65) hx hb d_Li_fillInverse_65 rfl (lv_at hl 1 rfl) ?_
          refine lv_aload_n (pc := 66) hx hb d_Li_fillInverse_66 rfl (lv_at hl 0 rfl) ?_
          refine zg_Li_30 (pc := 67) hx hb hta hown hK hZ d_Li_fillInverse_67 ?_
          refine lv_lload_n (pc := 70) hx hb d_Li_fillInverse_70 rfl (lv_at hl 3 rfl) ?_
          refine z_callv (pc := 71) (va_runS (As := [.ref (b + 71), .ref (b + a2), .ref (b + a1), .ref (b + 72), .long a3]) (rest := []) ⟨hx, hb, hml, hown, hts⟩ (c_Re_productInto l G b 71 a2 a1 72 a3 M N hw) (va_cwS 5 hts (z_good (zgS wd590 wd591 wd18 wd592)) rfl rfl rfl hd_Re_productInto ⟨Nat.le_of_ble_eq_true rfl, Nat.le_of_ble_eq_true rfl⟩) (z_preS hZ hK hT hS) rfl rfl hl.1 rfl (lv_room (Nat.le_of_ble_eq_true rfl)) d_Li_fillInverse_71 ⟨Nat.le_of_ble_eq_true rfl, Nat.le_of_ble_eq_true rfl⟩) hS (fun M11 N12 H locs hw hZ hS => ?_)
          obtain ⟨hw, eN12⟩ := hw
          rw [eN12] at hZ
          refine lv_aload_n (pc := 74) hx hb d_Li_fillInverse_74 rfl (lv_at hl 0 rfl) ?_
          refine zg_Li_30 (pc := 75) hx hb hta hown hK hZ d_Li_fillInverse_75 ?_
          refine lv_aload_n (pc := 78) hx hb d_Li_fillInverse_78 rfl (lv_at hl 2 rfl) ?_
          refine z_callv (pc := 79) (va_runS (As := [.ref (b + 72), .ref (b + a2)]) (rest := []) ⟨hx, hb, hml, hown, hts⟩ (c_Ro_copyInto l G b 72 a2 M11 N hw) (va_cwS 2 hts (z_good (zgS wd582 wd363 wd13 wd364)) rfl rfl rfl hd_Ro_copyInto ⟨Nat.le_of_ble_eq_true rfl, Nat.le_of_ble_eq_true rfl⟩) (z_preS hZ hK hT hS) rfl rfl hl.1 rfl (lv_room (Nat.le_of_ble_eq_true rfl)) d_Li_fillInverse_79 ⟨Nat.le_of_ble_eq_true rfl, Nat.le_of_ble_eq_true rfl⟩) hS (fun M14 N15 H locs hw hZ hS => ?_)
          obtain ⟨hw, eN15⟩ := hw
          rw [eN15] at hZ
          exact j82 v7 M14 _ _ _ hZ hS hl hw
  have lp6 : ∀ (M : zM) (n : Nat) (v5 : Int64) (v7 : Int32) (H : Heap) (ls : Array Slot) (locs : List Loc), va_P G.1 zCl (zws G b M N) H → va_S (zA b) s.heap H locs → lv_has ls 9 [(0, .ref (b + 51)), (1, .ref (b + a1)), (2, .ref (b + a2)), (3, .long a3), (5, .long v5), (7, .int v7)] → L_Li_fillInverse_6 P a1 a2 a3 M n v5 v7 → W p l e (headSpec ws_Li_fillInverse rm_Li_fillInverse).room s m ([.ref (b + 51), .ref (b + a1), .ref (b + a2), .long a3] : List Value).toArray below meth c H locs 0 0 (MQ below (zQv G b (fun M' N' => P M' ∧ N' = N)) ([.ref (b + 51), .ref (b + a1), .ref (b + a2), .long a3] : List Value).toArray s 0 0 (zA b)) (F0 m 6 ls []) := by
    intro M n
    induction n with
    | zero => intro v5 v7 H ls locs hZ hS hl hw; exact False.elim hw
    | succ n6 ih6 =>
      intro v5 v7 H ls locs hZ hS hl hw
      have hw : B_Li_fillInverse_6 P a1 a2 a3 M (L_Li_fillInverse_6 P a1 a2 a3 M n6) v5 v7 := hw
      unfold B_Li_fillInverse_6 at hw
      refine lv_iload (pc := 6) hx hb d_Li_fillInverse_6 (lv_at hl 5 rfl) ?_
      refine lv_aload_n (pc := 8) hx hb d_Li_fillInverse_8 rfl (lv_at hl 1 rfl) ?_
      refine z_calli (pc := 9) (va_runS (As := [.ref (b + a1)]) (rest := [.int v7]) ⟨hx, hb, hml, hown, hts⟩ (c_Ro_degreeOf l G b a1 M N hw) (va_cwS 1 hts (z_good (zgS wd598 wd312 wd13 wd313)) rfl rfl rfl hd_Ro_degreeOf ⟨Nat.le_of_ble_eq_true rfl, Nat.le_of_ble_eq_true rfl⟩) (z_preS hZ hK hT hS) rfl rfl hl.1 rfl (lv_room (Nat.le_of_ble_eq_true rfl)) d_Li_fillInverse_9 ⟨Nat.le_of_ble_eq_true rfl, Nat.le_of_ble_eq_true rfl⟩) hS (fun r1 M2 N3 H locs hw hZ hS => ?_)
      obtain ⟨hw, eM2, eN3⟩ := hw
      rw [eM2, eN3] at hZ
      refine lv_icmp_ge (pc := 12) (tgt := 27) hx hb d_Li_fillInverse_12 (by decide) (fun hc => ?_) (fun hc => ?_)
      · have hw := hw.1 hc
        refine lv_aload_n (pc := 27) hx hb d_Li_fillInverse_27 rfl (lv_at hl 2 rfl) ?_
        refine lv_lconst (pc := 28) (v := 0) hx hb d_Li_fillInverse_28 (by decide) ?_
        refine z_callv (pc := 29) (va_runS (As := [.ref (b + a2), .long (0 : Int64)]) (rest := []) ⟨hx, hb, hml, hown, hts⟩ (c_Ar_fillJ l G b a2 (0 : Int64) M N hw) (va_cwS 2 hts (z_good (zgS wd588 wd337 wd14 wd338)) rfl rfl rfl hd_Ar_fillJ ⟨Nat.le_of_ble_eq_true rfl, Nat.le_of_ble_eq_true rfl⟩) (z_preS hZ hK hT hS) rfl rfl hl.1 rfl (lv_room (Nat.le_of_ble_eq_true rfl)) d_Li_fillInverse_29 ⟨Nat.le_of_ble_eq_true rfl, Nat.le_of_ble_eq_true rfl⟩) hS (fun M5 N6 H locs hw hZ hS => ?_)
        obtain ⟨hw, eN6⟩ := hw
        rw [eN6] at hZ
        refine lv_aload_n (pc := 32) hx hb d_Li_fillInverse_32 rfl (lv_at hl 2 rfl) ?_
        refine lv_iconst (pc := 33) (v := 0) hx hb d_Li_fillInverse_33 (by decide) ?_
        refine lv_lconst (pc := 34) (v := 1) hx hb d_Li_fillInverse_34 (by decide) ?_
        obtain ⟨hc, hw⟩ := hw
        refine z_last (pc := 35) hx hb hK hZ hS hc d_Li_fillInverse_35 (fun M7 H locs hM7 hZ hS => ?_)
        have hw := hw M7 hM7
        refine lv_lload (pc := 36) hx hb d_Li_fillInverse_36 (lv_at hl 4 rfl) ?_
        refine lv_ldc2 (pc := 38) (v := 2) hx hb hown (hta _ wd599) d_Li_fillInverse_38 ?_
        refine lv_lsub (pc := 41) hx hb d_Li_fillInverse_41 ?_
        refine lv_topl (fun x8 hx8 => ?_)
        have hw := hw x8 hx8
        refine lv_lstore (pc := 42) (lv' := [(7, .long x8), (0, .ref (b + 51)), (1, .ref (b + a1)), (2, .ref (b + a2)), (3, .long a3), (5, .long v5)]) hx hb d_Li_fillInverse_42 hl (by decide) rfl (fun ls hl => ?_)
        obtain ⟨n, hw⟩ := hw
        exact lp44  n x8 M7 _ _ _ hZ hS (lv_sub hl [1, 2, 3, 4, 0] rfl) hw
      · have hw := hw.2 hc
        refine lv_lload (pc := 15) hx hb d_Li_fillInverse_15 (lv_at hl 4 rfl) ?_
        refine lv_lload_n (pc := 17) hx hb d_Li_fillInverse_17 rfl (lv_at hl 3 rfl) ?_
        refine lv_lmul (pc := 18) hx hb d_Li_fillInverse_18 ?_
        refine lv_topl (fun x9 hx9 => ?_)
        have hw := hw x9 hx9
        refine lv_lstore (pc := 19) (lv' := [(5, .long x9), (0, .ref (b + 51)), (1, .ref (b + a1)), (2, .ref (b + a2)), (3, .long a3), (7, .int v7)]) hx hb d_Li_fillInverse_19 hl (by decide) rfl (fun ls hl => ?_)
        refine lv_iinc (pc := 21) (k := 5) (v := v7 + (1 : Int32)) (lv' := [(7, .int (v7 + (1 : Int32))), (5, .long x9), (0, .ref (b + 51)), (1, .ref (b + a1)), (2, .ref (b + a2)), (3, .long a3)]) hx hb d_Li_fillInverse_21 hl rfl (by rfl) (by decide) rfl (fun ls hl => ?_)
        refine lv_goto (pc := 24) (tgt := 6) hx hb d_Li_fillInverse_24 (by decide) ?_
        exact ih6 x9 (v7 + (1 : Int32)) _ _ _ hZ hS (lv_sub hl [2, 3, 4, 5, 1, 0] rfl) hw
  unfold w_Li_fillInverse at hw
  refine lv_lconst (pc := 0) (v := 1) hx hb d_Li_fillInverse_0 (by decide) ?_
  refine lv_lstore (pc := 1) (lv' := [(5, .long (1 : Int64)), (0, .ref (b + 51)), (1, .ref (b + a1)), (2, .ref (b + a2)), (3, .long a3)]) hx hb d_Li_fillInverse_1 hl (by decide) rfl (fun ls hl => ?_)
  refine lv_iconst (pc := 3) (v := 0) hx hb d_Li_fillInverse_3 (by decide) ?_
  refine lv_istore (pc := 4) (lv' := [(7, .int (0 : Int32)), (5, .long (1 : Int64)), (0, .ref (b + 51)), (1, .ref (b + a1)), (2, .ref (b + a2)), (3, .long a3)]) hx hb d_Li_fillInverse_4 hl (by decide) rfl (fun ls hl => ?_)
  obtain ⟨n, hw⟩ := hw
  exact lp6 M n (1 : Int64) (0 : Int32) _ _ _ hZ hS (lv_sub hl [2, 3, 4, 5, 1, 0] rfl) hw
theorem d_Re_multiplyBy_0 : decode prog_6_method_9_code 0 = .ok (.aload_n 1, 1) := by decide +kernel
theorem d_Re_multiplyBy_1 : decode prog_6_method_9_code 1 = .ok (.invokestatic 17, 3) := by decide +kernel
theorem d_Re_multiplyBy_4 : decode prog_6_method_9_code 4 = .ok (.istore 4, 2) := by decide +kernel
theorem d_Re_multiplyBy_6 : decode prog_6_method_9_code 6 = .ok (.bipush 7, 2) := by decide +kernel
theorem d_Re_multiplyBy_8 : decode prog_6_method_9_code 8 = .ok (.istore 5, 2) := by decide +kernel
theorem d_Re_multiplyBy_10 : decode prog_6_method_9_code 10 = .ok (.iload 5, 2) := by decide +kernel
theorem d_Re_multiplyBy_12 : decode prog_6_method_9_code 12 = .ok (.ifCond .lt 66, 3) := by decide +kernel
theorem d_Re_multiplyBy_15 : decode prog_6_method_9_code 15 = .ok (.lconst 0, 1) := by decide +kernel
theorem d_Re_multiplyBy_16 : decode prog_6_method_9_code 16 = .ok (.lstore 6, 2) := by decide +kernel
theorem d_Re_multiplyBy_18 : decode prog_6_method_9_code 18 = .ok (.iload 5, 2) := by decide +kernel
theorem d_Re_multiplyBy_20 : decode prog_6_method_9_code 20 = .ok (.iload 4, 2) := by decide +kernel
theorem d_Re_multiplyBy_22 : decode prog_6_method_9_code 22 = .ok (.if_icmp .ge 8, 3) := by decide +kernel
theorem d_Re_multiplyBy_25 : decode prog_6_method_9_code 25 = .ok (.iload 5, 2) := by decide +kernel
theorem d_Re_multiplyBy_27 : decode prog_6_method_9_code 27 = .ok (.goto 5, 3) := by decide +kernel
theorem d_Re_multiplyBy_30 : decode prog_6_method_9_code 30 = .ok (.iload 4, 2) := by decide +kernel
theorem d_Re_multiplyBy_32 : decode prog_6_method_9_code 32 = .ok (.istore 8, 2) := by decide +kernel
theorem d_Re_multiplyBy_34 : decode prog_6_method_9_code 34 = .ok (.iload 8, 2) := by decide +kernel
theorem d_Re_multiplyBy_36 : decode prog_6_method_9_code 36 = .ok (.ifCond .lt 26, 3) := by decide +kernel
theorem d_Re_multiplyBy_39 : decode prog_6_method_9_code 39 = .ok (.lload 6, 2) := by decide +kernel
theorem d_Re_multiplyBy_41 : decode prog_6_method_9_code 41 = .ok (.aload_n 0, 1) := by decide +kernel
theorem d_Re_multiplyBy_42 : decode prog_6_method_9_code 42 = .ok (.iload 5, 2) := by decide +kernel
theorem d_Re_multiplyBy_44 : decode prog_6_method_9_code 44 = .ok (.iload 8, 2) := by decide +kernel
theorem d_Re_multiplyBy_46 : decode prog_6_method_9_code 46 = .ok (.isub, 1) := by decide +kernel
theorem d_Re_multiplyBy_47 : decode prog_6_method_9_code 47 = .ok (.laload, 1) := by decide +kernel
theorem d_Re_multiplyBy_48 : decode prog_6_method_9_code 48 = .ok (.aload_n 1, 1) := by decide +kernel
theorem d_Re_multiplyBy_49 : decode prog_6_method_9_code 49 = .ok (.iload 8, 2) := by decide +kernel
theorem d_Re_multiplyBy_51 : decode prog_6_method_9_code 51 = .ok (.laload, 1) := by decide +kernel
theorem d_Re_multiplyBy_52 : decode prog_6_method_9_code 52 = .ok (.lmul, 1) := by decide +kernel
theorem d_Re_multiplyBy_53 : decode prog_6_method_9_code 53 = .ok (.ladd, 1) := by decide +kernel
theorem d_Re_multiplyBy_54 : decode prog_6_method_9_code 54 = .ok (.lstore 6, 2) := by decide +kernel
theorem d_Re_multiplyBy_56 : decode prog_6_method_9_code 56 = .ok (.iinc 8 (-1), 3) := by decide +kernel
theorem d_Re_multiplyBy_59 : decode prog_6_method_9_code 59 = .ok (.goto (-25), 3) := by decide +kernel
theorem d_Re_multiplyBy_62 : decode prog_6_method_9_code 62 = .ok (.aload_n 0, 1) := by decide +kernel
theorem d_Re_multiplyBy_63 : decode prog_6_method_9_code 63 = .ok (.iload 5, 2) := by decide +kernel
theorem d_Re_multiplyBy_65 : decode prog_6_method_9_code 65 = .ok (.lload 6, 2) := by decide +kernel
theorem d_Re_multiplyBy_67 : decode prog_6_method_9_code 67 = .ok (.lload_n 2, 1) := by decide +kernel
theorem d_Re_multiplyBy_68 : decode prog_6_method_9_code 68 = .ok (.invokestatic 9, 3) := by decide +kernel
theorem d_Re_multiplyBy_71 : decode prog_6_method_9_code 71 = .ok (.lastore, 1) := by decide +kernel
theorem d_Re_multiplyBy_72 : decode prog_6_method_9_code 72 = .ok (.iinc 5 (-1), 3) := by decide +kernel
theorem d_Re_multiplyBy_75 : decode prog_6_method_9_code 75 = .ok (.goto (-65), 3) := by decide +kernel
theorem d_Re_multiplyBy_78 : decode prog_6_method_9_code 78 = .ok (.return_, 1) := by decide +kernel
def B_Re_multiplyBy_34 (P : zM → Prop) (k10 : Int32 → zM → Prop) (a0 : Nat) (a1 : Nat) (a2 : Int64) (v4 : Int32) (v5 : Int32) (M : zM) (k34 : Int64 → Int32 → Prop) (v6 : Int64) (v8 : Int32) : Prop := (v8 < 0 → w_Re_residue v6 a2  (fun r4 => vp_in v5 (zlong a0) ∧ ∀ M7 : zM, M7 = zput M a0 v5.toNatClampNeg r4 → k10 (v5 + (-1 : Int32)) M7)) ∧ (¬ v8 < 0 → vp_in (v5 - v8) (zlong a0) ∧ vp_in v8 (zlong a1) ∧ ∀ x8 : Int64, x8 = v6 + ((M a0 (v5 - v8).toNatClampNeg) * (M a1 v8.toNatClampNeg)) → k34 x8 (v8 + (-1 : Int32)))
def L_Re_multiplyBy_34 (P : zM → Prop) (k10 : Int32 → zM → Prop) (a0 : Nat) (a1 : Nat) (a2 : Int64) (v4 : Int32) (v5 : Int32) (M : zM) (n : Nat) : Int64 → Int32 → Prop := Nat.rec (fun _ _ => False) (fun _ k => B_Re_multiplyBy_34 P k10 a0 a1 a2 v4 v5 M k) n
def B_Re_multiplyBy_10 (P : zM → Prop) (a0 : Nat) (a1 : Nat) (a2 : Int64) (v4 : Int32) (k10 : Int32 → zM → Prop) (v5 : Int32) (M : zM) : Prop := (v5 < 0 → P M) ∧ (¬ v5 < 0 → (v4 ≤ v5 → ∃ n, L_Re_multiplyBy_34 P k10 a0 a1 a2 v4 v5 M n (0 : Int64) v4) ∧ (¬ v4 ≤ v5 → ∃ n, L_Re_multiplyBy_34 P k10 a0 a1 a2 v4 v5 M n (0 : Int64) v5))
def L_Re_multiplyBy_10 (P : zM → Prop) (a0 : Nat) (a1 : Nat) (a2 : Int64) (v4 : Int32) (n : Nat) : Int32 → zM → Prop := Nat.rec (fun _ _ => False) (fun _ k => B_Re_multiplyBy_10 P a0 a1 a2 v4 k) n
def w_Re_multiplyBy (a0 : Nat) (a1 : Nat) (a2 : Int64) (M : zM) (P : zM → Prop) : Prop := w_Ro_degreeOf a1 M (fun r1 => ∃ n, L_Re_multiplyBy_10 P a0 a1 a2 r1 n (7 : Int32) M)
def ws_Re_multiplyBy : List Cond := .code y_Re_multiplyBy prog_6_method_9_code 9 (Option.none : Option Jvm.ClassFile.FieldType) :: zall
def rm_Re_multiplyBy : Room := { frames := 1, cells := 0, slots := 0, locals := 25 }
theorem hd_Re_multiplyBy : y_Re_multiplyBy.cls ≠ "java/lang/invoke/MethodHandle" ∧ y_Re_multiplyBy.cls ≠ "java/lang/invoke/VarHandle" ∧ (parseMethodDescriptor y_Re_multiplyBy.desc).map (fun d => d.parameters.length) = some 3 := by decide +kernel
set_option maxHeartbeats 4000000 in
set_option maxRecDepth 100000 in
theorem c_Re_multiplyBy (l : Launch) (G : zG) (b : Nat) (a0 : Nat) (a1 : Nat) (a2 : Int64) (M : zM) (N : zN) {P : zM → Prop} (hw : w_Re_multiplyBy a0 a1 a2 M P) : Met l y_Re_multiplyBy ws_Re_multiplyBy rm_Re_multiplyBy (zPc G b M N [.ref (b + a0), .ref (b + a1), .long a2]) (zQv G b (fun M' N' => P M' ∧ N' = N)) 0 0 (zA b) := by
  refine Met.ofW (cc := prog_6_method_9_code) (maxL := 9) (ret := (Option.none : Option Jvm.ClassFile.FieldType)) (by decide) rfl ?_
  intro p e s m args below meth c s₁ B hml hv
  obtain ⟨rfl, hZ, hK, hT⟩ := hv
  have hx := B.exec
  have hb := B.bytes
  have hr := B.returns
  have hts := atoms_spec (ws := ws_Re_multiplyBy) B.pre
  have hta : ∀ w ∈ zall, w.before ([.ref (b + a0), .ref (b + a1), .long a2] : List Value).toArray s = true := fun w h => hts w (List.mem_cons_of_mem _ h)
  have hown : s.vm.findClass R_Re = some m.cls := findClass_of_methodNamed B.named
  have hlocks := B.notSynchronized
  have hS : va_S (zA b) s.heap s.heap [] := va_S.rf
  have hl := lv_entry ([.ref (b + a0), .ref (b + a1), .long a2]) (n := 9) (Nat.le_of_ble_eq_true rfl)
  rw [lg_entry_eq]
  generalize (lg_sl ([.ref (b + a0), .ref (b + a1), .long a2]) ++ List.replicate (9 - (lg_sl ([.ref (b + a0), .ref (b + a1), .long a2])).length) Slot.unset).toArray = ls at hl ⊢
  have hl : lv_has ls 9 [(0, .ref (b + a0)), (1, .ref (b + a1)), (2, .long a2)] := hl
  have lp10 : ∀ (v4 : Int32) (n : Nat) (v5 : Int32) (M : zM) (H : Heap) (ls : Array Slot) (locs : List Loc), va_P G.1 zCl (zws G b M N) H → va_S (zA b) s.heap H locs → lv_has ls 9 [(0, .ref (b + a0)), (1, .ref (b + a1)), (2, .long a2), (4, .int v4), (5, .int v5)] → L_Re_multiplyBy_10 P a0 a1 a2 v4 n v5 M → W p l e (headSpec ws_Re_multiplyBy rm_Re_multiplyBy).room s m ([.ref (b + a0), .ref (b + a1), .long a2] : List Value).toArray below meth c H locs 0 0 (MQ below (zQv G b (fun M' N' => P M' ∧ N' = N)) ([.ref (b + a0), .ref (b + a1), .long a2] : List Value).toArray s 0 0 (zA b)) (F0 m 10 ls []) := by
    intro v4 n
    induction n with
    | zero => intro v5 M H ls locs hZ hS hl hw; exact False.elim hw
    | succ n10 ih10 =>
      have lp34 : ∀ (v5 : Int32) (M : zM) (n : Nat) (v6 : Int64) (v8 : Int32) (H : Heap) (ls : Array Slot) (locs : List Loc), va_P G.1 zCl (zws G b M N) H → va_S (zA b) s.heap H locs → lv_has ls 9 [(0, .ref (b + a0)), (1, .ref (b + a1)), (2, .long a2), (4, .int v4), (5, .int v5), (6, .long v6), (8, .int v8)] → L_Re_multiplyBy_34 P (L_Re_multiplyBy_10 P a0 a1 a2 v4 n10) a0 a1 a2 v4 v5 M n v6 v8 → W p l e (headSpec ws_Re_multiplyBy rm_Re_multiplyBy).room s m ([.ref (b + a0), .ref (b + a1), .long a2] : List Value).toArray below meth c H locs 0 0 (MQ below (zQv G b (fun M' N' => P M' ∧ N' = N)) ([.ref (b + a0), .ref (b + a1), .long a2] : List Value).toArray s 0 0 (zA b)) (F0 m 34 ls []) := by
        intro v5 M n
        induction n with
        | zero => intro v6 v8 H ls locs hZ hS hl hw; exact False.elim hw
        | succ n34 ih34 =>
          intro v6 v8 H ls locs hZ hS hl hw
          have hw : B_Re_multiplyBy_34 P (L_Re_multiplyBy_10 P a0 a1 a2 v4 n10) a0 a1 a2 v4 v5 M (L_Re_multiplyBy_34 P (L_Re_multiplyBy_10 P a0 a1 a2 v4 n10) a0 a1 a2 v4 v5 M n34) v6 v8 := hw
          unfold B_Re_multiplyBy_34 at hw
          refine lv_iload (pc := 34) hx hb d_Re_multiplyBy_34 (lv_at hl 6 rfl) ?_
          refine lv_if_lt (pc := 36) (tgt := 62) hx hb d_Re_multiplyBy_36 (by decide) (fun hc => ?_) (fun hc => ?_)
          · have hw := hw.1 hc
            refine lv_aload_n (pc := 62) hx hb d_Re_multiplyBy_62 rfl (lv_at hl 0 rfl) ?_
            refine lv_iload (pc := 63) hx hb d_Re_multiplyBy_63 (lv_at hl 4 rfl) ?_
            refine lv_lload (pc := 65) hx hb d_Re_multiplyBy_65 (lv_at hl 5 rfl) ?_
            refine lv_lload_n (pc := 67) hx hb d_Re_multiplyBy_67 rfl (lv_at hl 2 rfl) ?_
            refine z_calll (pc := 68) (va_runS (As := [.long v6, .long a2]) (rest := [.int v5, .ref (b + a0)]) ⟨hx, hb, hml, hown, hts⟩ (c_Re_residue l G b v6 a2 M N hw) (va_cwS 2 hts (z_good (zgS wd465 wd466 wd18 wd467)) rfl rfl rfl hd_Re_residue ⟨Nat.le_of_ble_eq_true rfl, Nat.le_of_ble_eq_true rfl⟩) (z_preS hZ hK hT hS) rfl rfl hl.1 rfl (lv_room (Nat.le_of_ble_eq_true rfl)) d_Re_multiplyBy_68 ⟨Nat.le_of_ble_eq_true rfl, Nat.le_of_ble_eq_true rfl⟩) hS (fun r4 M5 N6 H locs hw hZ hS => ?_)
            obtain ⟨hw, eM5, eN6⟩ := hw
            rw [eM5, eN6] at hZ
            obtain ⟨hc, hw⟩ := hw
            refine z_last (pc := 71) hx hb hK hZ hS hc d_Re_multiplyBy_71 (fun M7 H locs hM7 hZ hS => ?_)
            have hw := hw M7 hM7
            refine lv_iinc (pc := 72) (k := 4) (v := v5 + (-1 : Int32)) (lv' := [(5, .int (v5 + (-1 : Int32))), (0, .ref (b + a0)), (1, .ref (b + a1)), (2, .long a2), (4, .int v4), (6, .long v6), (8, .int v8)]) hx hb d_Re_multiplyBy_72 hl rfl (by rfl) (by decide) rfl (fun ls hl => ?_)
            refine lv_goto (pc := 75) (tgt := 10) hx hb d_Re_multiplyBy_75 (by decide) ?_
            exact ih10 (v5 + (-1 : Int32)) M7 _ _ _ hZ hS (lv_sub hl [1, 2, 3, 4, 0] rfl) hw
          · have hw := hw.2 hc
            refine lv_lload (pc := 39) hx hb d_Re_multiplyBy_39 (lv_at hl 5 rfl) ?_
            refine lv_aload_n (pc := 41) hx hb d_Re_multiplyBy_41 rfl (lv_at hl 0 rfl) ?_
            refine lv_iload (pc := 42) hx hb d_Re_multiplyBy_42 (lv_at hl 4 rfl) ?_
            refine lv_iload (pc := 44) hx hb d_Re_multiplyBy_44 (lv_at hl 6 rfl) ?_
            refine lv_isub (pc := 46) hx hb d_Re_multiplyBy_46 ?_
            obtain ⟨hc, hw⟩ := hw
            refine z_lald (pc := 47) hx hb hK hZ hc d_Re_multiplyBy_47 ?_
            refine lv_aload_n (pc := 48) hx hb d_Re_multiplyBy_48 rfl (lv_at hl 1 rfl) ?_
            refine lv_iload (pc := 49) hx hb d_Re_multiplyBy_49 (lv_at hl 6 rfl) ?_
            obtain ⟨hc, hw⟩ := hw
            refine z_lald (pc := 51) hx hb hK hZ hc d_Re_multiplyBy_51 ?_
            refine lv_lmul (pc := 52) hx hb d_Re_multiplyBy_52 ?_
            refine lv_ladd (pc := 53) hx hb d_Re_multiplyBy_53 ?_
            refine lv_topl (fun x8 hx8 => ?_)
            have hw := hw x8 hx8
            refine lv_lstore (pc := 54) (lv' := [(6, .long x8), (0, .ref (b + a0)), (1, .ref (b + a1)), (2, .long a2), (4, .int v4), (5, .int v5), (8, .int v8)]) hx hb d_Re_multiplyBy_54 hl (by decide) rfl (fun ls hl => ?_)
            refine lv_iinc (pc := 56) (k := 6) (v := v8 + (-1 : Int32)) (lv' := [(8, .int (v8 + (-1 : Int32))), (6, .long x8), (0, .ref (b + a0)), (1, .ref (b + a1)), (2, .long a2), (4, .int v4), (5, .int v5)]) hx hb d_Re_multiplyBy_56 hl rfl (by rfl) (by decide) rfl (fun ls hl => ?_)
            refine lv_goto (pc := 59) (tgt := 34) hx hb d_Re_multiplyBy_59 (by decide) ?_
            exact ih34 x8 (v8 + (-1 : Int32)) _ _ _ hZ hS (lv_sub hl [2, 3, 4, 5, 6, 1, 0] rfl) hw
      intro v5 M H ls locs hZ hS hl hw
      have hw : B_Re_multiplyBy_10 P a0 a1 a2 v4 (L_Re_multiplyBy_10 P a0 a1 a2 v4 n10) v5 M := hw
      unfold B_Re_multiplyBy_10 at hw
      refine lv_iload (pc := 10) hx hb d_Re_multiplyBy_10 (lv_at hl 4 rfl) ?_
      refine lv_if_lt (pc := 12) (tgt := 78) hx hb d_Re_multiplyBy_12 (by decide) (fun hc => ?_) (fun hc => ?_)
      · have hw := hw.1 hc
        exact z_vret hx hb hr hlocks hK hT hZ hS ⟨hw, rfl⟩ d_Re_multiplyBy_78
      · have hw := hw.2 hc
        refine lv_lconst (pc := 15) (v := 0) hx hb d_Re_multiplyBy_15 (by decide) ?_
        refine lv_lstore (pc := 16) (lv' := [(6, .long (0 : Int64)), (0, .ref (b + a0)), (1, .ref (b + a1)), (2, .long a2), (4, .int v4), (5, .int v5)]) hx hb d_Re_multiplyBy_16 hl (by decide) rfl (fun ls hl => ?_)
        refine lv_iload (pc := 18) hx hb d_Re_multiplyBy_18 (lv_at hl 5 rfl) ?_
        refine lv_iload (pc := 20) hx hb d_Re_multiplyBy_20 (lv_at hl 4 rfl) ?_
        refine lv_icmp_ge (pc := 22) (tgt := 30) hx hb d_Re_multiplyBy_22 (by decide) (fun hc => ?_) (fun hc => ?_)
        · have hw := hw.1 hc
          refine lv_iload (pc := 30) hx hb d_Re_multiplyBy_30 (lv_at hl 4 rfl) ?_
          refine lv_istore (pc := 32) (lv' := [(8, .int v4), (6, .long (0 : Int64)), (0, .ref (b + a0)), (1, .ref (b + a1)), (2, .long a2), (4, .int v4), (5, .int v5)]) hx hb d_Re_multiplyBy_32 hl (by decide) rfl (fun ls hl => ?_)
          obtain ⟨n, hw⟩ := hw
          exact lp34 v5 M n (0 : Int64) v4 _ _ _ hZ hS (lv_sub hl [2, 3, 4, 5, 6, 1, 0] rfl) hw
        · have hw := hw.2 hc
          refine lv_iload (pc := 25) hx hb d_Re_multiplyBy_25 (lv_at hl 5 rfl) ?_
          refine lv_goto (pc := 27) (tgt := 32) hx hb d_Re_multiplyBy_27 (by decide) ?_
          refine lv_istore (pc := 32) (lv' := [(8, .int v5), (6, .long (0 : Int64)), (0, .ref (b + a0)), (1, .ref (b + a1)), (2, .long a2), (4, .int v4), (5, .int v5)]) hx hb d_Re_multiplyBy_32 hl (by decide) rfl (fun ls hl => ?_)
          obtain ⟨n, hw⟩ := hw
          exact lp34 v5 M n (0 : Int64) v5 _ _ _ hZ hS (lv_sub hl [2, 3, 4, 5, 6, 1, 0] rfl) hw
  unfold w_Re_multiplyBy at hw
  refine lv_aload_n (pc := 0) hx hb d_Re_multiplyBy_0 rfl (lv_at hl 1 rfl) ?_
  refine z_calli (pc := 1) (va_runS (As := [.ref (b + a1)]) (rest := []) ⟨hx, hb, hml, hown, hts⟩ (c_Ro_degreeOf l G b a1 M N hw) (va_cwS 1 hts (z_good (zgS wd471 wd312 wd13 wd313)) rfl rfl rfl hd_Ro_degreeOf ⟨Nat.le_of_ble_eq_true rfl, Nat.le_of_ble_eq_true rfl⟩) (z_preS hZ hK hT hS) rfl rfl hl.1 rfl (lv_room (Nat.le_of_ble_eq_true rfl)) d_Re_multiplyBy_1 ⟨Nat.le_of_ble_eq_true rfl, Nat.le_of_ble_eq_true rfl⟩) hS (fun r1 M2 N3 H locs hw hZ hS => ?_)
  obtain ⟨hw, eM2, eN3⟩ := hw
  rw [eM2, eN3] at hZ
  refine lv_istore (pc := 4) (lv' := [(4, .int r1), (0, .ref (b + a0)), (1, .ref (b + a1)), (2, .long a2)]) hx hb d_Re_multiplyBy_4 hl (by decide) rfl (fun ls hl => ?_)
  refine lv_bipush (pc := 6) (v := 7) hx hb d_Re_multiplyBy_6 (by decide) ?_
  refine lv_istore (pc := 8) (lv' := [(5, .int (7 : Int32)), (4, .int r1), (0, .ref (b + a0)), (1, .ref (b + a1)), (2, .long a2)]) hx hb d_Re_multiplyBy_8 hl (by decide) rfl (fun ls hl => ?_)
  obtain ⟨n, hw⟩ := hw
  exact lp10 r1 n (7 : Int32) M _ _ _ hZ hS (lv_sub hl [2, 3, 4, 1, 0] rfl) hw
theorem zg_Li_23 {p : Program} {l : Launch} {e : Env} {R : Room} {s : State} {m : MethodId} {args : Array Value} {below : List Frame} {meth : Method} {c : Code} {H : Heap} {locs : List Loc} {cells slots : Nat} {Q : State → Prop} {cc : ByteArray} {pc : Nat} {ls : Array Slot} {rest : List Value} {G : zG} {b : Nat} {M : zM} {N : zN} (hx : p.tables.exec = Jvm.exec) (hb : c.code = cc) (hta : ∀ w ∈ zall, w.before args s = true) (hown : s.vm.findClass R_Li = some m.cls) (hK : va_K G.1 zCl (zty G) s) (hZ : va_P G.1 zCl (zws G b M N) H) (hdg : decode cc pc = .ok (.getfield 23, 3)) (kk : W p l e R s m args below meth c H locs cells slots Q (F0 m (pc + 3) ls (.ref (b + 70) :: rest))) : W p l e R s m args below meth c H locs cells slots Q (F0 m pc ls (.ref (b + 51) :: rest)) :=
  va_get (D := G.1) (ci := 2) (v := .ref (b + 70)) (C := R_Li) (T := T_Li) (N := 6) hx hb hta hin_Li hown hK hZ 51 zo_Li rfl 3 (by decide) (hta _ wd118) (fun _ h9 => h9) rfl hdg kk
theorem zg_Li_11 {p : Program} {l : Launch} {e : Env} {R : Room} {s : State} {m : MethodId} {args : Array Value} {below : List Frame} {meth : Method} {c : Code} {H : Heap} {locs : List Loc} {cells slots : Nat} {Q : State → Prop} {cc : ByteArray} {pc : Nat} {ls : Array Slot} {rest : List Value} {G : zG} {b : Nat} {M : zM} {N : zN} (hx : p.tables.exec = Jvm.exec) (hb : c.code = cc) (hta : ∀ w ∈ zall, w.before args s = true) (hown : s.vm.findClass R_Li = some m.cls) (hK : va_K G.1 zCl (zty G) s) (hZ : va_P G.1 zCl (zws G b M N) H) (hdg : decode cc pc = .ok (.getfield 11, 3)) (kk : W p l e R s m args below meth c H locs cells slots Q (F0 m (pc + 3) ls (.ref (b + 52) :: rest))) : W p l e R s m args below meth c H locs cells slots Q (F0 m pc ls (.ref (b + 51) :: rest)) :=
  va_get (D := G.1) (ci := 2) (v := .ref (b + 52)) (C := R_Li) (T := T_Li) (N := 6) hx hb hta hin_Li hown hK hZ 51 zo_Li rfl 0 (by decide) (hta _ wd113) (fun _ h9 => h9) rfl hdg kk
theorem zg_Li_16 {p : Program} {l : Launch} {e : Env} {R : Room} {s : State} {m : MethodId} {args : Array Value} {below : List Frame} {meth : Method} {c : Code} {H : Heap} {locs : List Loc} {cells slots : Nat} {Q : State → Prop} {cc : ByteArray} {pc : Nat} {ls : Array Slot} {rest : List Value} {G : zG} {b : Nat} {M : zM} {N : zN} (hx : p.tables.exec = Jvm.exec) (hb : c.code = cc) (hta : ∀ w ∈ zall, w.before args s = true) (hown : s.vm.findClass R_Li = some m.cls) (hK : va_K G.1 zCl (zty G) s) (hZ : va_P G.1 zCl (zws G b M N) H) (hdg : decode cc pc = .ok (.getfield 16, 3)) (kk : W p l e R s m args below meth c H locs cells slots Q (F0 m (pc + 3) ls (.long (M 51 1) :: rest))) : W p l e R s m args below meth c H locs cells slots Q (F0 m pc ls (.ref (b + 51) :: rest)) :=
  va_get (D := G.1) (ci := 2) (v := .long (M 51 1)) (C := R_Li) (T := T_Li) (N := 6) hx hb hta hin_Li hown hK hZ 51 zo_Li rfl 1 (by decide) (hta _ wd115) (fun _ h9 => h9) rfl hdg kk
theorem d_Li_findError_0 : decode prog_4_method_5_code 0 = .ok (.aload_n 0, 1) := by decide +kernel
theorem d_Li_findError_1 : decode prog_4_method_5_code 1 = .ok (.getfield 23, 3) := by decide +kernel
theorem d_Li_findError_4 : decode prog_4_method_5_code 4 = .ok (.lconst 0, 1) := by decide +kernel
theorem d_Li_findError_5 : decode prog_4_method_5_code 5 = .ok (.invokestatic 70, 3) := by decide +kernel
theorem d_Li_findError_8 : decode prog_4_method_5_code 8 = .ok (.aload_n 0, 1) := by decide +kernel
theorem d_Li_findError_9 : decode prog_4_method_5_code 9 = .ok (.getfield 23, 3) := by decide +kernel
theorem d_Li_findError_12 : decode prog_4_method_5_code 12 = .ok (.iconst 0, 1) := by decide +kernel
theorem d_Li_findError_13 : decode prog_4_method_5_code 13 = .ok (.aload_n 1, 1) := by decide +kernel
theorem d_Li_findError_14 : decode prog_4_method_5_code 14 = .ok (.invokestatic 46, 3) := by decide +kernel
theorem d_Li_findError_17 : decode prog_4_method_5_code 17 = .ok (.lastore, 1) := by decide +kernel
theorem d_Li_findError_18 : decode prog_4_method_5_code 18 = .ok (.iconst 0, 1) := by decide +kernel
theorem d_Li_findError_19 : decode prog_4_method_5_code 19 = .ok (.istore 5, 2) := by decide +kernel
theorem d_Li_findError_21 : decode prog_4_method_5_code 21 = .ok (.iload 5, 2) := by decide +kernel
theorem d_Li_findError_23 : decode prog_4_method_5_code 23 = .ok (.iload_n 2, 1) := by decide +kernel
theorem d_Li_findError_24 : decode prog_4_method_5_code 24 = .ok (.if_icmp .ge 24, 3) := by decide +kernel
theorem d_Li_findError_27 : decode prog_4_method_5_code 27 = .ok (.aload_n 0, 1) := by decide +kernel
theorem d_Li_findError_28 : decode prog_4_method_5_code 28 = .ok (.getfield 23, 3) := by decide +kernel
theorem d_Li_findError_31 : decode prog_4_method_5_code 31 = .ok (.aload_n 0, 1) := by decide +kernel
theorem d_Li_findError_32 : decode prog_4_method_5_code 32 = .ok (.getfield 11, 3) := by decide +kernel
theorem d_Li_findError_35 : decode prog_4_method_5_code 35 = .ok (.iload 5, 2) := by decide +kernel
theorem d_Li_findError_37 : decode prog_4_method_5_code 37 = .ok (.aaload, 1) := by decide +kernel
theorem d_Li_findError_38 : decode prog_4_method_5_code 38 = .ok (.lload_n 3, 1) := by decide +kernel
theorem d_Li_findError_39 : decode prog_4_method_5_code 39 = .ok (.invokestatic 86, 3) := by decide +kernel
theorem d_Li_findError_42 : decode prog_4_method_5_code 42 = .ok (.iinc 5 1, 3) := by decide +kernel
theorem d_Li_findError_45 : decode prog_4_method_5_code 45 = .ok (.goto (-24), 3) := by decide +kernel
theorem d_Li_findError_48 : decode prog_4_method_5_code 48 = .ok (.iconst 0, 1) := by decide +kernel
theorem d_Li_findError_49 : decode prog_4_method_5_code 49 = .ok (.istore 5, 2) := by decide +kernel
theorem d_Li_findError_51 : decode prog_4_method_5_code 51 = .ok (.iload 5, 2) := by decide +kernel
theorem d_Li_findError_53 : decode prog_4_method_5_code 53 = .ok (.bipush 8, 2) := by decide +kernel
theorem d_Li_findError_55 : decode prog_4_method_5_code 55 = .ok (.if_icmp .ge 54, 3) := by decide +kernel
theorem d_Li_findError_58 : decode prog_4_method_5_code 58 = .ok (.aload_n 1, 1) := by decide +kernel
theorem d_Li_findError_59 : decode prog_4_method_5_code 59 = .ok (.iload 5, 2) := by decide +kernel
theorem d_Li_findError_61 : decode prog_4_method_5_code 61 = .ok (.laload, 1) := by decide +kernel
theorem d_Li_findError_62 : decode prog_4_method_5_code 62 = .ok (.aload_n 0, 1) := by decide +kernel
theorem d_Li_findError_63 : decode prog_4_method_5_code 63 = .ok (.getfield 23, 3) := by decide +kernel
theorem d_Li_findError_66 : decode prog_4_method_5_code 66 = .ok (.iload 5, 2) := by decide +kernel
theorem d_Li_findError_68 : decode prog_4_method_5_code 68 = .ok (.laload, 1) := by decide +kernel
theorem d_Li_findError_69 : decode prog_4_method_5_code 69 = .ok (.lsub, 1) := by decide +kernel
theorem d_Li_findError_70 : decode prog_4_method_5_code 70 = .ok (.lload_n 3, 1) := by decide +kernel
theorem d_Li_findError_71 : decode prog_4_method_5_code 71 = .ok (.invokestatic 76, 3) := by decide +kernel
theorem d_Li_findError_74 : decode prog_4_method_5_code 74 = .ok (.lstore 6, 2) := by decide +kernel
theorem d_Li_findError_76 : decode prog_4_method_5_code 76 = .ok (.aload_n 0, 1) := by decide +kernel
theorem d_Li_findError_77 : decode prog_4_method_5_code 77 = .ok (.getfield 23, 3) := by decide +kernel
theorem d_Li_findError_80 : decode prog_4_method_5_code 80 = .ok (.iload 5, 2) := by decide +kernel
theorem d_Li_findError_82 : decode prog_4_method_5_code 82 = .ok (.aload_n 0, 1) := by decide +kernel
theorem d_Li_findError_83 : decode prog_4_method_5_code 83 = .ok (.getfield 16, 3) := by decide +kernel
theorem d_Li_findError_86 : decode prog_4_method_5_code 86 = .ok (.lconst 0, 1) := by decide +kernel
theorem d_Li_findError_87 : decode prog_4_method_5_code 87 = .ok (.lcmp, 1) := by decide +kernel
theorem d_Li_findError_88 : decode prog_4_method_5_code 88 = .ok (.ifCond .gt 7, 3) := by decide +kernel
theorem d_Li_findError_91 : decode prog_4_method_5_code 91 = .ok (.lconst 0, 1) := by decide +kernel
theorem d_Li_findError_92 : decode prog_4_method_5_code 92 = .ok (.goto 10, 3) := by decide +kernel
theorem d_Li_findError_95 : decode prog_4_method_5_code 95 = .ok (.lload 6, 2) := by decide +kernel
theorem d_Li_findError_97 : decode prog_4_method_5_code 97 = .ok (.aload_n 0, 1) := by decide +kernel
theorem d_Li_findError_98 : decode prog_4_method_5_code 98 = .ok (.getfield 16, 3) := by decide +kernel
theorem d_Li_findError_101 : decode prog_4_method_5_code 101 = .ok (.ldiv, 1) := by decide +kernel
theorem d_Li_findError_102 : decode prog_4_method_5_code 102 = .ok (.lastore, 1) := by decide +kernel
theorem d_Li_findError_103 : decode prog_4_method_5_code 103 = .ok (.iinc 5 1, 3) := by decide +kernel
theorem d_Li_findError_106 : decode prog_4_method_5_code 106 = .ok (.goto (-55), 3) := by decide +kernel
theorem d_Li_findError_109 : decode prog_4_method_5_code 109 = .ok (.return_, 1) := by decide +kernel
def B_Li_findError_51 (P : zM → Prop) (a1 : Nat) (a3 : Int64) (k51 : Int32 → zM → Prop) (v5 : Int32) (M : zM) : Prop := ((8 : Int32) ≤ v5 → P M) ∧ (¬ (8 : Int32) ≤ v5 → vp_in v5 (zlong a1) ∧ vp_in v5 (zlong 70) ∧ w_Re_residue ((M a1 v5.toNatClampNeg) - (M 70 v5.toNatClampNeg)) a3  (fun r11 => ((0 : Int64) < (M 51 1) → ¬ (M 51 1) = 0 ∧ vp_in v5 (zlong 70) ∧ ∀ M14 : zM, M14 = zput M 70 v5.toNatClampNeg (r11 / (M 51 1)) → k51 (v5 + (1 : Int32)) M14) ∧ (¬ (0 : Int64) < (M 51 1) → vp_in v5 (zlong 70) ∧ ∀ M15 : zM, M15 = zput M 70 v5.toNatClampNeg (0 : Int64) → k51 (v5 + (1 : Int32)) M15)))
def L_Li_findError_51 (P : zM → Prop) (a1 : Nat) (a3 : Int64) (n : Nat) : Int32 → zM → Prop := Nat.rec (fun _ _ => False) (fun _ k => B_Li_findError_51 P a1 a3 k) n
def B_Li_findError_21 (P : zM → Prop) (a1 : Nat) (a2 : Int32) (a3 : Int64) (k21 : Int32 → zM → Prop) (v5 : Int32) (M : zM) : Prop := (a2 ≤ v5 → ∃ n, L_Li_findError_51 P a1 a3 n (0 : Int32) M) ∧ (¬ a2 ≤ v5 → vp_in v5 (zgn 52) ∧ w_Re_multiplyBy 70 (52 + 1 + v5.toNatClampNeg) a3 M (fun M9 => k21 (v5 + (1 : Int32)) M9))
def L_Li_findError_21 (P : zM → Prop) (a1 : Nat) (a2 : Int32) (a3 : Int64) (n : Nat) : Int32 → zM → Prop := Nat.rec (fun _ _ => False) (fun _ k => B_Li_findError_21 P a1 a2 a3 k) n
def w_Li_findError (a1 : Nat) (a2 : Int32) (a3 : Int64) (M : zM) (P : zM → Prop) : Prop := w_Ar_fillJ 70 (0 : Int64) M (fun M2 => w_Ro_leadingOf a1 M2 (fun r4 => vp_in (0 : Int32) (zlong 70) ∧ ∀ M7 : zM, M7 = zput M2 70 (0 : Int32).toNatClampNeg r4 → ∃ n, L_Li_findError_21 P a1 a2 a3 n (0 : Int32) M7))
def ws_Li_findError : List Cond := .code y_Li_findError prog_4_method_5_code 8 (Option.none : Option Jvm.ClassFile.FieldType) :: zall
def rm_Li_findError : Room := { frames := 2, cells := 0, slots := 0, locals := 53 }
theorem hd_Li_findError : y_Li_findError.cls ≠ "java/lang/invoke/MethodHandle" ∧ y_Li_findError.cls ≠ "java/lang/invoke/VarHandle" ∧ (parseMethodDescriptor y_Li_findError.desc).map (fun d => d.parameters.length) = some 3 := by decide +kernel
set_option maxHeartbeats 4000000 in
set_option maxRecDepth 100000 in
theorem c_Li_findError (l : Launch) (G : zG) (b : Nat) (a1 : Nat) (a2 : Int32) (a3 : Int64) (M : zM) (N : zN) {P : zM → Prop} (hw : w_Li_findError a1 a2 a3 M P) : Met l y_Li_findError ws_Li_findError rm_Li_findError (zPc G b M N [.ref (b + 51), .ref (b + a1), .int a2, .long a3]) (zQv G b (fun M' N' => P M' ∧ N' = N)) 0 0 (zA b) := by
  refine Met.ofW (cc := prog_4_method_5_code) (maxL := 8) (ret := (Option.none : Option Jvm.ClassFile.FieldType)) (by decide) rfl ?_
  intro p e s m args below meth c s₁ B hml hv
  obtain ⟨rfl, hZ, hK, hT⟩ := hv
  have hx := B.exec
  have hb := B.bytes
  have hr := B.returns
  have hts := atoms_spec (ws := ws_Li_findError) B.pre
  have hta : ∀ w ∈ zall, w.before ([.ref (b + 51), .ref (b + a1), .int a2, .long a3] : List Value).toArray s = true := fun w h => hts w (List.mem_cons_of_mem _ h)
  have hown : s.vm.findClass R_Li = some m.cls := findClass_of_methodNamed B.named
  have hlocks := B.notSynchronized
  have hS : va_S (zA b) s.heap s.heap [] := va_S.rf
  have hl := lv_entry ([.ref (b + 51), .ref (b + a1), .int a2, .long a3]) (n := 8) (Nat.le_of_ble_eq_true rfl)
  rw [lg_entry_eq]
  generalize (lg_sl ([.ref (b + 51), .ref (b + a1), .int a2, .long a3]) ++ List.replicate (8 - (lg_sl ([.ref (b + 51), .ref (b + a1), .int a2, .long a3])).length) Slot.unset).toArray = ls at hl ⊢
  have hl : lv_has ls 8 [(0, .ref (b + 51)), (1, .ref (b + a1)), (2, .int a2), (3, .long a3)] := hl
  have lp51 : ∀ (n : Nat) (v5 : Int32) (M : zM) (H : Heap) (ls : Array Slot) (locs : List Loc), va_P G.1 zCl (zws G b M N) H → va_S (zA b) s.heap H locs → lv_has ls 8 [(0, .ref (b + 51)), (1, .ref (b + a1)), (3, .long a3), (5, .int v5)] → L_Li_findError_51 P a1 a3 n v5 M → W p l e (headSpec ws_Li_findError rm_Li_findError).room s m ([.ref (b + 51), .ref (b + a1), .int a2, .long a3] : List Value).toArray below meth c H locs 0 0 (MQ below (zQv G b (fun M' N' => P M' ∧ N' = N)) ([.ref (b + 51), .ref (b + a1), .int a2, .long a3] : List Value).toArray s 0 0 (zA b)) (F0 m 51 ls []) := by
    intro  n
    induction n with
    | zero => intro v5 M H ls locs hZ hS hl hw; exact False.elim hw
    | succ n51 ih51 =>
      intro v5 M H ls locs hZ hS hl hw
      have hw : B_Li_findError_51 P a1 a3 (L_Li_findError_51 P a1 a3 n51) v5 M := hw
      unfold B_Li_findError_51 at hw
      refine lv_iload (pc := 51) hx hb d_Li_findError_51 (lv_at hl 3 rfl) ?_
      refine lv_bipush (pc := 53) (v := 8) hx hb d_Li_findError_53 (by decide) ?_
      refine lv_icmp_ge (pc := 55) (tgt := 109) hx hb d_Li_findError_55 (by decide) (fun hc => ?_) (fun hc => ?_)
      · have hw := hw.1 hc
        exact z_vret hx hb hr hlocks hK hT hZ hS ⟨hw, rfl⟩ d_Li_findError_109
      · have hw := hw.2 hc
        refine lv_aload_n (pc := 58) hx hb d_Li_findError_58 rfl (lv_at hl 1 rfl) ?_
        refine lv_iload (pc := 59) hx hb d_Li_findError_59 (lv_at hl 3 rfl) ?_
        obtain ⟨hc, hw⟩ := hw
        refine z_lald (pc := 61) hx hb hK hZ hc d_Li_findError_61 ?_
        refine lv_aload_n (pc := 62) hx hb d_Li_findError_62 rfl (lv_at hl 0 rfl) ?_
        refine zg_Li_23 (pc := 63) hx hb hta hown hK hZ d_Li_findError_63 ?_
        refine lv_iload (pc := 66) hx hb d_Li_findError_66 (lv_at hl 3 rfl) ?_
        obtain ⟨hc, hw⟩ := hw
        refine z_lald (pc := 68) hx hb hK hZ hc d_Li_findError_68 ?_
        refine lv_lsub (pc := 69) hx hb d_Li_findError_69 ?_
        refine lv_lload_n (pc := 70) hx hb d_Li_findError_70 rfl (lv_at hl 2 rfl) ?_
        refine z_calll (pc := 71) (va_runS (As := [.long ((M a1 v5.toNatClampNeg) - (M 70 v5.toNatClampNeg)), .long a3]) (rest := []) ⟨hx, hb, hml, hown, hts⟩ (c_Re_residue l G b ((M a1 v5.toNatClampNeg) - (M 70 v5.toNatClampNeg)) a3 M N hw) (va_cwS 2 hts (z_good (zgS wd589 wd466 wd18 wd467)) rfl rfl rfl hd_Re_residue ⟨Nat.le_of_ble_eq_true rfl, Nat.le_of_ble_eq_true rfl⟩) (z_preS hZ hK hT hS) rfl rfl hl.1 rfl (lv_room (Nat.le_of_ble_eq_true rfl)) d_Li_findError_71 ⟨Nat.le_of_ble_eq_true rfl, Nat.le_of_ble_eq_true rfl⟩) hS (fun r11 M12 N13 H locs hw hZ hS => ?_)
        obtain ⟨hw, eM12, eN13⟩ := hw
        rw [eM12, eN13] at hZ
        refine lv_lstore (pc := 74) (lv' := [(6, .long r11), (0, .ref (b + 51)), (1, .ref (b + a1)), (3, .long a3), (5, .int v5)]) hx hb d_Li_findError_74 hl (by decide) rfl (fun ls hl => ?_)
        refine lv_aload_n (pc := 76) hx hb d_Li_findError_76 rfl (lv_at hl 1 rfl) ?_
        refine zg_Li_23 (pc := 77) hx hb hta hown hK hZ d_Li_findError_77 ?_
        refine lv_iload (pc := 80) hx hb d_Li_findError_80 (lv_at hl 4 rfl) ?_
        refine lv_aload_n (pc := 82) hx hb d_Li_findError_82 rfl (lv_at hl 1 rfl) ?_
        refine zg_Li_16 (pc := 83) hx hb hta hown hK hZ d_Li_findError_83 ?_
        refine lv_lconst (pc := 86) (v := 0) hx hb d_Li_findError_86 (by decide) ?_
        refine z_lc_gt (pc := 87) (tgt := 95) hx hb d_Li_findError_87 d_Li_findError_88 (by decide) (fun hc => ?_) (fun hc => ?_)
        · have hw := hw.1 hc
          refine lv_lload (pc := 95) hx hb d_Li_findError_95 (lv_at hl 0 rfl) ?_
          refine lv_aload_n (pc := 97) hx hb d_Li_findError_97 rfl (lv_at hl 1 rfl) ?_
          refine zg_Li_16 (pc := 98) hx hb hta hown hK hZ d_Li_findError_98 ?_
          obtain ⟨hc, hw⟩ := hw
          refine lv_ldiv (pc := 101) hx hb d_Li_findError_101 hc ?_
          obtain ⟨hc, hw⟩ := hw
          refine z_last (pc := 102) hx hb hK hZ hS hc d_Li_findError_102 (fun M14 H locs hM14 hZ hS => ?_)
          have hw := hw M14 hM14
          refine lv_iinc (pc := 103) (k := 4) (v := v5 + (1 : Int32)) (lv' := [(5, .int (v5 + (1 : Int32))), (6, .long r11), (0, .ref (b + 51)), (1, .ref (b + a1)), (3, .long a3)]) hx hb d_Li_findError_103 hl rfl (by rfl) (by decide) rfl (fun ls hl => ?_)
          refine lv_goto (pc := 106) (tgt := 51) hx hb d_Li_findError_106 (by decide) ?_
          exact ih51 (v5 + (1 : Int32)) M14 _ _ _ hZ hS (lv_sub hl [2, 3, 4, 0] rfl) hw
        · have hw := hw.2 hc
          refine lv_lconst (pc := 91) (v := 0) hx hb d_Li_findError_91 (by decide) ?_
          refine lv_goto (pc := 92) (tgt := 102) hx hb d_Li_findError_92 (by decide) ?_
          obtain ⟨hc, hw⟩ := hw
          refine z_last (pc := 102) hx hb hK hZ hS hc d_Li_findError_102 (fun M15 H locs hM15 hZ hS => ?_)
          have hw := hw M15 hM15
          refine lv_iinc (pc := 103) (k := 4) (v := v5 + (1 : Int32)) (lv' := [(5, .int (v5 + (1 : Int32))), (6, .long r11), (0, .ref (b + 51)), (1, .ref (b + a1)), (3, .long a3)]) hx hb d_Li_findError_103 hl rfl (by rfl) (by decide) rfl (fun ls hl => ?_)
          refine lv_goto (pc := 106) (tgt := 51) hx hb d_Li_findError_106 (by decide) ?_
          exact ih51 (v5 + (1 : Int32)) M15 _ _ _ hZ hS (lv_sub hl [2, 3, 4, 0] rfl) hw
  have lp21 : ∀ (n : Nat) (v5 : Int32) (M : zM) (H : Heap) (ls : Array Slot) (locs : List Loc), va_P G.1 zCl (zws G b M N) H → va_S (zA b) s.heap H locs → lv_has ls 8 [(0, .ref (b + 51)), (1, .ref (b + a1)), (2, .int a2), (3, .long a3), (5, .int v5)] → L_Li_findError_21 P a1 a2 a3 n v5 M → W p l e (headSpec ws_Li_findError rm_Li_findError).room s m ([.ref (b + 51), .ref (b + a1), .int a2, .long a3] : List Value).toArray below meth c H locs 0 0 (MQ below (zQv G b (fun M' N' => P M' ∧ N' = N)) ([.ref (b + 51), .ref (b + a1), .int a2, .long a3] : List Value).toArray s 0 0 (zA b)) (F0 m 21 ls []) := by
    intro  n
    induction n with
    | zero => intro v5 M H ls locs hZ hS hl hw; exact False.elim hw
    | succ n21 ih21 =>
      intro v5 M H ls locs hZ hS hl hw
      have hw : B_Li_findError_21 P a1 a2 a3 (L_Li_findError_21 P a1 a2 a3 n21) v5 M := hw
      unfold B_Li_findError_21 at hw
      refine lv_iload (pc := 21) hx hb d_Li_findError_21 (lv_at hl 4 rfl) ?_
      refine lv_iload_n (pc := 23) hx hb d_Li_findError_23 rfl (lv_at hl 2 rfl) ?_
      refine lv_icmp_ge (pc := 24) (tgt := 48) hx hb d_Li_findError_24 (by decide) (fun hc => ?_) (fun hc => ?_)
      · have hw := hw.1 hc
        refine lv_iconst (pc := 48) (v := 0) hx hb d_Li_findError_48 (by decide) ?_
        refine lv_istore (pc := 49) (lv' := [(5, .int (0 : Int32)), (0, .ref (b + 51)), (1, .ref (b + a1)), (2, .int a2), (3, .long a3)]) hx hb d_Li_findError_49 hl (by decide) rfl (fun ls hl => ?_)
        obtain ⟨n, hw⟩ := hw
        exact lp51  n (0 : Int32) M _ _ _ hZ hS (lv_sub hl [1, 2, 4, 0] rfl) hw
      · have hw := hw.2 hc
        refine lv_aload_n (pc := 27) hx hb d_Li_findError_27 rfl (lv_at hl 0 rfl) ?_
        refine zg_Li_23 (pc := 28) hx hb hta hown hK hZ d_Li_findError_28 ?_
        refine lv_aload_n (pc := 31) hx hb d_Li_findError_31 rfl (lv_at hl 0 rfl) ?_
        refine zg_Li_11 (pc := 32) hx hb hta hown hK hZ d_Li_findError_32 ?_
        refine lv_iload (pc := 35) hx hb d_Li_findError_35 (lv_at hl 4 rfl) ?_
        obtain ⟨hc, hw⟩ := hw
        refine z_aald (pc := 37) hx hb hK hZ hc d_Li_findError_37 ?_
        refine lv_lload_n (pc := 38) hx hb d_Li_findError_38 rfl (lv_at hl 3 rfl) ?_
        refine z_callv (pc := 39) (va_runS (As := [.ref (b + 70), .ref (b + (52 + 1 + v5.toNatClampNeg)), .long a3]) (rest := []) ⟨hx, hb, hml, hown, hts⟩ (c_Re_multiplyBy l G b 70 (52 + 1 + v5.toNatClampNeg) a3 M N hw) (va_cwS 3 hts (z_good (zgS wd605 wd606 wd18 wd607)) rfl rfl rfl hd_Re_multiplyBy ⟨Nat.le_of_ble_eq_true rfl, Nat.le_of_ble_eq_true rfl⟩) (z_preS hZ hK hT hS) rfl rfl hl.1 rfl (lv_room (Nat.le_of_ble_eq_true rfl)) d_Li_findError_39 ⟨Nat.le_of_ble_eq_true rfl, Nat.le_of_ble_eq_true rfl⟩) hS (fun M9 N10 H locs hw hZ hS => ?_)
        obtain ⟨hw, eN10⟩ := hw
        rw [eN10] at hZ
        refine lv_iinc (pc := 42) (k := 4) (v := v5 + (1 : Int32)) (lv' := [(5, .int (v5 + (1 : Int32))), (0, .ref (b + 51)), (1, .ref (b + a1)), (2, .int a2), (3, .long a3)]) hx hb d_Li_findError_42 hl rfl (by rfl) (by decide) rfl (fun ls hl => ?_)
        refine lv_goto (pc := 45) (tgt := 21) hx hb d_Li_findError_45 (by decide) ?_
        exact ih21 (v5 + (1 : Int32)) M9 _ _ _ hZ hS (lv_sub hl [1, 2, 3, 4, 0] rfl) hw
  unfold w_Li_findError at hw
  refine lv_aload_n (pc := 0) hx hb d_Li_findError_0 rfl (lv_at hl 0 rfl) ?_
  refine zg_Li_23 (pc := 1) hx hb hta hown hK hZ d_Li_findError_1 ?_
  refine lv_lconst (pc := 4) (v := 0) hx hb d_Li_findError_4 (by decide) ?_
  refine z_callv (pc := 5) (va_runS (As := [.ref (b + 70), .long (0 : Int64)]) (rest := []) ⟨hx, hb, hml, hown, hts⟩ (c_Ar_fillJ l G b 70 (0 : Int64) M N hw) (va_cwS 2 hts (z_good (zgS wd588 wd337 wd14 wd338)) rfl rfl rfl hd_Ar_fillJ ⟨Nat.le_of_ble_eq_true rfl, Nat.le_of_ble_eq_true rfl⟩) (z_preS hZ hK hT hS) rfl rfl hl.1 rfl (lv_room (Nat.le_of_ble_eq_true rfl)) d_Li_findError_5 ⟨Nat.le_of_ble_eq_true rfl, Nat.le_of_ble_eq_true rfl⟩) hS (fun M2 N3 H locs hw hZ hS => ?_)
  obtain ⟨hw, eN3⟩ := hw
  rw [eN3] at hZ
  refine lv_aload_n (pc := 8) hx hb d_Li_findError_8 rfl (lv_at hl 0 rfl) ?_
  refine zg_Li_23 (pc := 9) hx hb hta hown hK hZ d_Li_findError_9 ?_
  refine lv_iconst (pc := 12) (v := 0) hx hb d_Li_findError_12 (by decide) ?_
  refine lv_aload_n (pc := 13) hx hb d_Li_findError_13 rfl (lv_at hl 1 rfl) ?_
  refine z_calll (pc := 14) (va_runS (As := [.ref (b + a1)]) (rest := [.int (0 : Int32), .ref (b + 70)]) ⟨hx, hb, hml, hown, hts⟩ (c_Ro_leadingOf l G b a1 M2 N hw) (va_cwS 1 hts (z_good (zgS wd583 wd451 wd13 wd452)) rfl rfl rfl hd_Ro_leadingOf ⟨Nat.le_of_ble_eq_true rfl, Nat.le_of_ble_eq_true rfl⟩) (z_preS hZ hK hT hS) rfl rfl hl.1 rfl (lv_room (Nat.le_of_ble_eq_true rfl)) d_Li_findError_14 ⟨Nat.le_of_ble_eq_true rfl, Nat.le_of_ble_eq_true rfl⟩) hS (fun r4 M5 N6 H locs hw hZ hS => ?_)
  obtain ⟨hw, eM5, eN6⟩ := hw
  rw [eM5, eN6] at hZ
  obtain ⟨hc, hw⟩ := hw
  refine z_last (pc := 17) hx hb hK hZ hS hc d_Li_findError_17 (fun M7 H locs hM7 hZ hS => ?_)
  have hw := hw M7 hM7
  refine lv_iconst (pc := 18) (v := 0) hx hb d_Li_findError_18 (by decide) ?_
  refine lv_istore (pc := 19) (lv' := [(5, .int (0 : Int32)), (0, .ref (b + 51)), (1, .ref (b + a1)), (2, .int a2), (3, .long a3)]) hx hb d_Li_findError_19 hl (by decide) rfl (fun ls hl => ?_)
  obtain ⟨n, hw⟩ := hw
  exact lp21  n (0 : Int32) M7 _ _ _ hZ hS (lv_sub hl [1, 2, 3, 4, 0] rfl) hw
theorem zp_Li_16 {p : Program} {l : Launch} {e : Env} {R : Room} {s : State} {m : MethodId} {args : Array Value} {below : List Frame} {meth : Method} {c : Code} {H : Heap} {locs : List Loc} {cells slots : Nat} {Q : State → Prop} {cc : ByteArray} {pc : Nat} {ls : Array Slot} {rest : List Value} {G : zG} {b : Nat} {M : zM} {N : zN} {H0 : Heap} {x : Int64} (hx : p.tables.exec = Jvm.exec) (hb : c.code = cc) (hta : ∀ w ∈ zall, w.before args s = true) (hown : s.vm.findClass R_Li = some m.cls) (hK : va_K G.1 zCl (zty G) s) (hZ : va_P G.1 zCl (zws G b M N) H) (hS : va_S (zA b) H0 H locs) (hdg : decode cc pc = .ok (.putfield 16, 3)) (kk : ∀ (M1 : zM) (H1 : Heap) (locs1 : List Loc), M1 = zput M 51 1 x → va_P G.1 zCl (zws G b M1 N) H1 → va_S (zA b) H0 H1 locs1 → W p l e R s m args below meth c H1 locs1 cells slots Q (F0 m (pc + 3) ls rest)) : W p l e R s m args below meth c H locs cells slots Q (F0 m pc ls (.long x :: .ref (b + 51) :: rest)) := by
  refine va_put (D := G.1) (ci := 2) (v := .long x) (ty := .long) (C := R_Li) (T := T_Li) (N := 6) hx hb hta hin_Li ty_Li tyok_Li nm_Li hown hK hZ z_D hS 51 zo_Li rfl 1 (by decide) (hta _ wd115) (fun _ h9 => h9) rfl (by decide +kernel) rfl rfl (Nat.le_of_ble_eq_true rfl) hdg (fun H1 locs1 h1 _ h3 => ?_)
  have h2 : va_P G.1 zCl ((zws G b M N).set 51 (b + 51, zcell G b ((zput M 51 1 x) 51) (N 51) 51)) H1 := h1
  rw [z_set (M' := (zput M 51 1 x)) (N' := N) (k := 51) (by decide) rfl (fun j hj => zput_ne hj) (fun j _ => rfl)] at h2
  exact kk _ H1 locs1 rfl h2 h3
theorem wsel10 : Cond.selects R_Li y_Li_multiplyOthers y_Li_multiplyOthers ∈ zall := List.mem_filter.mpr ⟨List.mem_append_left _ (List.mem_of_getElem? (i := 10) rfl), by decide +kernel⟩
theorem zg_Li_20 {p : Program} {l : Launch} {e : Env} {R : Room} {s : State} {m : MethodId} {args : Array Value} {below : List Frame} {meth : Method} {c : Code} {H : Heap} {locs : List Loc} {cells slots : Nat} {Q : State → Prop} {cc : ByteArray} {pc : Nat} {ls : Array Slot} {rest : List Value} {G : zG} {b : Nat} {M : zM} {N : zN} (hx : p.tables.exec = Jvm.exec) (hb : c.code = cc) (hta : ∀ w ∈ zall, w.before args s = true) (hown : s.vm.findClass R_Li = some m.cls) (hK : va_K G.1 zCl (zty G) s) (hZ : va_P G.1 zCl (zws G b M N) H) (hdg : decode cc pc = .ok (.getfield 20, 3)) (kk : W p l e R s m args below meth c H locs cells slots Q (F0 m (pc + 3) ls (.ref (b + 61) :: rest))) : W p l e R s m args below meth c H locs cells slots Q (F0 m pc ls (.ref (b + 51) :: rest)) :=
  va_get (D := G.1) (ci := 2) (v := .ref (b + 61)) (C := R_Li) (T := T_Li) (N := 6) hx hb hta hin_Li hown hK hZ 51 zo_Li rfl 2 (by decide) (hta _ wd117) (fun _ h9 => h9) rfl hdg kk
theorem wsel11 : Cond.selects R_Li y_Li_fillInverse y_Li_fillInverse ∈ zall := List.mem_filter.mpr ⟨List.mem_append_left _ (List.mem_of_getElem? (i := 11) rfl), by decide +kernel⟩
theorem wsel12 : Cond.selects R_Li y_Li_findError y_Li_findError ∈ zall := List.mem_filter.mpr ⟨List.mem_append_left _ (List.mem_of_getElem? (i := 12) rfl), by decide +kernel⟩
theorem d_Li_lift_0 : decode prog_4_method_2_code 0 = .ok (.iconst 0, 1) := by decide +kernel
theorem d_Li_lift_1 : decode prog_4_method_2_code 1 = .ok (.istore 5, 2) := by decide +kernel
theorem d_Li_lift_3 : decode prog_4_method_2_code 3 = .ok (.iload 5, 2) := by decide +kernel
theorem d_Li_lift_5 : decode prog_4_method_2_code 5 = .ok (.aload_n 2, 1) := by decide +kernel
theorem d_Li_lift_6 : decode prog_4_method_2_code 6 = .ok (.getfield 33, 3) := by decide +kernel
theorem d_Li_lift_9 : decode prog_4_method_2_code 9 = .ok (.if_icmp .ge 57, 3) := by decide +kernel
theorem d_Li_lift_12 : decode prog_4_method_2_code 12 = .ok (.aload_n 2, 1) := by decide +kernel
theorem d_Li_lift_13 : decode prog_4_method_2_code 13 = .ok (.getfield 39, 3) := by decide +kernel
theorem d_Li_lift_16 : decode prog_4_method_2_code 16 = .ok (.iload 5, 2) := by decide +kernel
theorem d_Li_lift_18 : decode prog_4_method_2_code 18 = .ok (.aaload, 1) := by decide +kernel
theorem d_Li_lift_19 : decode prog_4_method_2_code 19 = .ok (.aload_n 0, 1) := by decide +kernel
theorem d_Li_lift_20 : decode prog_4_method_2_code 20 = .ok (.getfield 11, 3) := by decide +kernel
theorem d_Li_lift_23 : decode prog_4_method_2_code 23 = .ok (.iload 5, 2) := by decide +kernel
theorem d_Li_lift_25 : decode prog_4_method_2_code 25 = .ok (.aaload, 1) := by decide +kernel
theorem d_Li_lift_26 : decode prog_4_method_2_code 26 = .ok (.invokestatic 40, 3) := by decide +kernel
theorem d_Li_lift_29 : decode prog_4_method_2_code 29 = .ok (.aload_n 0, 1) := by decide +kernel
theorem d_Li_lift_30 : decode prog_4_method_2_code 30 = .ok (.iload 5, 2) := by decide +kernel
theorem d_Li_lift_32 : decode prog_4_method_2_code 32 = .ok (.aload_n 1, 1) := by decide +kernel
theorem d_Li_lift_33 : decode prog_4_method_2_code 33 = .ok (.invokestatic 46, 3) := by decide +kernel
theorem d_Li_lift_36 : decode prog_4_method_2_code 36 = .ok (.aload_n 2, 1) := by decide +kernel
theorem d_Li_lift_37 : decode prog_4_method_2_code 37 = .ok (.lload_n 3, 1) := by decide +kernel
theorem d_Li_lift_38 : decode prog_4_method_2_code 38 = .ok (.invokevirtual 50, 3) := by decide +kernel
theorem d_Li_lift_41 : decode prog_4_method_2_code 41 = .ok (.aload_n 0, 1) := by decide +kernel
theorem d_Li_lift_42 : decode prog_4_method_2_code 42 = .ok (.aload_n 2, 1) := by decide +kernel
theorem d_Li_lift_43 : decode prog_4_method_2_code 43 = .ok (.getfield 39, 3) := by decide +kernel
theorem d_Li_lift_46 : decode prog_4_method_2_code 46 = .ok (.iload 5, 2) := by decide +kernel
theorem d_Li_lift_48 : decode prog_4_method_2_code 48 = .ok (.aaload, 1) := by decide +kernel
theorem d_Li_lift_49 : decode prog_4_method_2_code 49 = .ok (.aload_n 0, 1) := by decide +kernel
theorem d_Li_lift_50 : decode prog_4_method_2_code 50 = .ok (.getfield 20, 3) := by decide +kernel
theorem d_Li_lift_53 : decode prog_4_method_2_code 53 = .ok (.iload 5, 2) := by decide +kernel
theorem d_Li_lift_55 : decode prog_4_method_2_code 55 = .ok (.aaload, 1) := by decide +kernel
theorem d_Li_lift_56 : decode prog_4_method_2_code 56 = .ok (.lload_n 3, 1) := by decide +kernel
theorem d_Li_lift_57 : decode prog_4_method_2_code 57 = .ok (.invokevirtual 54, 3) := by decide +kernel
theorem d_Li_lift_60 : decode prog_4_method_2_code 60 = .ok (.iinc 5 1, 3) := by decide +kernel
theorem d_Li_lift_63 : decode prog_4_method_2_code 63 = .ok (.goto (-60), 3) := by decide +kernel
theorem d_Li_lift_66 : decode prog_4_method_2_code 66 = .ok (.aload_n 0, 1) := by decide +kernel
theorem d_Li_lift_67 : decode prog_4_method_2_code 67 = .ok (.lload_n 3, 1) := by decide +kernel
theorem d_Li_lift_68 : decode prog_4_method_2_code 68 = .ok (.putfield 16, 3) := by decide +kernel
theorem d_Li_lift_71 : decode prog_4_method_2_code 71 = .ok (.iconst 0, 1) := by decide +kernel
theorem d_Li_lift_72 : decode prog_4_method_2_code 72 = .ok (.istore 5, 2) := by decide +kernel
theorem d_Li_lift_74 : decode prog_4_method_2_code 74 = .ok (.iload 5, 2) := by decide +kernel
theorem d_Li_lift_76 : decode prog_4_method_2_code 76 = .ok (.bipush 30, 2) := by decide +kernel
theorem d_Li_lift_78 : decode prog_4_method_2_code 78 = .ok (.if_icmp .ge 130, 3) := by decide +kernel
theorem d_Li_lift_81 : decode prog_4_method_2_code 81 = .ok (.aload_n 0, 1) := by decide +kernel
theorem d_Li_lift_82 : decode prog_4_method_2_code 82 = .ok (.getfield 16, 3) := by decide +kernel
theorem d_Li_lift_85 : decode prog_4_method_2_code 85 = .ok (.ldc2_w 58, 3) := by decide +kernel
theorem d_Li_lift_88 : decode prog_4_method_2_code 88 = .ok (.lcmp, 1) := by decide +kernel
theorem d_Li_lift_89 : decode prog_4_method_2_code 89 = .ok (.ifCond .ge 119, 3) := by decide +kernel
theorem d_Li_lift_92 : decode prog_4_method_2_code 92 = .ok (.aload_n 0, 1) := by decide +kernel
theorem d_Li_lift_93 : decode prog_4_method_2_code 93 = .ok (.aload_n 1, 1) := by decide +kernel
theorem d_Li_lift_94 : decode prog_4_method_2_code 94 = .ok (.aload_n 2, 1) := by decide +kernel
theorem d_Li_lift_95 : decode prog_4_method_2_code 95 = .ok (.getfield 33, 3) := by decide +kernel
theorem d_Li_lift_98 : decode prog_4_method_2_code 98 = .ok (.aload_n 0, 1) := by decide +kernel
theorem d_Li_lift_99 : decode prog_4_method_2_code 99 = .ok (.getfield 16, 3) := by decide +kernel
theorem d_Li_lift_102 : decode prog_4_method_2_code 102 = .ok (.lload_n 3, 1) := by decide +kernel
theorem d_Li_lift_103 : decode prog_4_method_2_code 103 = .ok (.lmul, 1) := by decide +kernel
theorem d_Li_lift_104 : decode prog_4_method_2_code 104 = .ok (.invokevirtual 60, 3) := by decide +kernel
theorem d_Li_lift_107 : decode prog_4_method_2_code 107 = .ok (.iconst 0, 1) := by decide +kernel
theorem d_Li_lift_108 : decode prog_4_method_2_code 108 = .ok (.istore 6, 2) := by decide +kernel
theorem d_Li_lift_110 : decode prog_4_method_2_code 110 = .ok (.iload 6, 2) := by decide +kernel
theorem d_Li_lift_112 : decode prog_4_method_2_code 112 = .ok (.aload_n 2, 1) := by decide +kernel
theorem d_Li_lift_113 : decode prog_4_method_2_code 113 = .ok (.getfield 33, 3) := by decide +kernel
theorem d_Li_lift_116 : decode prog_4_method_2_code 116 = .ok (.if_icmp .ge 76, 3) := by decide +kernel
theorem d_Li_lift_119 : decode prog_4_method_2_code 119 = .ok (.aload_n 0, 1) := by decide +kernel
theorem d_Li_lift_120 : decode prog_4_method_2_code 120 = .ok (.getfield 23, 3) := by decide +kernel
theorem d_Li_lift_123 : decode prog_4_method_2_code 123 = .ok (.aload_n 0, 1) := by decide +kernel
theorem d_Li_lift_124 : decode prog_4_method_2_code 124 = .ok (.getfield 20, 3) := by decide +kernel
theorem d_Li_lift_127 : decode prog_4_method_2_code 127 = .ok (.iload 6, 2) := by decide +kernel
theorem d_Li_lift_129 : decode prog_4_method_2_code 129 = .ok (.aaload, 1) := by decide +kernel
theorem d_Li_lift_130 : decode prog_4_method_2_code 130 = .ok (.aload_n 2, 1) := by decide +kernel
theorem d_Li_lift_131 : decode prog_4_method_2_code 131 = .ok (.getfield 39, 3) := by decide +kernel
theorem d_Li_lift_134 : decode prog_4_method_2_code 134 = .ok (.iload 6, 2) := by decide +kernel
theorem d_Li_lift_136 : decode prog_4_method_2_code 136 = .ok (.aaload, 1) := by decide +kernel
theorem d_Li_lift_137 : decode prog_4_method_2_code 137 = .ok (.aload_n 0, 1) := by decide +kernel
theorem d_Li_lift_138 : decode prog_4_method_2_code 138 = .ok (.getfield 30, 3) := by decide +kernel
theorem d_Li_lift_141 : decode prog_4_method_2_code 141 = .ok (.lload_n 3, 1) := by decide +kernel
theorem d_Li_lift_142 : decode prog_4_method_2_code 142 = .ok (.invokestatic 64, 3) := by decide +kernel
theorem d_Li_lift_145 : decode prog_4_method_2_code 145 = .ok (.iconst 0, 1) := by decide +kernel
theorem d_Li_lift_146 : decode prog_4_method_2_code 146 = .ok (.istore 7, 2) := by decide +kernel
theorem d_Li_lift_148 : decode prog_4_method_2_code 148 = .ok (.iload 7, 2) := by decide +kernel
theorem d_Li_lift_150 : decode prog_4_method_2_code 150 = .ok (.bipush 8, 2) := by decide +kernel
theorem d_Li_lift_152 : decode prog_4_method_2_code 152 = .ok (.if_icmp .ge 34, 3) := by decide +kernel
theorem d_Li_lift_155 : decode prog_4_method_2_code 155 = .ok (.aload_n 0, 1) := by decide +kernel
theorem d_Li_lift_156 : decode prog_4_method_2_code 156 = .ok (.getfield 11, 3) := by decide +kernel
theorem d_Li_lift_159 : decode prog_4_method_2_code 159 = .ok (.iload 6, 2) := by decide +kernel
theorem d_Li_lift_161 : decode prog_4_method_2_code 161 = .ok (.aaload, 1) := by decide +kernel
theorem d_Li_lift_162 : decode prog_4_method_2_code 162 = .ok (.iload 7, 2) := by decide +kernel
theorem d_Li_lift_164 : decode prog_4_method_2_code 164 = .ok (.dup2, 1) := by decide +kernel
theorem d_Li_lift_165 : decode prog_4_method_2_code 165 = .ok (.laload, 1) := by decide +kernel
theorem d_Li_lift_166 : decode prog_4_method_2_code 166 = .ok (.aload_n 0, 1) := by decide +kernel
theorem d_Li_lift_167 : decode prog_4_method_2_code 167 = .ok (.getfield 16, 3) := by decide +kernel
theorem d_Li_lift_170 : decode prog_4_method_2_code 170 = .ok (.aload_n 0, 1) := by decide +kernel
theorem d_Li_lift_171 : decode prog_4_method_2_code 171 = .ok (.getfield 30, 3) := by decide +kernel
theorem d_Li_lift_174 : decode prog_4_method_2_code 174 = .ok (.iload 7, 2) := by decide +kernel
theorem d_Li_lift_176 : decode prog_4_method_2_code 176 = .ok (.laload, 1) := by decide +kernel
theorem d_Li_lift_177 : decode prog_4_method_2_code 177 = .ok (.lmul, 1) := by decide +kernel
theorem d_Li_lift_178 : decode prog_4_method_2_code 178 = .ok (.ladd, 1) := by decide +kernel
theorem d_Li_lift_179 : decode prog_4_method_2_code 179 = .ok (.lastore, 1) := by decide +kernel
theorem d_Li_lift_180 : decode prog_4_method_2_code 180 = .ok (.iinc 7 1, 3) := by decide +kernel
theorem d_Li_lift_183 : decode prog_4_method_2_code 183 = .ok (.goto (-35), 3) := by decide +kernel
theorem d_Li_lift_186 : decode prog_4_method_2_code 186 = .ok (.iinc 6 1, 3) := by decide +kernel
theorem d_Li_lift_189 : decode prog_4_method_2_code 189 = .ok (.goto (-79), 3) := by decide +kernel
theorem d_Li_lift_192 : decode prog_4_method_2_code 192 = .ok (.aload_n 0, 1) := by decide +kernel
theorem d_Li_lift_193 : decode prog_4_method_2_code 193 = .ok (.dup, 1) := by decide +kernel
theorem d_Li_lift_194 : decode prog_4_method_2_code 194 = .ok (.getfield 16, 3) := by decide +kernel
theorem d_Li_lift_197 : decode prog_4_method_2_code 197 = .ok (.lload_n 3, 1) := by decide +kernel
theorem d_Li_lift_198 : decode prog_4_method_2_code 198 = .ok (.lmul, 1) := by decide +kernel
theorem d_Li_lift_199 : decode prog_4_method_2_code 199 = .ok (.putfield 16, 3) := by decide +kernel
theorem d_Li_lift_202 : decode prog_4_method_2_code 202 = .ok (.iinc 5 1, 3) := by decide +kernel
theorem d_Li_lift_205 : decode prog_4_method_2_code 205 = .ok (.goto (-131), 3) := by decide +kernel
theorem d_Li_lift_208 : decode prog_4_method_2_code 208 = .ok (.return_, 1) := by decide +kernel
def B_Li_lift_148 (P : zM → Prop) (k110 : Int32 → zM → Prop) (a1 : Nat) (a3 : Int64) (v5 : Int32) (v6 : Int32) (N : zN) (k148 : Int32 → zM → Prop) (v7 : Int32) (M : zM) : Prop := ((8 : Int32) ≤ v7 → k110 (v6 + (1 : Int32)) M) ∧ (¬ (8 : Int32) ≤ v7 → vp_in v6 (zgn 52) ∧ vp_in v7 (zlong (52 + 1 + v6.toNatClampNeg)) ∧ vp_in v7 (zlong 72) ∧ vp_in v7 (zlong (52 + 1 + v6.toNatClampNeg)) ∧ ∀ M21 : zM, M21 = zput M (52 + 1 + v6.toNatClampNeg) v7.toNatClampNeg ((M (52 + 1 + v6.toNatClampNeg) v7.toNatClampNeg) + ((M 51 1) * (M 72 v7.toNatClampNeg))) → k148 (v7 + (1 : Int32)) M21)
def L_Li_lift_148 (P : zM → Prop) (k110 : Int32 → zM → Prop) (a1 : Nat) (a3 : Int64) (v5 : Int32) (v6 : Int32) (N : zN) (n : Nat) : Int32 → zM → Prop := Nat.rec (fun _ _ => False) (fun _ k => B_Li_lift_148 P k110 a1 a3 v5 v6 N k) n
def B_Li_lift_110 (P : zM → Prop) (k74 : Int32 → zM → Prop) (a1 : Nat) (a3 : Int64) (v5 : Int32) (N : zN) (k110 : Int32 → zM → Prop) (v6 : Int32) (M : zM) : Prop := ((N 17 1) ≤ v6 → ∀ M17 : zM, M17 = zput M 51 1 ((M 51 1) * a3) → k74 (v5 + (1 : Int32)) M17) ∧ (¬ (N 17 1) ≤ v6 → vp_in v6 (zgn 61) ∧ vp_in v6 (zgn 18) ∧ w_Re_productInto 70 (61 + 1 + v6.toNatClampNeg) (18 + 1 + v6.toNatClampNeg) 72 a3 M (fun M19 => ∃ n, L_Li_lift_148 P k110 a1 a3 v5 v6 N n (0 : Int32) M19))
def L_Li_lift_110 (P : zM → Prop) (k74 : Int32 → zM → Prop) (a1 : Nat) (a3 : Int64) (v5 : Int32) (N : zN) (n : Nat) : Int32 → zM → Prop := Nat.rec (fun _ _ => False) (fun _ k => B_Li_lift_110 P k74 a1 a3 v5 N k) n
def B_Li_lift_74 (P : zM → Prop) (a1 : Nat) (a3 : Int64) (N : zN) (k74 : Int32 → zM → Prop) (v5 : Int32) (M : zM) : Prop := ((30 : Int32) ≤ v5 → P M) ∧ (¬ (30 : Int32) ≤ v5 → ((1700000 : Int64) ≤ (M 51 1) → P M) ∧ (¬ (1700000 : Int64) ≤ (M 51 1) → w_Li_findError a1 (N 17 1) ((M 51 1) * a3) M (fun M15 => ∃ n, L_Li_lift_110 P k74 a1 a3 v5 N n (0 : Int32) M15)))
def L_Li_lift_74 (P : zM → Prop) (a1 : Nat) (a3 : Int64) (N : zN) (n : Nat) : Int32 → zM → Prop := Nat.rec (fun _ _ => False) (fun _ k => B_Li_lift_74 P a1 a3 N k) n
def B_Li_lift_3 (P : zM → Prop) (a1 : Nat) (a3 : Int64) (N : zN) (k3 : Int32 → zM → Prop) (v5 : Int32) (M : zM) : Prop := ((N 17 1) ≤ v5 → ∀ M1 : zM, M1 = zput M 51 1 a3 → ∃ n, L_Li_lift_74 P a1 a3 N n (0 : Int32) M1) ∧ (¬ (N 17 1) ≤ v5 → vp_in v5 (zgn 18) ∧ vp_in v5 (zgn 52) ∧ w_Ro_copyInto (18 + 1 + v5.toNatClampNeg) (52 + 1 + v5.toNatClampNeg) M (fun M3 => w_Ro_leadingOf a1 M3 (fun r5 => w_Li_multiplyOthers v5 r5 a3 M3 N (fun M9 => vp_in v5 (zgn 18) ∧ vp_in v5 (zgn 61) ∧ w_Li_fillInverse (18 + 1 + v5.toNatClampNeg) (61 + 1 + v5.toNatClampNeg) a3 M9 (fun M12 => k3 (v5 + (1 : Int32)) M12)))))
def L_Li_lift_3 (P : zM → Prop) (a1 : Nat) (a3 : Int64) (N : zN) (n : Nat) : Int32 → zM → Prop := Nat.rec (fun _ _ => False) (fun _ k => B_Li_lift_3 P a1 a3 N k) n
def w_Li_lift (a1 : Nat) (a3 : Int64) (M : zM) (N : zN) (P : zM → Prop) : Prop := ∃ n, L_Li_lift_3 P a1 a3 N n (0 : Int32) M
def ws_Li_lift : List Cond := .code y_Li_lift prog_4_method_2_code 8 (Option.none : Option Jvm.ClassFile.FieldType) :: zall
def rm_Li_lift : Room := { frames := 4, cells := 0, slots := 0, locals := 108 }
theorem hd_Li_lift : y_Li_lift.cls ≠ "java/lang/invoke/MethodHandle" ∧ y_Li_lift.cls ≠ "java/lang/invoke/VarHandle" ∧ (parseMethodDescriptor y_Li_lift.desc).map (fun d => d.parameters.length) = some 3 := by decide +kernel
set_option maxHeartbeats 4000000 in
set_option maxRecDepth 100000 in
theorem c_Li_lift (l : Launch) (G : zG) (b : Nat) (a1 : Nat) (a3 : Int64) (M : zM) (N : zN) {P : zM → Prop} (hw : w_Li_lift a1 a3 M N P) : Met l y_Li_lift ws_Li_lift rm_Li_lift (zPc G b M N [.ref (b + 51), .ref (b + a1), .ref (b + 17), .long a3]) (zQv G b (fun M' N' => P M' ∧ N' = N)) 0 0 (zA b) := by
  refine Met.ofW (cc := prog_4_method_2_code) (maxL := 8) (ret := (Option.none : Option Jvm.ClassFile.FieldType)) (by decide) rfl ?_
  intro p e s m args below meth c s₁ B hml hv
  obtain ⟨rfl, hZ, hK, hT⟩ := hv
  have hx := B.exec
  have hb := B.bytes
  have hr := B.returns
  have hts := atoms_spec (ws := ws_Li_lift) B.pre
  have hta : ∀ w ∈ zall, w.before ([.ref (b + 51), .ref (b + a1), .ref (b + 17), .long a3] : List Value).toArray s = true := fun w h => hts w (List.mem_cons_of_mem _ h)
  have hown : s.vm.findClass R_Li = some m.cls := findClass_of_methodNamed B.named
  have hlocks := B.notSynchronized
  have hS : va_S (zA b) s.heap s.heap [] := va_S.rf
  have hl := lv_entry ([.ref (b + 51), .ref (b + a1), .ref (b + 17), .long a3]) (n := 8) (Nat.le_of_ble_eq_true rfl)
  rw [lg_entry_eq]
  generalize (lg_sl ([.ref (b + 51), .ref (b + a1), .ref (b + 17), .long a3]) ++ List.replicate (8 - (lg_sl ([.ref (b + 51), .ref (b + a1), .ref (b + 17), .long a3])).length) Slot.unset).toArray = ls at hl ⊢
  have hl : lv_has ls 8 [(0, .ref (b + 51)), (1, .ref (b + a1)), (2, .ref (b + 17)), (3, .long a3)] := hl
  have lp74 : ∀ (n : Nat) (v5 : Int32) (M : zM) (H : Heap) (ls : Array Slot) (locs : List Loc), va_P G.1 zCl (zws G b M N) H → va_S (zA b) s.heap H locs → lv_has ls 8 [(0, .ref (b + 51)), (1, .ref (b + a1)), (2, .ref (b + 17)), (3, .long a3), (5, .int v5)] → L_Li_lift_74 P a1 a3 N n v5 M → W p l e (headSpec ws_Li_lift rm_Li_lift).room s m ([.ref (b + 51), .ref (b + a1), .ref (b + 17), .long a3] : List Value).toArray below meth c H locs 0 0 (MQ below (zQv G b (fun M' N' => P M' ∧ N' = N)) ([.ref (b + 51), .ref (b + a1), .ref (b + 17), .long a3] : List Value).toArray s 0 0 (zA b)) (F0 m 74 ls []) := by
    intro  n
    induction n with
    | zero => intro v5 M H ls locs hZ hS hl hw; exact False.elim hw
    | succ n74 ih74 =>
      have lp110 : ∀ (v5 : Int32) (n : Nat) (v6 : Int32) (M : zM) (H : Heap) (ls : Array Slot) (locs : List Loc), va_P G.1 zCl (zws G b M N) H → va_S (zA b) s.heap H locs → lv_has ls 8 [(0, .ref (b + 51)), (1, .ref (b + a1)), (2, .ref (b + 17)), (3, .long a3), (5, .int v5), (6, .int v6)] → L_Li_lift_110 P (L_Li_lift_74 P a1 a3 N n74) a1 a3 v5 N n v6 M → W p l e (headSpec ws_Li_lift rm_Li_lift).room s m ([.ref (b + 51), .ref (b + a1), .ref (b + 17), .long a3] : List Value).toArray below meth c H locs 0 0 (MQ below (zQv G b (fun M' N' => P M' ∧ N' = N)) ([.ref (b + 51), .ref (b + a1), .ref (b + 17), .long a3] : List Value).toArray s 0 0 (zA b)) (F0 m 110 ls []) := by
        intro v5 n
        induction n with
        | zero => intro v6 M H ls locs hZ hS hl hw; exact False.elim hw
        | succ n110 ih110 =>
          have lp148 : ∀ (v6 : Int32) (n : Nat) (v7 : Int32) (M : zM) (H : Heap) (ls : Array Slot) (locs : List Loc), va_P G.1 zCl (zws G b M N) H → va_S (zA b) s.heap H locs → lv_has ls 8 [(0, .ref (b + 51)), (1, .ref (b + a1)), (2, .ref (b + 17)), (3, .long a3), (5, .int v5), (6, .int v6), (7, .int v7)] → L_Li_lift_148 P (L_Li_lift_110 P (L_Li_lift_74 P a1 a3 N n74) a1 a3 v5 N n110) a1 a3 v5 v6 N n v7 M → W p l e (headSpec ws_Li_lift rm_Li_lift).room s m ([.ref (b + 51), .ref (b + a1), .ref (b + 17), .long a3] : List Value).toArray below meth c H locs 0 0 (MQ below (zQv G b (fun M' N' => P M' ∧ N' = N)) ([.ref (b + 51), .ref (b + a1), .ref (b + 17), .long a3] : List Value).toArray s 0 0 (zA b)) (F0 m 148 ls []) := by
            intro v6 n
            induction n with
            | zero => intro v7 M H ls locs hZ hS hl hw; exact False.elim hw
            | succ n148 ih148 =>
              intro v7 M H ls locs hZ hS hl hw
              have hw : B_Li_lift_148 P (L_Li_lift_110 P (L_Li_lift_74 P a1 a3 N n74) a1 a3 v5 N n110) a1 a3 v5 v6 N (L_Li_lift_148 P (L_Li_lift_110 P (L_Li_lift_74 P a1 a3 N n74) a1 a3 v5 N n110) a1 a3 v5 v6 N n148) v7 M := hw
              unfold B_Li_lift_148 at hw
              refine lv_iload (pc := 148) hx hb d_Li_lift_148 (lv_at hl 6 rfl) ?_
              refine lv_bipush (pc := 150) (v := 8) hx hb d_Li_lift_150 (by decide) ?_
              refine lv_icmp_ge (pc := 152) (tgt := 186) hx hb d_Li_lift_152 (by decide) (fun hc => ?_) (fun hc => ?_)
              · have hw := hw.1 hc
                refine lv_iinc (pc := 186) (k := 5) (v := v6 + (1 : Int32)) (lv' := [(6, .int (v6 + (1 : Int32))), (0, .ref (b + 51)), (1, .ref (b + a1)), (2, .ref (b + 17)), (3, .long a3), (5, .int v5), (7, .int v7)]) hx hb d_Li_lift_186 hl rfl (by rfl) (by decide) rfl (fun ls hl => ?_)
                refine lv_goto (pc := 189) (tgt := 110) hx hb d_Li_lift_189 (by decide) ?_
                exact ih110 (v6 + (1 : Int32)) M _ _ _ hZ hS (lv_sub hl [1, 2, 3, 4, 5, 0] rfl) hw
              · have hw := hw.2 hc
                refine lv_aload_n (pc := 155) hx hb d_Li_lift_155 rfl (lv_at hl 0 rfl) ?_
                refine zg_Li_11 (pc := 156) hx hb hta hown hK hZ d_Li_lift_156 ?_
                refine lv_iload (pc := 159) hx hb d_Li_lift_159 (lv_at hl 5 rfl) ?_
                obtain ⟨hc, hw⟩ := hw
                refine z_aald (pc := 161) hx hb hK hZ hc d_Li_lift_161 ?_
                refine lv_iload (pc := 162) hx hb d_Li_lift_162 (lv_at hl 6 rfl) ?_
                refine lv_dup2_11 (pc := 164) hx hb d_Li_lift_164 rfl rfl ?_
                obtain ⟨hc, hw⟩ := hw
                refine z_lald (pc := 165) hx hb hK hZ hc d_Li_lift_165 ?_
                refine lv_aload_n (pc := 166) hx hb d_Li_lift_166 rfl (lv_at hl 0 rfl) ?_
                refine zg_Li_16 (pc := 167) hx hb hta hown hK hZ d_Li_lift_167 ?_
                refine lv_aload_n (pc := 170) hx hb d_Li_lift_170 rfl (lv_at hl 0 rfl) ?_
                refine zg_Li_30 (pc := 171) hx hb hta hown hK hZ d_Li_lift_171 ?_
                refine lv_iload (pc := 174) hx hb d_Li_lift_174 (lv_at hl 6 rfl) ?_
                obtain ⟨hc, hw⟩ := hw
                refine z_lald (pc := 176) hx hb hK hZ hc d_Li_lift_176 ?_
                refine lv_lmul (pc := 177) hx hb d_Li_lift_177 ?_
                refine lv_ladd (pc := 178) hx hb d_Li_lift_178 ?_
                obtain ⟨hc, hw⟩ := hw
                refine z_last (pc := 179) hx hb hK hZ hS hc d_Li_lift_179 (fun M21 H locs hM21 hZ hS => ?_)
                have hw := hw M21 hM21
                refine lv_iinc (pc := 180) (k := 6) (v := v7 + (1 : Int32)) (lv' := [(7, .int (v7 + (1 : Int32))), (0, .ref (b + 51)), (1, .ref (b + a1)), (2, .ref (b + 17)), (3, .long a3), (5, .int v5), (6, .int v6)]) hx hb d_Li_lift_180 hl rfl (by rfl) (by decide) rfl (fun ls hl => ?_)
                refine lv_goto (pc := 183) (tgt := 148) hx hb d_Li_lift_183 (by decide) ?_
                exact ih148 (v7 + (1 : Int32)) M21 _ _ _ hZ hS (lv_sub hl [1, 2, 3, 4, 5, 6, 0] rfl) hw
          intro v6 M H ls locs hZ hS hl hw
          have hw : B_Li_lift_110 P (L_Li_lift_74 P a1 a3 N n74) a1 a3 v5 N (L_Li_lift_110 P (L_Li_lift_74 P a1 a3 N n74) a1 a3 v5 N n110) v6 M := hw
          unfold B_Li_lift_110 at hw
          refine lv_iload (pc := 110) hx hb d_Li_lift_110 (lv_at hl 5 rfl) ?_
          refine lv_aload_n (pc := 112) hx hb d_Li_lift_112 rfl (lv_at hl 2 rfl) ?_
          refine zg_Li_33 (pc := 113) hx hb hta hown hK hZ d_Li_lift_113 ?_
          refine lv_icmp_ge (pc := 116) (tgt := 192) hx hb d_Li_lift_116 (by decide) (fun hc => ?_) (fun hc => ?_)
          · have hw := hw.1 hc
            refine lv_aload_n (pc := 192) hx hb d_Li_lift_192 rfl (lv_at hl 0 rfl) ?_
            refine lv_dup (pc := 193) hx hb d_Li_lift_193 rfl ?_
            refine zg_Li_16 (pc := 194) hx hb hta hown hK hZ d_Li_lift_194 ?_
            refine lv_lload_n (pc := 197) hx hb d_Li_lift_197 rfl (lv_at hl 3 rfl) ?_
            refine lv_lmul (pc := 198) hx hb d_Li_lift_198 ?_
            refine zp_Li_16 (pc := 199) hx hb hta hown hK hZ hS d_Li_lift_199 (fun M17 H locs hM17 hZ hS => ?_)
            have hw := hw M17 hM17
            refine lv_iinc (pc := 202) (k := 4) (v := v5 + (1 : Int32)) (lv' := [(5, .int (v5 + (1 : Int32))), (0, .ref (b + 51)), (1, .ref (b + a1)), (2, .ref (b + 17)), (3, .long a3), (6, .int v6)]) hx hb d_Li_lift_202 hl rfl (by rfl) (by decide) rfl (fun ls hl => ?_)
            refine lv_goto (pc := 205) (tgt := 74) hx hb d_Li_lift_205 (by decide) ?_
            exact ih74 (v5 + (1 : Int32)) M17 _ _ _ hZ hS (lv_sub hl [1, 2, 3, 4, 0] rfl) hw
          · have hw := hw.2 hc
            refine lv_aload_n (pc := 119) hx hb d_Li_lift_119 rfl (lv_at hl 0 rfl) ?_
            refine zg_Li_23 (pc := 120) hx hb hta hown hK hZ d_Li_lift_120 ?_
            refine lv_aload_n (pc := 123) hx hb d_Li_lift_123 rfl (lv_at hl 0 rfl) ?_
            refine zg_Li_20 (pc := 124) hx hb hta hown hK hZ d_Li_lift_124 ?_
            refine lv_iload (pc := 127) hx hb d_Li_lift_127 (lv_at hl 5 rfl) ?_
            obtain ⟨hc, hw⟩ := hw
            refine z_aald (pc := 129) hx hb hK hZ hc d_Li_lift_129 ?_
            refine lv_aload_n (pc := 130) hx hb d_Li_lift_130 rfl (lv_at hl 2 rfl) ?_
            refine zg_Li_39 (pc := 131) hx hb hta hown hK hZ d_Li_lift_131 ?_
            refine lv_iload (pc := 134) hx hb d_Li_lift_134 (lv_at hl 5 rfl) ?_
            obtain ⟨hc, hw⟩ := hw
            refine z_aald (pc := 136) hx hb hK hZ hc d_Li_lift_136 ?_
            refine lv_aload_n (pc := 137) hx hb d_Li_lift_137 rfl (lv_at hl 0 rfl) ?_
            refine zg_Li_30 (pc := 138) hx hb hta hown hK hZ d_Li_lift_138 ?_
            refine lv_lload_n (pc := 141) hx hb d_Li_lift_141 rfl (lv_at hl 3 rfl) ?_
            refine z_callv (pc := 142) (va_runS (As := [.ref (b + 70), .ref (b + (61 + 1 + v6.toNatClampNeg)), .ref (b + (18 + 1 + v6.toNatClampNeg)), .ref (b + 72), .long a3]) (rest := []) ⟨hx, hb, hml, hown, hts⟩ (c_Re_productInto l G b 70 (61 + 1 + v6.toNatClampNeg) (18 + 1 + v6.toNatClampNeg) 72 a3 M N hw) (va_cwS 5 hts (z_good (zgS wd590 wd591 wd18 wd592)) rfl rfl rfl hd_Re_productInto ⟨Nat.le_of_ble_eq_true rfl, Nat.le_of_ble_eq_true rfl⟩) (z_preS hZ hK hT hS) rfl rfl hl.1 rfl (lv_room (Nat.le_of_ble_eq_true rfl)) d_Li_lift_142 ⟨Nat.le_of_ble_eq_true rfl, Nat.le_of_ble_eq_true rfl⟩) hS (fun M19 N20 H locs hw hZ hS => ?_)
            obtain ⟨hw, eN20⟩ := hw
            rw [eN20] at hZ
            refine lv_iconst (pc := 145) (v := 0) hx hb d_Li_lift_145 (by decide) ?_
            refine lv_istore (pc := 146) (lv' := [(7, .int (0 : Int32)), (0, .ref (b + 51)), (1, .ref (b + a1)), (2, .ref (b + 17)), (3, .long a3), (5, .int v5), (6, .int v6)]) hx hb d_Li_lift_146 hl (by decide) rfl (fun ls hl => ?_)
            obtain ⟨n, hw⟩ := hw
            exact lp148 v6 n (0 : Int32) M19 _ _ _ hZ hS (lv_sub hl [1, 2, 3, 4, 5, 6, 0] rfl) hw
      intro v5 M H ls locs hZ hS hl hw
      have hw : B_Li_lift_74 P a1 a3 N (L_Li_lift_74 P a1 a3 N n74) v5 M := hw
      unfold B_Li_lift_74 at hw
      refine lv_iload (pc := 74) hx hb d_Li_lift_74 (lv_at hl 4 rfl) ?_
      refine lv_bipush (pc := 76) (v := 30) hx hb d_Li_lift_76 (by decide) ?_
      refine lv_icmp_ge (pc := 78) (tgt := 208) hx hb d_Li_lift_78 (by decide) (fun hc => ?_) (fun hc => ?_)
      · have hw := hw.1 hc
        exact z_vret hx hb hr hlocks hK hT hZ hS ⟨hw, rfl⟩ d_Li_lift_208
      · have hw := hw.2 hc
        refine lv_aload_n (pc := 81) hx hb d_Li_lift_81 rfl (lv_at hl 0 rfl) ?_
        refine zg_Li_16 (pc := 82) hx hb hta hown hK hZ d_Li_lift_82 ?_
        refine lv_ldc2 (pc := 85) (v := 1700000) hx hb hown (hta _ wd600) d_Li_lift_85 ?_
        refine z_lc_ge (pc := 88) (tgt := 208) hx hb d_Li_lift_88 d_Li_lift_89 (by decide) (fun hc => ?_) (fun hc => ?_)
        · have hw := hw.1 hc
          exact z_vret hx hb hr hlocks hK hT hZ hS ⟨hw, rfl⟩ d_Li_lift_208
        · have hw := hw.2 hc
          refine lv_aload_n (pc := 92) hx hb d_Li_lift_92 rfl (lv_at hl 0 rfl) ?_
          refine lv_aload_n (pc := 93) hx hb d_Li_lift_93 rfl (lv_at hl 1 rfl) ?_
          refine lv_aload_n (pc := 94) hx hb d_Li_lift_94 rfl (lv_at hl 2 rfl) ?_
          refine zg_Li_33 (pc := 95) hx hb hta hown hK hZ d_Li_lift_95 ?_
          refine lv_aload_n (pc := 98) hx hb d_Li_lift_98 rfl (lv_at hl 0 rfl) ?_
          refine zg_Li_16 (pc := 99) hx hb hta hown hK hZ d_Li_lift_99 ?_
          refine lv_lload_n (pc := 102) hx hb d_Li_lift_102 rfl (lv_at hl 3 rfl) ?_
          refine lv_lmul (pc := 103) hx hb d_Li_lift_103 ?_
          refine z_callv (pc := 104) (va_runV (C := R_Li) (b := b + 51) (As := [.ref (b + a1), .int (N 17 1), .long ((M 51 1) * a3)]) (rest := []) ⟨hx, hb, hml, hown, hts⟩ (c_Li_findError l G b a1 (N 17 1) ((M 51 1) * a3) M N hw) (cwV 3 hts (z_good (zgV wd601 wd603 wsel12 wd5 wd604)) rfl rfl rfl ⟨rfl, hd_Li_findError⟩ ⟨Nat.le_of_ble_eq_true rfl, Nat.le_of_ble_eq_true rfl⟩) (z_preV zo_Li rfl rfl hZ hK hT hS) rfl rfl hl.1 rfl (lv_room (Nat.le_of_ble_eq_true rfl)) d_Li_lift_104 ⟨Nat.le_of_ble_eq_true rfl, Nat.le_of_ble_eq_true rfl⟩) hS (fun M15 N16 H locs hw hZ hS => ?_)
          obtain ⟨hw, eN16⟩ := hw
          rw [eN16] at hZ
          refine lv_iconst (pc := 107) (v := 0) hx hb d_Li_lift_107 (by decide) ?_
          refine lv_istore (pc := 108) (lv' := [(6, .int (0 : Int32)), (0, .ref (b + 51)), (1, .ref (b + a1)), (2, .ref (b + 17)), (3, .long a3), (5, .int v5)]) hx hb d_Li_lift_108 hl (by decide) rfl (fun ls hl => ?_)
          obtain ⟨n, hw⟩ := hw
          exact lp110 v5 n (0 : Int32) M15 _ _ _ hZ hS (lv_sub hl [1, 2, 3, 4, 5, 0] rfl) hw
  have lp3 : ∀ (n : Nat) (v5 : Int32) (M : zM) (H : Heap) (ls : Array Slot) (locs : List Loc), va_P G.1 zCl (zws G b M N) H → va_S (zA b) s.heap H locs → lv_has ls 8 [(0, .ref (b + 51)), (1, .ref (b + a1)), (2, .ref (b + 17)), (3, .long a3), (5, .int v5)] → L_Li_lift_3 P a1 a3 N n v5 M → W p l e (headSpec ws_Li_lift rm_Li_lift).room s m ([.ref (b + 51), .ref (b + a1), .ref (b + 17), .long a3] : List Value).toArray below meth c H locs 0 0 (MQ below (zQv G b (fun M' N' => P M' ∧ N' = N)) ([.ref (b + 51), .ref (b + a1), .ref (b + 17), .long a3] : List Value).toArray s 0 0 (zA b)) (F0 m 3 ls []) := by
    intro  n
    induction n with
    | zero => intro v5 M H ls locs hZ hS hl hw; exact False.elim hw
    | succ n3 ih3 =>
      intro v5 M H ls locs hZ hS hl hw
      have hw : B_Li_lift_3 P a1 a3 N (L_Li_lift_3 P a1 a3 N n3) v5 M := hw
      unfold B_Li_lift_3 at hw
      refine lv_iload (pc := 3) hx hb d_Li_lift_3 (lv_at hl 4 rfl) ?_
      refine lv_aload_n (pc := 5) hx hb d_Li_lift_5 rfl (lv_at hl 2 rfl) ?_
      refine zg_Li_33 (pc := 6) hx hb hta hown hK hZ d_Li_lift_6 ?_
      refine lv_icmp_ge (pc := 9) (tgt := 66) hx hb d_Li_lift_9 (by decide) (fun hc => ?_) (fun hc => ?_)
      · have hw := hw.1 hc
        refine lv_aload_n (pc := 66) hx hb d_Li_lift_66 rfl (lv_at hl 0 rfl) ?_
        refine lv_lload_n (pc := 67) hx hb d_Li_lift_67 rfl (lv_at hl 3 rfl) ?_
        refine zp_Li_16 (pc := 68) hx hb hta hown hK hZ hS d_Li_lift_68 (fun M1 H locs hM1 hZ hS => ?_)
        have hw := hw M1 hM1
        refine lv_iconst (pc := 71) (v := 0) hx hb d_Li_lift_71 (by decide) ?_
        refine lv_istore (pc := 72) (lv' := [(5, .int (0 : Int32)), (0, .ref (b + 51)), (1, .ref (b + a1)), (2, .ref (b + 17)), (3, .long a3)]) hx hb d_Li_lift_72 hl (by decide) rfl (fun ls hl => ?_)
        obtain ⟨n, hw⟩ := hw
        exact lp74  n (0 : Int32) M1 _ _ _ hZ hS (lv_sub hl [1, 2, 3, 4, 0] rfl) hw
      · have hw := hw.2 hc
        refine lv_aload_n (pc := 12) hx hb d_Li_lift_12 rfl (lv_at hl 2 rfl) ?_
        refine zg_Li_39 (pc := 13) hx hb hta hown hK hZ d_Li_lift_13 ?_
        refine lv_iload (pc := 16) hx hb d_Li_lift_16 (lv_at hl 4 rfl) ?_
        obtain ⟨hc, hw⟩ := hw
        refine z_aald (pc := 18) hx hb hK hZ hc d_Li_lift_18 ?_
        refine lv_aload_n (pc := 19) hx hb d_Li_lift_19 rfl (lv_at hl 0 rfl) ?_
        refine zg_Li_11 (pc := 20) hx hb hta hown hK hZ d_Li_lift_20 ?_
        refine lv_iload (pc := 23) hx hb d_Li_lift_23 (lv_at hl 4 rfl) ?_
        obtain ⟨hc, hw⟩ := hw
        refine z_aald (pc := 25) hx hb hK hZ hc d_Li_lift_25 ?_
        refine z_callv (pc := 26) (va_runS (As := [.ref (b + (18 + 1 + v5.toNatClampNeg)), .ref (b + (52 + 1 + v5.toNatClampNeg))]) (rest := []) ⟨hx, hb, hml, hown, hts⟩ (c_Ro_copyInto l G b (18 + 1 + v5.toNatClampNeg) (52 + 1 + v5.toNatClampNeg) M N hw) (va_cwS 2 hts (z_good (zgS wd582 wd363 wd13 wd364)) rfl rfl rfl hd_Ro_copyInto ⟨Nat.le_of_ble_eq_true rfl, Nat.le_of_ble_eq_true rfl⟩) (z_preS hZ hK hT hS) rfl rfl hl.1 rfl (lv_room (Nat.le_of_ble_eq_true rfl)) d_Li_lift_26 ⟨Nat.le_of_ble_eq_true rfl, Nat.le_of_ble_eq_true rfl⟩) hS (fun M3 N4 H locs hw hZ hS => ?_)
        obtain ⟨hw, eN4⟩ := hw
        rw [eN4] at hZ
        refine lv_aload_n (pc := 29) hx hb d_Li_lift_29 rfl (lv_at hl 0 rfl) ?_
        refine lv_iload (pc := 30) hx hb d_Li_lift_30 (lv_at hl 4 rfl) ?_
        refine lv_aload_n (pc := 32) hx hb d_Li_lift_32 rfl (lv_at hl 1 rfl) ?_
        refine z_calll (pc := 33) (va_runS (As := [.ref (b + a1)]) (rest := [.int v5, .ref (b + 51)]) ⟨hx, hb, hml, hown, hts⟩ (c_Ro_leadingOf l G b a1 M3 N hw) (va_cwS 1 hts (z_good (zgS wd583 wd451 wd13 wd452)) rfl rfl rfl hd_Ro_leadingOf ⟨Nat.le_of_ble_eq_true rfl, Nat.le_of_ble_eq_true rfl⟩) (z_preS hZ hK hT hS) rfl rfl hl.1 rfl (lv_room (Nat.le_of_ble_eq_true rfl)) d_Li_lift_33 ⟨Nat.le_of_ble_eq_true rfl, Nat.le_of_ble_eq_true rfl⟩) hS (fun r5 M6 N7 H locs hw hZ hS => ?_)
        obtain ⟨hw, eM6, eN7⟩ := hw
        rw [eM6, eN7] at hZ
        refine lv_aload_n (pc := 36) hx hb d_Li_lift_36 rfl (lv_at hl 2 rfl) ?_
        refine lv_lload_n (pc := 37) hx hb d_Li_lift_37 rfl (lv_at hl 3 rfl) ?_
        refine z_callv (pc := 38) (va_runV (C := R_Li) (b := b + 51) (As := [.int v5, .long r5, .ref (b + 17), .long a3]) (rest := []) ⟨hx, hb, hml, hown, hts⟩ (c_Li_multiplyOthers l G b v5 r5 a3 M3 N hw) (cwV 4 hts (z_good (zgV wd584 wd586 wsel10 wd5 wd587)) rfl rfl rfl ⟨rfl, hd_Li_multiplyOthers⟩ ⟨Nat.le_of_ble_eq_true rfl, Nat.le_of_ble_eq_true rfl⟩) (z_preV zo_Li rfl rfl hZ hK hT hS) rfl rfl hl.1 rfl (lv_room (Nat.le_of_ble_eq_true rfl)) d_Li_lift_38 ⟨Nat.le_of_ble_eq_true rfl, Nat.le_of_ble_eq_true rfl⟩) hS (fun M9 N10 H locs hw hZ hS => ?_)
        obtain ⟨hw, eN10⟩ := hw
        rw [eN10] at hZ
        refine lv_aload_n (pc := 41) hx hb d_Li_lift_41 rfl (lv_at hl 0 rfl) ?_
        refine lv_aload_n (pc := 42) hx hb d_Li_lift_42 rfl (lv_at hl 2 rfl) ?_
        refine zg_Li_39 (pc := 43) hx hb hta hown hK hZ d_Li_lift_43 ?_
        refine lv_iload (pc := 46) hx hb d_Li_lift_46 (lv_at hl 4 rfl) ?_
        obtain ⟨hc, hw⟩ := hw
        refine z_aald (pc := 48) hx hb hK hZ hc d_Li_lift_48 ?_
        refine lv_aload_n (pc := 49) hx hb d_Li_lift_49 rfl (lv_at hl 0 rfl) ?_
        refine zg_Li_20 (pc := 50) hx hb hta hown hK hZ d_Li_lift_50 ?_
        refine lv_iload (pc := 53) hx hb d_Li_lift_53 (lv_at hl 4 rfl) ?_
        obtain ⟨hc, hw⟩ := hw
        refine z_aald (pc := 55) hx hb hK hZ hc d_Li_lift_55 ?_
        refine lv_lload_n (pc := 56) hx hb d_Li_lift_56 rfl (lv_at hl 3 rfl) ?_
        refine z_callv (pc := 57) (va_runV (C := R_Li) (b := b + 51) (As := [.ref (b + (18 + 1 + v5.toNatClampNeg)), .ref (b + (61 + 1 + v5.toNatClampNeg)), .long a3]) (rest := []) ⟨hx, hb, hml, hown, hts⟩ (c_Li_fillInverse l G b (18 + 1 + v5.toNatClampNeg) (61 + 1 + v5.toNatClampNeg) a3 M9 N hw) (cwV 3 hts (z_good (zgV wd594 wd596 wsel11 wd5 wd597)) rfl rfl rfl ⟨rfl, hd_Li_fillInverse⟩ ⟨Nat.le_of_ble_eq_true rfl, Nat.le_of_ble_eq_true rfl⟩) (z_preV zo_Li rfl rfl hZ hK hT hS) rfl rfl hl.1 rfl (lv_room (Nat.le_of_ble_eq_true rfl)) d_Li_lift_57 ⟨Nat.le_of_ble_eq_true rfl, Nat.le_of_ble_eq_true rfl⟩) hS (fun M12 N13 H locs hw hZ hS => ?_)
        obtain ⟨hw, eN13⟩ := hw
        rw [eN13] at hZ
        refine lv_iinc (pc := 60) (k := 4) (v := v5 + (1 : Int32)) (lv' := [(5, .int (v5 + (1 : Int32))), (0, .ref (b + 51)), (1, .ref (b + a1)), (2, .ref (b + 17)), (3, .long a3)]) hx hb d_Li_lift_60 hl rfl (by rfl) (by decide) rfl (fun ls hl => ?_)
        refine lv_goto (pc := 63) (tgt := 3) hx hb d_Li_lift_63 (by decide) ?_
        exact ih3 (v5 + (1 : Int32)) M12 _ _ _ hZ hS (lv_sub hl [1, 2, 3, 4, 0] rfl) hw
  unfold w_Li_lift at hw
  refine lv_iconst (pc := 0) (v := 0) hx hb d_Li_lift_0 (by decide) ?_
  refine lv_istore (pc := 1) (lv' := [(5, .int (0 : Int32)), (0, .ref (b + 51)), (1, .ref (b + a1)), (2, .ref (b + 17)), (3, .long a3)]) hx hb d_Li_lift_1 hl (by decide) rfl (fun ls hl => ?_)
  obtain ⟨n, hw⟩ := hw
  exact lp3  n (0 : Int32) M _ _ _ hZ hS (lv_sub hl [1, 2, 3, 4, 0] rfl) hw
