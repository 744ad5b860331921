theorem zg_MP_30 {p : Program} {l : Launch} {e : Env} {R : Room} {s : State} {m : MethodId} {args : Array Value} {below : List Frame} {meth : Method} {c : Code} {H : Heap} {locs : List Loc} {cells slots : Nat} {Q : State → Prop} {cc : ByteArray} {pc : Nat} {ls : Array Slot} {rest : List Value} {G : zG} {b : Nat} {M : zM} {N : zN} (hx : p.tables.exec = Jvm.exec) (hb : c.code = cc) (hta : ∀ w ∈ zall, w.before args s = true) (hown : s.vm.findClass R_MP = some m.cls) (hK : va_K G.1 zCl (zty G) s) (hZ : va_P G.1 zCl (zws G b M N) H) (hdg : decode cc pc = .ok (.getfield 30, 3)) (kk : W p l e R s m args below meth c H locs cells slots Q (F0 m (pc + 3) ls (.ref (b + 46) :: rest))) : W p l e R s m args below meth c H locs cells slots Q (F0 m pc ls (.ref (b + 17) :: rest)) :=
  va_get (D := G.1) (ci := 3) (v := .ref (b + 46)) (C := R_MP) (T := T_MP) (N := 10) hx hb hta hin_MP hown hK hZ 17 zo_MP rfl 5 (by decide) (hta _ wd79) (fun _ h9 => h9) rfl hdg kk
theorem zg_MP_20 {p : Program} {l : Launch} {e : Env} {R : Room} {s : State} {m : MethodId} {args : Array Value} {below : List Frame} {meth : Method} {c : Code} {H : Heap} {locs : List Loc} {cells slots : Nat} {Q : State → Prop} {cc : ByteArray} {pc : Nat} {ls : Array Slot} {rest : List Value} {G : zG} {b : Nat} {M : zM} {N : zN} (hx : p.tables.exec = Jvm.exec) (hb : c.code = cc) (hta : ∀ w ∈ zall, w.before args s = true) (hown : s.vm.findClass R_MP = some m.cls) (hK : va_K G.1 zCl (zty G) s) (hZ : va_P G.1 zCl (zws G b M N) H) (hdg : decode cc pc = .ok (.getfield 20, 3)) (kk : W p l e R s m args below meth c H locs cells slots Q (F0 m (pc + 3) ls (.ref (b + 27) :: rest))) : W p l e R s m args below meth c H locs cells slots Q (F0 m pc ls (.ref (b + 17) :: rest)) :=
  va_get (D := G.1) (ci := 3) (v := .ref (b + 27)) (C := R_MP) (T := T_MP) (N := 10) hx hb hta hin_MP hown hK hZ 17 zo_MP rfl 2 (by decide) (hta _ wd76) (fun _ h9 => h9) rfl hdg kk
theorem zg_MP_34 {p : Program} {l : Launch} {e : Env} {R : Room} {s : State} {m : MethodId} {args : Array Value} {below : List Frame} {meth : Method} {c : Code} {H : Heap} {locs : List Loc} {cells slots : Nat} {Q : State → Prop} {cc : ByteArray} {pc : Nat} {ls : Array Slot} {rest : List Value} {G : zG} {b : Nat} {M : zM} {N : zN} (hx : p.tables.exec = Jvm.exec) (hb : c.code = cc) (hta : ∀ w ∈ zall, w.before args s = true) (hown : s.vm.findClass R_MP = some m.cls) (hK : va_K G.1 zCl (zty G) s) (hZ : va_P G.1 zCl (zws G b M N) H) (hdg : decode cc pc = .ok (.getfield 34, 3)) (kk : W p l e R s m args below meth c H locs cells slots Q (F0 m (pc + 3) ls (.ref (b + 47) :: rest))) : W p l e R s m args below meth c H locs cells slots Q (F0 m pc ls (.ref (b + 17) :: rest)) :=
  va_get (D := G.1) (ci := 3) (v := .ref (b + 47)) (C := R_MP) (T := T_MP) (N := 10) hx hb hta hin_MP hown hK hZ 17 zo_MP rfl 6 (by decide) (hta _ wd80) (fun _ h9 => h9) rfl hdg kk
theorem d_MP_fillMatrix_0 : decode prog_5_method_4_code 0 = .ok (.aload_n 0, 1) := by decide +kernel
theorem d_MP_fillMatrix_1 : decode prog_5_method_4_code 1 = .ok (.getfield 30, 3) := by decide +kernel
theorem d_MP_fillMatrix_4 : decode prog_5_method_4_code 4 = .ok (.lconst 0, 1) := by decide +kernel
theorem d_MP_fillMatrix_5 : decode prog_5_method_4_code 5 = .ok (.invokestatic 82, 3) := by decide +kernel
theorem d_MP_fillMatrix_8 : decode prog_5_method_4_code 8 = .ok (.aload_n 0, 1) := by decide +kernel
theorem d_MP_fillMatrix_9 : decode prog_5_method_4_code 9 = .ok (.getfield 30, 3) := by decide +kernel
theorem d_MP_fillMatrix_12 : decode prog_5_method_4_code 12 = .ok (.iconst 0, 1) := by decide +kernel
theorem d_MP_fillMatrix_13 : decode prog_5_method_4_code 13 = .ok (.lconst 1, 1) := by decide +kernel
theorem d_MP_fillMatrix_14 : decode prog_5_method_4_code 14 = .ok (.lastore, 1) := by decide +kernel
theorem d_MP_fillMatrix_15 : decode prog_5_method_4_code 15 = .ok (.iconst 0, 1) := by decide +kernel
theorem d_MP_fillMatrix_16 : decode prog_5_method_4_code 16 = .ok (.istore 4, 2) := by decide +kernel
theorem d_MP_fillMatrix_18 : decode prog_5_method_4_code 18 = .ok (.iload 4, 2) := by decide +kernel
theorem d_MP_fillMatrix_20 : decode prog_5_method_4_code 20 = .ok (.iload_n 1, 1) := by decide +kernel
theorem d_MP_fillMatrix_21 : decode prog_5_method_4_code 21 = .ok (.if_icmp .ge 79, 3) := by decide +kernel
theorem d_MP_fillMatrix_24 : decode prog_5_method_4_code 24 = .ok (.aload_n 0, 1) := by decide +kernel
theorem d_MP_fillMatrix_25 : decode prog_5_method_4_code 25 = .ok (.getfield 30, 3) := by decide +kernel
theorem d_MP_fillMatrix_28 : decode prog_5_method_4_code 28 = .ok (.aload_n 0, 1) := by decide +kernel
theorem d_MP_fillMatrix_29 : decode prog_5_method_4_code 29 = .ok (.getfield 20, 3) := by decide +kernel
theorem d_MP_fillMatrix_32 : decode prog_5_method_4_code 32 = .ok (.iload 4, 2) := by decide +kernel
theorem d_MP_fillMatrix_34 : decode prog_5_method_4_code 34 = .ok (.aaload, 1) := by decide +kernel
theorem d_MP_fillMatrix_35 : decode prog_5_method_4_code 35 = .ok (.invokestatic 74, 3) := by decide +kernel
theorem d_MP_fillMatrix_38 : decode prog_5_method_4_code 38 = .ok (.aload_n 0, 1) := by decide +kernel
theorem d_MP_fillMatrix_39 : decode prog_5_method_4_code 39 = .ok (.getfield 20, 3) := by decide +kernel
theorem d_MP_fillMatrix_42 : decode prog_5_method_4_code 42 = .ok (.iload 4, 2) := by decide +kernel
theorem d_MP_fillMatrix_44 : decode prog_5_method_4_code 44 = .ok (.aaload, 1) := by decide +kernel
theorem d_MP_fillMatrix_45 : decode prog_5_method_4_code 45 = .ok (.iload 4, 2) := by decide +kernel
theorem d_MP_fillMatrix_47 : decode prog_5_method_4_code 47 = .ok (.aload_n 0, 1) := by decide +kernel
theorem d_MP_fillMatrix_48 : decode prog_5_method_4_code 48 = .ok (.getfield 20, 3) := by decide +kernel
theorem d_MP_fillMatrix_51 : decode prog_5_method_4_code 51 = .ok (.iload 4, 2) := by decide +kernel
theorem d_MP_fillMatrix_53 : decode prog_5_method_4_code 53 = .ok (.aaload, 1) := by decide +kernel
theorem d_MP_fillMatrix_54 : decode prog_5_method_4_code 54 = .ok (.iload 4, 2) := by decide +kernel
theorem d_MP_fillMatrix_56 : decode prog_5_method_4_code 56 = .ok (.laload, 1) := by decide +kernel
theorem d_MP_fillMatrix_57 : decode prog_5_method_4_code 57 = .ok (.lconst 1, 1) := by decide +kernel
theorem d_MP_fillMatrix_58 : decode prog_5_method_4_code 58 = .ok (.lsub, 1) := by decide +kernel
theorem d_MP_fillMatrix_59 : decode prog_5_method_4_code 59 = .ok (.lload_n 2, 1) := by decide +kernel
theorem d_MP_fillMatrix_60 : decode prog_5_method_4_code 60 = .ok (.invokestatic 87, 3) := by decide +kernel
theorem d_MP_fillMatrix_63 : decode prog_5_method_4_code 63 = .ok (.lastore, 1) := by decide +kernel
theorem d_MP_fillMatrix_64 : decode prog_5_method_4_code 64 = .ok (.iconst 0, 1) := by decide +kernel
theorem d_MP_fillMatrix_65 : decode prog_5_method_4_code 65 = .ok (.istore 5, 2) := by decide +kernel
theorem d_MP_fillMatrix_67 : decode prog_5_method_4_code 67 = .ok (.iload 5, 2) := by decide +kernel
theorem d_MP_fillMatrix_69 : decode prog_5_method_4_code 69 = .ok (.i2l, 1) := by decide +kernel
theorem d_MP_fillMatrix_70 : decode prog_5_method_4_code 70 = .ok (.lload_n 2, 1) := by decide +kernel
theorem d_MP_fillMatrix_71 : decode prog_5_method_4_code 71 = .ok (.lcmp, 1) := by decide +kernel
theorem d_MP_fillMatrix_72 : decode prog_5_method_4_code 72 = .ok (.ifCond .ge 22, 3) := by decide +kernel
theorem d_MP_fillMatrix_75 : decode prog_5_method_4_code 75 = .ok (.aload_n 0, 1) := by decide +kernel
theorem d_MP_fillMatrix_76 : decode prog_5_method_4_code 76 = .ok (.getfield 30, 3) := by decide +kernel
theorem d_MP_fillMatrix_79 : decode prog_5_method_4_code 79 = .ok (.aload_n 0, 1) := by decide +kernel
theorem d_MP_fillMatrix_80 : decode prog_5_method_4_code 80 = .ok (.getfield 34, 3) := by decide +kernel
theorem d_MP_fillMatrix_83 : decode prog_5_method_4_code 83 = .ok (.iload_n 1, 1) := by decide +kernel
theorem d_MP_fillMatrix_84 : decode prog_5_method_4_code 84 = .ok (.lload_n 2, 1) := by decide +kernel
theorem d_MP_fillMatrix_85 : decode prog_5_method_4_code 85 = .ok (.invokestatic 91, 3) := by decide +kernel
theorem d_MP_fillMatrix_88 : decode prog_5_method_4_code 88 = .ok (.iinc 5 1, 3) := by decide +kernel
theorem d_MP_fillMatrix_91 : decode prog_5_method_4_code 91 = .ok (.goto (-24), 3) := by decide +kernel
theorem d_MP_fillMatrix_94 : decode prog_5_method_4_code 94 = .ok (.iinc 4 1, 3) := by decide +kernel
theorem d_MP_fillMatrix_97 : decode prog_5_method_4_code 97 = .ok (.goto (-79), 3) := by decide +kernel
theorem d_MP_fillMatrix_100 : decode prog_5_method_4_code 100 = .ok (.return_, 1) := by decide +kernel
def B_MP_fillMatrix_67 (P : zM → Prop) (k18 : Int32 → zM → Prop) (a1 : Int32) (a2 : Int64) (v4 : Int32) (k67 : Int32 → zM → Prop) (v5 : Int32) (M : zM) : Prop := (a2 ≤ v5.toInt64 → k18 (v4 + (1 : Int32)) M) ∧ (¬ a2 ≤ v5.toInt64 → w_Re_timesX 46 47 a1 a2 M (fun M13 => k67 (v5 + (1 : Int32)) M13))
def L_MP_fillMatrix_67 (P : zM → Prop) (k18 : Int32 → zM → Prop) (a1 : Int32) (a2 : Int64) (v4 : Int32) (n : Nat) : Int32 → zM → Prop := Nat.rec (fun _ _ => False) (fun _ k => B_MP_fillMatrix_67 P k18 a1 a2 v4 k) n
def B_MP_fillMatrix_18 (P : zM → Prop) (a1 : Int32) (a2 : Int64) (k18 : Int32 → zM → Prop) (v4 : Int32) (M : zM) : Prop := (a1 ≤ v4 → P M) ∧ (¬ a1 ≤ v4 → vp_in v4 (zgn 27) ∧ w_Ro_copyInto 46 (27 + 1 + v4.toNatClampNeg) M (fun M6 => vp_in v4 (zgn 27) ∧ vp_in v4 (zgn 27) ∧ vp_in v4 (zlong (27 + 1 + v4.toNatClampNeg)) ∧ w_Re_residue ((M6 (27 + 1 + v4.toNatClampNeg) v4.toNatClampNeg) - (1 : Int64)) a2  (fun r8 => vp_in v4 (zlong (27 + 1 + v4.toNatClampNeg)) ∧ ∀ M11 : zM, M11 = zput M6 (27 + 1 + v4.toNatClampNeg) v4.toNatClampNeg r8 → ∃ n, L_MP_fillMatrix_67 P k18 a1 a2 v4 n (0 : Int32) M11)))
def L_MP_fillMatrix_18 (P : zM → Prop) (a1 : Int32) (a2 : Int64) (n : Nat) : Int32 → zM → Prop := Nat.rec (fun _ _ => False) (fun _ k => B_MP_fillMatrix_18 P a1 a2 k) n
def w_MP_fillMatrix (a1 : Int32) (a2 : Int64) (M : zM) (P : zM → Prop) : Prop := w_Ar_fillJ 46 (0 : Int64) M (fun M2 => vp_in (0 : Int32) (zlong 46) ∧ ∀ M4 : zM, M4 = zput M2 46 (0 : Int32).toNatClampNeg (1 : Int64) → ∃ n, L_MP_fillMatrix_18 P a1 a2 n (0 : Int32) M4)
def ws_MP_fillMatrix : List Cond := .code y_MP_fillMatrix prog_5_method_4_code 6 (Option.none : Option Jvm.ClassFile.FieldType) :: zall
def rm_MP_fillMatrix : Room := { frames := 2, cells := 0, slots := 0, locals := 59 }
theorem hd_MP_fillMatrix : y_MP_fillMatrix.cls ≠ "java/lang/invoke/MethodHandle" ∧ y_MP_fillMatrix.cls ≠ "java/lang/invoke/VarHandle" ∧ (parseMethodDescriptor y_MP_fillMatrix.desc).map (fun d => d.parameters.length) = some 2 := by decide +kernel
set_option maxHeartbeats 4000000 in
set_option maxRecDepth 100000 in
theorem c_MP_fillMatrix (l : Launch) (G : zG) (b : Nat) (a1 : Int32) (a2 : Int64) (M : zM) (N : zN) {P : zM → Prop} (hw : w_MP_fillMatrix a1 a2 M P) : Met l y_MP_fillMatrix ws_MP_fillMatrix rm_MP_fillMatrix (zPc G b M N [.ref (b + 17), .int a1, .long a2]) (zQv G b (fun M' N' => P M' ∧ N' = N)) 0 0 (zA b) := by
  refine Met.ofW (cc := prog_5_method_4_code) (maxL := 6) (ret := (Option.none : Option Jvm.ClassFile.FieldType)) (by decide) rfl ?_
  intro p e s m args below meth c s₁ B hml hv
  obtain ⟨rfl, hZ, hK, hT⟩ := hv
  have hx := B.exec
  have hb := B.bytes
  have hr := B.returns
  have hts := atoms_spec (ws := ws_MP_fillMatrix) B.pre
  have hta : ∀ w ∈ zall, w.before ([.ref (b + 17), .int a1, .long a2] : List Value).toArray s = true := fun w h => hts w (List.mem_cons_of_mem _ h)
  have hown : s.vm.findClass R_MP = some m.cls := findClass_of_methodNamed B.named
  have hlocks := B.notSynchronized
  have hS : va_S (zA b) s.heap s.heap [] := va_S.rf
  have hl := lv_entry ([.ref (b + 17), .int a1, .long a2]) (n := 6) (Nat.le_of_ble_eq_true rfl)
  rw [lg_entry_eq]
  generalize (lg_sl ([.ref (b + 17), .int a1, .long a2]) ++ List.replicate (6 - (lg_sl ([.ref (b + 17), .int a1, .long a2])).length) Slot.unset).toArray = ls at hl ⊢
  have hl : lv_has ls 6 [(0, .ref (b + 17)), (1, .int a1), (2, .long a2)] := hl
  have lp18 : ∀ (n : Nat) (v4 : Int32) (M : zM) (H : Heap) (ls : Array Slot) (locs : List Loc), va_P G.1 zCl (zws G b M N) H → va_S (zA b) s.heap H locs → lv_has ls 6 [(0, .ref (b + 17)), (1, .int a1), (2, .long a2), (4, .int v4)] → L_MP_fillMatrix_18 P a1 a2 n v4 M → W p l e (headSpec ws_MP_fillMatrix rm_MP_fillMatrix).room s m ([.ref (b + 17), .int a1, .long a2] : List Value).toArray below meth c H locs 0 0 (MQ below (zQv G b (fun M' N' => P M' ∧ N' = N)) ([.ref (b + 17), .int a1, .long a2] : List Value).toArray s 0 0 (zA b)) (F0 m 18 ls []) := by
    intro  n
    induction n with
    | zero => intro v4 M H ls locs hZ hS hl hw; exact False.elim hw
    | succ n18 ih18 =>
      have lp67 : ∀ (v4 : Int32) (n : Nat) (v5 : Int32) (M : zM) (H : Heap) (ls : Array Slot) (locs : List Loc), va_P G.1 zCl (zws G b M N) H → va_S (zA b) s.heap H locs → lv_has ls 6 [(0, .ref (b + 17)), (1, .int a1), (2, .long a2), (4, .int v4), (5, .int v5)] → L_MP_fillMatrix_67 P (L_MP_fillMatrix_18 P a1 a2 n18) a1 a2 v4 n v5 M → W p l e (headSpec ws_MP_fillMatrix rm_MP_fillMatrix).room s m ([.ref (b + 17), .int a1, .long a2] : List Value).toArray below meth c H locs 0 0 (MQ below (zQv G b (fun M' N' => P M' ∧ N' = N)) ([.ref (b + 17), .int a1, .long a2] : List Value).toArray s 0 0 (zA b)) (F0 m 67 ls []) := by
        intro v4 n
        induction n with
        | zero => intro v5 M H ls locs hZ hS hl hw; exact False.elim hw
        | succ n67 ih67 =>
          intro v5 M H ls locs hZ hS hl hw
          have hw : B_MP_fillMatrix_67 P (L_MP_fillMatrix_18 P a1 a2 n18) a1 a2 v4 (L_MP_fillMatrix_67 P (L_MP_fillMatrix_18 P a1 a2 n18) a1 a2 v4 n67) v5 M := hw
          unfold B_MP_fillMatrix_67 at hw
          refine lv_iload (pc := 67) hx hb d_MP_fillMatrix_67 (lv_at hl 4 rfl) ?_
          refine lv_i2l (pc := 69) (v := v5.toInt64) hx hb d_MP_fillMatrix_69 rfl ?_
          refine lv_lload_n (pc := 70) hx hb d_MP_fillMatrix_70 rfl (lv_at hl 2 rfl) ?_
          refine z_lc_ge (pc := 71) (tgt := 94) hx hb d_MP_fillMatrix_71 d_MP_fillMatrix_72 (by decide) (fun hc => ?_) (fun hc => ?_)
          · have hw := hw.1 hc
            refine lv_iinc (pc := 94) (k := 3) (v := v4 + (1 : Int32)) (lv' := [(4, .int (v4 + (1 : Int32))), (0, .ref (b + 17)), (1, .int a1), (2, .long a2), (5, .int v5)]) hx hb d_MP_fillMatrix_94 hl rfl (by rfl) (by decide) rfl (fun ls hl => ?_)
            refine lv_goto (pc := 97) (tgt := 18) hx hb d_MP_fillMatrix_97 (by decide) ?_
            exact ih18 (v4 + (1 : Int32)) M _ _ _ hZ hS (lv_sub hl [1, 2, 3, 0] rfl) hw
          · have hw := hw.2 hc
            refine lv_aload_n (pc := 75) hx hb d_MP_fillMatrix_75 rfl (lv_at hl 0 rfl) ?_
            refine zg_MP_30 (pc := 76) hx hb hta hown hK hZ d_MP_fillMatrix_76 ?_
            refine lv_aload_n (pc := 79) hx hb d_MP_fillMatrix_79 rfl (lv_at hl 0 rfl) ?_
            refine zg_MP_34 (pc := 80) hx hb hta hown hK hZ d_MP_fillMatrix_80 ?_
            refine lv_iload_n (pc := 83) hx hb d_MP_fillMatrix_83 rfl (lv_at hl 1 rfl) ?_
            refine lv_lload_n (pc := 84) hx hb d_MP_fillMatrix_84 rfl (lv_at hl 2 rfl) ?_
            refine z_callv (pc := 85) (va_runS (As := [.ref (b + 46), .ref (b + 47), .int a1, .long a2]) (rest := []) ⟨hx, hb, hml, hown, hts⟩ (c_Re_timesX l G b 46 47 a1 a2 M N hw) (va_cwS 4 hts (z_good (zgS wd549 wd550 wd18 wd551)) rfl rfl rfl hd_Re_timesX ⟨Nat.le_of_ble_eq_true rfl, Nat.le_of_ble_eq_true rfl⟩) (z_preS hZ hK hT hS) rfl rfl hl.1 rfl (lv_room (Nat.le_of_ble_eq_true rfl)) d_MP_fillMatrix_85 ⟨Nat.le_of_ble_eq_true rfl, Nat.le_of_ble_eq_true rfl⟩) hS (fun M13 N14 H locs hw hZ hS => ?_)
            obtain ⟨hw, eN14⟩ := hw
            rw [eN14] at hZ
            refine lv_iinc (pc := 88) (k := 4) (v := v5 + (1 : Int32)) (lv' := [(5, .int (v5 + (1 : Int32))), (0, .ref (b + 17)), (1, .int a1), (2, .long a2), (4, .int v4)]) hx hb d_MP_fillMatrix_88 hl rfl (by rfl) (by decide) rfl (fun ls hl => ?_)
            refine lv_goto (pc := 91) (tgt := 67) hx hb d_MP_fillMatrix_91 (by decide) ?_
            exact ih67 (v5 + (1 : Int32)) M13 _ _ _ hZ hS (lv_sub hl [1, 2, 3, 4, 0] rfl) hw
      intro v4 M H ls locs hZ hS hl hw
      have hw : B_MP_fillMatrix_18 P a1 a2 (L_MP_fillMatrix_18 P a1 a2 n18) v4 M := hw
      unfold B_MP_fillMatrix_18 at hw
      refine lv_iload (pc := 18) hx hb d_MP_fillMatrix_18 (lv_at hl 3 rfl) ?_
      refine lv_iload_n (pc := 20) hx hb d_MP_fillMatrix_20 rfl (lv_at hl 1 rfl) ?_
      refine lv_icmp_ge (pc := 21) (tgt := 100) hx hb d_MP_fillMatrix_21 (by decide) (fun hc => ?_) (fun hc => ?_)
      · have hw := hw.1 hc
        exact z_vret hx hb hr hlocks hK hT hZ hS ⟨hw, rfl⟩ d_MP_fillMatrix_100
      · have hw := hw.2 hc
        refine lv_aload_n (pc := 24) hx hb d_MP_fillMatrix_24 rfl (lv_at hl 0 rfl) ?_
        refine zg_MP_30 (pc := 25) hx hb hta hown hK hZ d_MP_fillMatrix_25 ?_
        refine lv_aload_n (pc := 28) hx hb d_MP_fillMatrix_28 rfl (lv_at hl 0 rfl) ?_
        refine zg_MP_20 (pc := 29) hx hb hta hown hK hZ d_MP_fillMatrix_29 ?_
        refine lv_iload (pc := 32) hx hb d_MP_fillMatrix_32 (lv_at hl 3 rfl) ?_
        obtain ⟨hc, hw⟩ := hw
        refine z_aald (pc := 34) hx hb hK hZ hc d_MP_fillMatrix_34 ?_
        refine z_callv (pc := 35) (va_runS (As := [.ref (b + 46), .ref (b + (27 + 1 + v4.toNatClampNeg))]) (rest := []) ⟨hx, hb, hml, hown, hts⟩ (c_Ro_copyInto l G b 46 (27 + 1 + v4.toNatClampNeg) M N hw) (va_cwS 2 hts (z_good (zgS wd547 wd363 wd13 wd364)) rfl rfl rfl hd_Ro_copyInto ⟨Nat.le_of_ble_eq_true rfl, Nat.le_of_ble_eq_true rfl⟩) (z_preS hZ hK hT hS) rfl rfl hl.1 rfl (lv_room (Nat.le_of_ble_eq_true rfl)) d_MP_fillMatrix_35 ⟨Nat.le_of_ble_eq_true rfl, Nat.le_of_ble_eq_true rfl⟩) hS (fun M6 N7 H locs hw hZ hS => ?_)
        obtain ⟨hw, eN7⟩ := hw
        rw [eN7] at hZ
        refine lv_aload_n (pc := 38) hx hb d_MP_fillMatrix_38 rfl (lv_at hl 0 rfl) ?_
        refine zg_MP_20 (pc := 39) hx hb hta hown hK hZ d_MP_fillMatrix_39 ?_
        refine lv_iload (pc := 42) hx hb d_MP_fillMatrix_42 (lv_at hl 3 rfl) ?_
        obtain ⟨hc, hw⟩ := hw
        refine z_aald (pc := 44) hx hb hK hZ hc d_MP_fillMatrix_44 ?_
        refine lv_iload (pc := 45) hx hb d_MP_fillMatrix_45 (lv_at hl 3 rfl) ?_
        refine lv_aload_n (pc := 47) hx hb d_MP_fillMatrix_47 rfl (lv_at hl 0 rfl) ?_
        refine zg_MP_20 (pc := 48) hx hb hta hown hK hZ d_MP_fillMatrix_48 ?_
        refine lv_iload (pc := 51) hx hb d_MP_fillMatrix_51 (lv_at hl 3 rfl) ?_
        obtain ⟨hc, hw⟩ := hw
        refine z_aald (pc := 53) hx hb hK hZ hc d_MP_fillMatrix_53 ?_
        refine lv_iload (pc := 54) hx hb d_MP_fillMatrix_54 (lv_at hl 3 rfl) ?_
        obtain ⟨hc, hw⟩ := hw
        refine z_lald (pc := 56) hx hb hK hZ hc d_MP_fillMatrix_56 ?_
        refine lv_lconst (pc := 57) (v := 1) hx hb d_MP_fillMatrix_57 (by decide) ?_
        refine lv_lsub (pc := 58) hx hb d_MP_fillMatrix_58 ?_
        refine lv_lload_n (pc := 59) hx hb d_MP_fillMatrix_59 rfl (lv_at hl 2 rfl) ?_
        refine z_calll (pc := 60) (va_runS (As := [.long ((M6 (27 + 1 + v4.toNatClampNeg) v4.toNatClampNeg) - (1 : Int64)), .long a2]) (rest := [.int v4, .ref (b + (27 + 1 + v4.toNatClampNeg))]) ⟨hx, hb, hml, hown, hts⟩ (c_Re_residue l G b ((M6 (27 + 1 + v4.toNatClampNeg) v4.toNatClampNeg) - (1 : Int64)) a2 M6 N hw) (va_cwS 2 hts (z_good (zgS wd548 wd466 wd18 wd467)) rfl rfl rfl hd_Re_residue ⟨Nat.le_of_ble_eq_true rfl, Nat.le_of_ble_eq_true rfl⟩) (z_preS hZ hK hT hS) rfl rfl hl.1 rfl (lv_room (Nat.le_of_ble_eq_true rfl)) d_MP_fillMatrix_60 ⟨Nat.le_of_ble_eq_true rfl, Nat.le_of_ble_eq_true rfl⟩) hS (fun r8 M9 N10 H locs hw hZ hS => ?_)
        obtain ⟨hw, eM9, eN10⟩ := hw
        rw [eM9, eN10] at hZ
        obtain ⟨hc, hw⟩ := hw
        refine z_last (pc := 63) hx hb hK hZ hS hc d_MP_fillMatrix_63 (fun M11 H locs hM11 hZ hS => ?_)
        have hw := hw M11 hM11
        refine lv_iconst (pc := 64) (v := 0) hx hb d_MP_fillMatrix_64 (by decide) ?_
        refine lv_istore (pc := 65) (lv' := [(5, .int (0 : Int32)), (0, .ref (b + 17)), (1, .int a1), (2, .long a2), (4, .int v4)]) hx hb d_MP_fillMatrix_65 hl (by decide) rfl (fun ls hl => ?_)
        obtain ⟨n, hw⟩ := hw
        exact lp67 v4 n (0 : Int32) M11 _ _ _ hZ hS (lv_sub hl [1, 2, 3, 4, 0] rfl) hw
  unfold w_MP_fillMatrix at hw
  refine lv_aload_n (pc := 0) hx hb d_MP_fillMatrix_0 rfl (lv_at hl 0 rfl) ?_
  refine zg_MP_30 (pc := 1) hx hb hta hown hK hZ d_MP_fillMatrix_1 ?_
  refine lv_lconst (pc := 4) (v := 0) hx hb d_MP_fillMatrix_4 (by decide) ?_
  refine z_callv (pc := 5) (va_runS (As := [.ref (b + 46), .long (0 : Int64)]) (rest := []) ⟨hx, hb, hml, hown, hts⟩ (c_Ar_fillJ l G b 46 (0 : Int64) M N hw) (va_cwS 2 hts (z_good (zgS wd546 wd337 wd14 wd338)) rfl rfl rfl hd_Ar_fillJ ⟨Nat.le_of_ble_eq_true rfl, Nat.le_of_ble_eq_true rfl⟩) (z_preS hZ hK hT hS) rfl rfl hl.1 rfl (lv_room (Nat.le_of_ble_eq_true rfl)) d_MP_fillMatrix_5 ⟨Nat.le_of_ble_eq_true rfl, Nat.le_of_ble_eq_true rfl⟩) hS (fun M2 N3 H locs hw hZ hS => ?_)
  obtain ⟨hw, eN3⟩ := hw
  rw [eN3] at hZ
  refine lv_aload_n (pc := 8) hx hb d_MP_fillMatrix_8 rfl (lv_at hl 0 rfl) ?_
  refine zg_MP_30 (pc := 9) hx hb hta hown hK hZ d_MP_fillMatrix_9 ?_
  refine lv_iconst (pc := 12) (v := 0) hx hb d_MP_fillMatrix_12 (by decide) ?_
  refine lv_lconst (pc := 13) (v := 1) hx hb d_MP_fillMatrix_13 (by decide) ?_
  obtain ⟨hc, hw⟩ := hw
  refine z_last (pc := 14) hx hb hK hZ hS hc d_MP_fillMatrix_14 (fun M4 H locs hM4 hZ hS => ?_)
  have hw := hw M4 hM4
  refine lv_iconst (pc := 15) (v := 0) hx hb d_MP_fillMatrix_15 (by decide) ?_
  refine lv_istore (pc := 16) (lv' := [(4, .int (0 : Int32)), (0, .ref (b + 17)), (1, .int a1), (2, .long a2)]) hx hb d_MP_fillMatrix_16 hl (by decide) rfl (fun ls hl => ?_)
  obtain ⟨n, hw⟩ := hw
  exact lp18  n (0 : Int32) M4 _ _ _ hZ hS (lv_sub hl [1, 2, 3, 0] rfl) hw
theorem d_Ar_fillI_0 : decode prog_20_method_103_code 0 = .ok (.iconst 0, 1) := by decide +kernel
theorem d_Ar_fillI_1 : decode prog_20_method_103_code 1 = .ok (.istore_n 2, 1) := by decide +kernel
theorem d_Ar_fillI_2 : decode prog_20_method_103_code 2 = .ok (.aload_n 0, 1) := by decide +kernel
theorem d_Ar_fillI_3 : decode prog_20_method_103_code 3 = .ok (.arraylength, 1) := by decide +kernel
theorem d_Ar_fillI_4 : decode prog_20_method_103_code 4 = .ok (.istore_n 3, 1) := by decide +kernel
theorem d_Ar_fillI_5 : decode prog_20_method_103_code 5 = .ok (.iload_n 2, 1) := by decide +kernel
theorem d_Ar_fillI_6 : decode prog_20_method_103_code 6 = .ok (.iload_n 3, 1) := by decide +kernel
theorem d_Ar_fillI_7 : decode prog_20_method_103_code 7 = .ok (.if_icmp .ge 13, 3) := by decide +kernel
theorem d_Ar_fillI_10 : decode prog_20_method_103_code 10 = .ok (.aload_n 0, 1) := by decide +kernel
theorem d_Ar_fillI_11 : decode prog_20_method_103_code 11 = .ok (.iload_n 2, 1) := by decide +kernel
theorem d_Ar_fillI_12 : decode prog_20_method_103_code 12 = .ok (.iload_n 1, 1) := by decide +kernel
theorem d_Ar_fillI_13 : decode prog_20_method_103_code 13 = .ok (.iastore, 1) := by decide +kernel
theorem d_Ar_fillI_14 : decode prog_20_method_103_code 14 = .ok (.iinc 2 1, 3) := by decide +kernel
theorem d_Ar_fillI_17 : decode prog_20_method_103_code 17 = .ok (.goto (-12), 3) := by decide +kernel
theorem d_Ar_fillI_20 : decode prog_20_method_103_code 20 = .ok (.return_, 1) := by decide +kernel
theorem z_aleni {p : Program} {l : Launch} {e : Env} {R : Room} {s : State} {m : MethodId} {args : Array Value} {below : List Frame} {meth : Method} {c : Code} {H : Heap} {locs : List Loc} {cells slots : Nat} {Q : State → Prop} {cc : ByteArray} {pc : Nat} {ls : Array Slot} {rest : List Value} {G : zG} {b : Nat} {M : zM} {N : zN} (hx : p.tables.exec = Jvm.exec) (hb : c.code = cc) (hK : va_K G.1 zCl (zty G) s) (hZ : va_P G.1 zCl (zws G b M N) H) {k : Nat} (h0 : 0 < zint k) (hdg : decode cc pc = .ok (.arraylength, 1))
    (kk : W p l e R s m args below meth c H locs cells slots Q (F0 m (pc + 1) ls (.int (Int32.ofNat (zint k)) :: rest))) : W p l e R s m args below meth c H locs cells slots Q (F0 m pc ls (.ref (b + k) :: rest)) :=
  va_alen hx hb hK hZ k 1 (by rw [z_at (zint_lt h0), zc_I h0]) rfl rfl hdg kk
def B_Ar_fillI_5 (P : zN → Prop) (a0 : Nat) (a1 : Int32) (v3 : Int32) (k5 : Int32 → zN → Prop) (v2 : Int32) (N : zN) : Prop := (v3 ≤ v2 → P N) ∧ (¬ v3 ≤ v2 → vp_in v2 (zint a0) ∧ ∀ N2 : zN, N2 = zpui N a0 v2.toNatClampNeg a1 → k5 (v2 + (1 : Int32)) N2)
def L_Ar_fillI_5 (P : zN → Prop) (a0 : Nat) (a1 : Int32) (v3 : Int32) (n : Nat) : Int32 → zN → Prop := Nat.rec (fun _ _ => False) (fun _ k => B_Ar_fillI_5 P a0 a1 v3 k) n
def w_Ar_fillI (a0 : Nat) (a1 : Int32) (N : zN) (P : zN → Prop) : Prop := 0 < zint a0 ∧ ∀ x1 : Int32, x1 = Int32.ofNat (zint a0) → ∃ n, L_Ar_fillI_5 P a0 a1 x1 n (0 : Int32) N
def ws_Ar_fillI : List Cond := .code y_Ar_fillI prog_20_method_103_code 4 (Option.none : Option Jvm.ClassFile.FieldType) :: zall
def rm_Ar_fillI : Room := { frames := 0, cells := 0, slots := 0, locals := 0 }
theorem hd_Ar_fillI : y_Ar_fillI.cls ≠ "java/lang/invoke/MethodHandle" ∧ y_Ar_fillI.cls ≠ "java/lang/invoke/VarHandle" ∧ (parseMethodDescriptor y_Ar_fillI.desc).map (fun d => d.parameters.length) = some 2 := by decide +kernel
set_option maxHeartbeats 4000000 in
set_option maxRecDepth 100000 in
theorem c_Ar_fillI (l : Launch) (G : zG) (b : Nat) (a0 : Nat) (a1 : Int32) (M : zM) (N : zN) {P : zN → Prop} (hw : w_Ar_fillI a0 a1 N P) : Met l y_Ar_fillI ws_Ar_fillI rm_Ar_fillI (zPc G b M N [.ref (b + a0), .int a1]) (zQv G b (fun M' N' => P N' ∧ M' = M)) 0 0 (zA b) := by
  refine Met.ofW (cc := prog_20_method_103_code) (maxL := 4) (ret := (Option.none : Option Jvm.ClassFile.FieldType)) (by decide) rfl ?_
  intro p e s m args below meth c s₁ B hml hv
  obtain ⟨rfl, hZ, hK, hT⟩ := hv
  have hx := B.exec
  have hb := B.bytes
  have hr := B.returns
  have hts := atoms_spec (ws := ws_Ar_fillI) B.pre
  have hta : ∀ w ∈ zall, w.before ([.ref (b + a0), .int a1] : List Value).toArray s = true := fun w h => hts w (List.mem_cons_of_mem _ h)
  have hown : s.vm.findClass R_Ar = some m.cls := findClass_of_methodNamed B.named
  have hlocks := B.notSynchronized
  have hS : va_S (zA b) s.heap s.heap [] := va_S.rf
  have hl := lv_entry ([.ref (b + a0), .int a1]) (n := 4) (Nat.le_of_ble_eq_true rfl)
  rw [lg_entry_eq]
  generalize (lg_sl ([.ref (b + a0), .int a1]) ++ List.replicate (4 - (lg_sl ([.ref (b + a0), .int a1])).length) Slot.unset).toArray = ls at hl ⊢
  have hl : lv_has ls 4 [(0, .ref (b + a0)), (1, .int a1)] := hl
  have lp5 : ∀ (v3 : Int32) (n : Nat) (v2 : Int32) (N : zN) (H : Heap) (ls : Array Slot) (locs : List Loc), va_P G.1 zCl (zws G b M N) H → va_S (zA b) s.heap H locs → lv_has ls 4 [(0, .ref (b + a0)), (1, .int a1), (2, .int v2), (3, .int v3)] → L_Ar_fillI_5 P a0 a1 v3 n v2 N → W p l e (headSpec ws_Ar_fillI rm_Ar_fillI).room s m ([.ref (b + a0), .int a1] : List Value).toArray below meth c H locs 0 0 (MQ below (zQv G b (fun M' N' => P N' ∧ M' = M)) ([.ref (b + a0), .int a1] : List Value).toArray s 0 0 (zA b)) (F0 m 5 ls []) := by
    intro v3 n
    induction n with
    | zero => intro v2 N H ls locs hZ hS hl hw; exact False.elim hw
    | succ n5 ih5 =>
      intro v2 N H ls locs hZ hS hl hw
      have hw : B_Ar_fillI_5 P a0 a1 v3 (L_Ar_fillI_5 P a0 a1 v3 n5) v2 N := hw
      unfold B_Ar_fillI_5 at hw
      refine lv_iload_n (pc := 5) hx hb d_Ar_fillI_5 rfl (lv_at hl 2 rfl) ?_
      refine lv_iload_n (pc := 6) hx hb d_Ar_fillI_6 rfl (lv_at hl 3 rfl) ?_
      refine lv_icmp_ge (pc := 7) (tgt := 20) hx hb d_Ar_fillI_7 (by decide) (fun hc => ?_) (fun hc => ?_)
      · have hw := hw.1 hc
        exact z_vret hx hb hr hlocks hK hT hZ hS ⟨hw, rfl⟩ d_Ar_fillI_20
      · have hw := hw.2 hc
        refine lv_aload_n (pc := 10) hx hb d_Ar_fillI_10 rfl (lv_at hl 0 rfl) ?_
        refine lv_iload_n (pc := 11) hx hb d_Ar_fillI_11 rfl (lv_at hl 2 rfl) ?_
        refine lv_iload_n (pc := 12) hx hb d_Ar_fillI_12 rfl (lv_at hl 1 rfl) ?_
        obtain ⟨hc, hw⟩ := hw
        refine z_iast (pc := 13) hx hb hK hZ hS hc d_Ar_fillI_13 (fun N2 H locs hN2 hZ hS => ?_)
        have hw := hw N2 hN2
        refine lv_iinc (pc := 14) (k := 2) (v := v2 + (1 : Int32)) (lv' := [(2, .int (v2 + (1 : Int32))), (0, .ref (b + a0)), (1, .int a1), (3, .int v3)]) hx hb d_Ar_fillI_14 hl rfl (by rfl) (by decide) rfl (fun ls hl => ?_)
        refine lv_goto (pc := 17) (tgt := 5) hx hb d_Ar_fillI_17 (by decide) ?_
        exact ih5 (v2 + (1 : Int32)) N2 _ _ _ hZ hS (lv_sub hl [1, 2, 0, 3] rfl) hw
  unfold w_Ar_fillI at hw
  refine lv_iconst (pc := 0) (v := 0) hx hb d_Ar_fillI_0 (by decide) ?_
  refine lv_istore_n (pc := 1) (lv' := [(2, .int (0 : Int32)), (0, .ref (b + a0)), (1, .int a1)]) hx hb d_Ar_fillI_1 rfl hl (by decide) rfl (fun ls hl => ?_)
  refine lv_aload_n (pc := 2) hx hb d_Ar_fillI_2 rfl (lv_at hl 1 rfl) ?_
  obtain ⟨hc, hw⟩ := hw
  refine z_aleni (pc := 3) hx hb hK hZ hc d_Ar_fillI_3 ?_
  refine lv_topi (fun x1 hx1 => ?_)
  have hw := hw x1 hx1
  refine lv_istore_n (pc := 4) (lv' := [(3, .int x1), (2, .int (0 : Int32)), (0, .ref (b + a0)), (1, .int a1)]) hx hb d_Ar_fillI_4 rfl hl (by decide) rfl (fun ls hl => ?_)
  obtain ⟨n, hw⟩ := hw
  exact lp5 x1 n (0 : Int32) N _ _ _ hZ hS (lv_sub hl [2, 3, 1, 0] rfl) hw
theorem zg_MP_26 {p : Program} {l : Launch} {e : Env} {R : Room} {s : State} {m : MethodId} {args : Array Value} {below : List Frame} {meth : Method} {c : Code} {H : Heap} {locs : List Loc} {cells slots : Nat} {Q : State → Prop} {cc : ByteArray} {pc : Nat} {ls : Array Slot} {rest : List Value} {G : zG} {b : Nat} {M : zM} {N : zN} (hx : p.tables.exec = Jvm.exec) (hb : c.code = cc) (hta : ∀ w ∈ zall, w.before args s = true) (hown : s.vm.findClass R_MP = some m.cls) (hK : va_K G.1 zCl (zty G) s) (hZ : va_P G.1 zCl (zws G b M N) H) (hdg : decode cc pc = .ok (.getfield 26, 3)) (kk : W p l e R s m args below meth c H locs cells slots Q (F0 m (pc + 3) ls (.ref (b + 45) :: rest))) : W p l e R s m args below meth c H locs cells slots Q (F0 m pc ls (.ref (b + 17) :: rest)) :=
  va_get (D := G.1) (ci := 3) (v := .ref (b + 45)) (C := R_MP) (T := T_MP) (N := 10) hx hb hta hin_MP hown hK hZ 17 zo_MP rfl 4 (by decide) (hta _ wd78) (fun _ h9 => h9) rfl hdg kk
theorem d_MP_freeColumn_0 : decode prog_5_method_6_code 0 = .ok (.iconst 0, 1) := by decide +kernel
theorem d_MP_freeColumn_1 : decode prog_5_method_6_code 1 = .ok (.istore_n 3, 1) := by decide +kernel
theorem d_MP_freeColumn_2 : decode prog_5_method_6_code 2 = .ok (.iload_n 3, 1) := by decide +kernel
theorem d_MP_freeColumn_3 : decode prog_5_method_6_code 3 = .ok (.iload_n 2, 1) := by decide +kernel
theorem d_MP_freeColumn_4 : decode prog_5_method_6_code 4 = .ok (.if_icmp .ge 33, 3) := by decide +kernel
theorem d_MP_freeColumn_7 : decode prog_5_method_6_code 7 = .ok (.aload_n 0, 1) := by decide +kernel
theorem d_MP_freeColumn_8 : decode prog_5_method_6_code 8 = .ok (.getfield 20, 3) := by decide +kernel
theorem d_MP_freeColumn_11 : decode prog_5_method_6_code 11 = .ok (.iload_n 1, 1) := by decide +kernel
theorem d_MP_freeColumn_12 : decode prog_5_method_6_code 12 = .ok (.aaload, 1) := by decide +kernel
theorem d_MP_freeColumn_13 : decode prog_5_method_6_code 13 = .ok (.iload_n 3, 1) := by decide +kernel
theorem d_MP_freeColumn_14 : decode prog_5_method_6_code 14 = .ok (.laload, 1) := by decide +kernel
theorem d_MP_freeColumn_15 : decode prog_5_method_6_code 15 = .ok (.lconst 0, 1) := by decide +kernel
theorem d_MP_freeColumn_16 : decode prog_5_method_6_code 16 = .ok (.lcmp, 1) := by decide +kernel
theorem d_MP_freeColumn_17 : decode prog_5_method_6_code 17 = .ok (.ifCond .eq 14, 3) := by decide +kernel
theorem d_MP_freeColumn_20 : decode prog_5_method_6_code 20 = .ok (.aload_n 0, 1) := by decide +kernel
theorem d_MP_freeColumn_21 : decode prog_5_method_6_code 21 = .ok (.getfield 26, 3) := by decide +kernel
theorem d_MP_freeColumn_24 : decode prog_5_method_6_code 24 = .ok (.iload_n 3, 1) := by decide +kernel
theorem d_MP_freeColumn_25 : decode prog_5_method_6_code 25 = .ok (.iaload, 1) := by decide +kernel
theorem d_MP_freeColumn_26 : decode prog_5_method_6_code 26 = .ok (.ifCond .ge 5, 3) := by decide +kernel
theorem d_MP_freeColumn_29 : decode prog_5_method_6_code 29 = .ok (.iload_n 3, 1) := by decide +kernel
theorem d_MP_freeColumn_30 : decode prog_5_method_6_code 30 = .ok (.ireturn, 1) := by decide +kernel
theorem d_MP_freeColumn_31 : decode prog_5_method_6_code 31 = .ok (.iinc 3 1, 3) := by decide +kernel
theorem d_MP_freeColumn_34 : decode prog_5_method_6_code 34 = .ok (.goto (-32), 3) := by decide +kernel
theorem d_MP_freeColumn_37 : decode prog_5_method_6_code 37 = .ok (.iconst (-1), 1) := by decide +kernel
theorem d_MP_freeColumn_38 : decode prog_5_method_6_code 38 = .ok (.ireturn, 1) := by decide +kernel
def B_MP_freeColumn_2 (P : Int32 → Prop) (a1 : Int32) (a2 : Int32) (M : zM) (N : zN) (k2 : Int32 → Prop) (v3 : Int32) : Prop := (a2 ≤ v3 → P (-1 : Int32)) ∧ (¬ a2 ≤ v3 → vp_in a1 (zgn 27) ∧ vp_in v3 (zlong (27 + 1 + a1.toNatClampNeg)) ∧ ((M (27 + 1 + a1.toNatClampNeg) v3.toNatClampNeg) = (0 : Int64) → k2 (v3 + (1 : Int32))) ∧ (¬ (M (27 + 1 + a1.toNatClampNeg) v3.toNatClampNeg) = (0 : Int64) → vp_in v3 (zint 45) ∧ (0 ≤ (N 45 v3.toNatClampNeg) → k2 (v3 + (1 : Int32))) ∧ (¬ 0 ≤ (N 45 v3.toNatClampNeg) → P v3)))
def L_MP_freeColumn_2 (P : Int32 → Prop) (a1 : Int32) (a2 : Int32) (M : zM) (N : zN) (n : Nat) : Int32 → Prop := Nat.rec (fun _ => False) (fun _ k => B_MP_freeColumn_2 P a1 a2 M N k) n
def w_MP_freeColumn (a1 : Int32) (a2 : Int32) (M : zM) (N : zN) (P : Int32 → Prop) : Prop := ∃ n, L_MP_freeColumn_2 P a1 a2 M N n (0 : Int32)
def ws_MP_freeColumn : List Cond := .code y_MP_freeColumn prog_5_method_6_code 4 (Option.some Jvm.ClassFile.FieldType.int) :: zall
def rm_MP_freeColumn : Room := { frames := 0, cells := 0, slots := 0, locals := 0 }
theorem hd_MP_freeColumn : y_MP_freeColumn.cls ≠ "java/lang/invoke/MethodHandle" ∧ y_MP_freeColumn.cls ≠ "java/lang/invoke/VarHandle" ∧ (parseMethodDescriptor y_MP_freeColumn.desc).map (fun d => d.parameters.length) = some 2 := by decide +kernel
set_option maxHeartbeats 4000000 in
set_option maxRecDepth 100000 in
theorem c_MP_freeColumn (l : Launch) (G : zG) (b : Nat) (a1 : Int32) (a2 : Int32) (M : zM) (N : zN) {P : Int32 → Prop} (hw : w_MP_freeColumn a1 a2 M N P) : Met l y_MP_freeColumn ws_MP_freeColumn rm_MP_freeColumn (zPc G b M N [.ref (b + 17), .int a1, .int a2]) (zQi G b (fun r M' N' => P r ∧ M' = M ∧ N' = N)) 0 0 (zA b) := by
  refine Met.ofW (cc := prog_5_method_6_code) (maxL := 4) (ret := (Option.some Jvm.ClassFile.FieldType.int)) (by decide) rfl ?_
  intro p e s m args below meth c s₁ B hml hv
  obtain ⟨rfl, hZ, hK, hT⟩ := hv
  have hx := B.exec
  have hb := B.bytes
  have hr := B.returns
  have hts := atoms_spec (ws := ws_MP_freeColumn) B.pre
  have hta : ∀ w ∈ zall, w.before ([.ref (b + 17), .int a1, .int a2] : List Value).toArray s = true := fun w h => hts w (List.mem_cons_of_mem _ h)
  have hown : s.vm.findClass R_MP = some m.cls := findClass_of_methodNamed B.named
  have hlocks := B.notSynchronized
  have hS : va_S (zA b) s.heap s.heap [] := va_S.rf
  have hl := lv_entry ([.ref (b + 17), .int a1, .int a2]) (n := 4) (Nat.le_of_ble_eq_true rfl)
  rw [lg_entry_eq]
  generalize (lg_sl ([.ref (b + 17), .int a1, .int a2]) ++ List.replicate (4 - (lg_sl ([.ref (b + 17), .int a1, .int a2])).length) Slot.unset).toArray = ls at hl ⊢
  have hl : lv_has ls 4 [(0, .ref (b + 17)), (1, .int a1), (2, .int a2)] := hl
  have lp2 : ∀ (n : Nat) (v3 : Int32) (H : Heap) (ls : Array Slot) (locs : List Loc), va_P G.1 zCl (zws G b M N) H → va_S (zA b) s.heap H locs → lv_has ls 4 [(0, .ref (b + 17)), (1, .int a1), (2, .int a2), (3, .int v3)] → L_MP_freeColumn_2 P a1 a2 M N n v3 → W p l e (headSpec ws_MP_freeColumn rm_MP_freeColumn).room s m ([.ref (b + 17), .int a1, .int a2] : List Value).toArray below meth c H locs 0 0 (MQ below (zQi G b (fun r M' N' => P r ∧ M' = M ∧ N' = N)) ([.ref (b + 17), .int a1, .int a2] : List Value).toArray s 0 0 (zA b)) (F0 m 2 ls []) := by
    intro  n
    induction n with
    | zero => intro v3 H ls locs hZ hS hl hw; exact False.elim hw
    | succ n2 ih2 =>
      intro v3 H ls locs hZ hS hl hw
      have hw : B_MP_freeColumn_2 P a1 a2 M N (L_MP_freeColumn_2 P a1 a2 M N n2) v3 := hw
      unfold B_MP_freeColumn_2 at hw
      refine lv_iload_n (pc := 2) hx hb d_MP_freeColumn_2 rfl (lv_at hl 3 rfl) ?_
      refine lv_iload_n (pc := 3) hx hb d_MP_freeColumn_3 rfl (lv_at hl 2 rfl) ?_
      refine lv_icmp_ge (pc := 4) (tgt := 37) hx hb d_MP_freeColumn_4 (by decide) (fun hc => ?_) (fun hc => ?_)
      · have hw := hw.1 hc
        refine lv_iconst (pc := 37) (v := -1) hx hb d_MP_freeColumn_37 (by decide) ?_
        exact z_iret hx hb hr hlocks hK hT hZ hS ⟨hw, rfl, rfl⟩ d_MP_freeColumn_38
      · have hw := hw.2 hc
        refine lv_aload_n (pc := 7) hx hb d_MP_freeColumn_7 rfl (lv_at hl 0 rfl) ?_
        refine zg_MP_20 (pc := 8) hx hb hta hown hK hZ d_MP_freeColumn_8 ?_
        refine lv_iload_n (pc := 11) hx hb d_MP_freeColumn_11 rfl (lv_at hl 1 rfl) ?_
        obtain ⟨hc, hw⟩ := hw
        refine z_aald (pc := 12) hx hb hK hZ hc d_MP_freeColumn_12 ?_
        refine lv_iload_n (pc := 13) hx hb d_MP_freeColumn_13 rfl (lv_at hl 3 rfl) ?_
        obtain ⟨hc, hw⟩ := hw
        refine z_lald (pc := 14) hx hb hK hZ hc d_MP_freeColumn_14 ?_
        refine lv_lconst (pc := 15) (v := 0) hx hb d_MP_freeColumn_15 (by decide) ?_
        refine z_lc_eq (pc := 16) (tgt := 31) hx hb d_MP_freeColumn_16 d_MP_freeColumn_17 (by decide) (fun hc => ?_) (fun hc => ?_)
        · have hw := hw.1 hc
          refine lv_iinc (pc := 31) (k := 3) (v := v3 + (1 : Int32)) (lv' := [(3, .int (v3 + (1 : Int32))), (0, .ref (b + 17)), (1, .int a1), (2, .int a2)]) hx hb d_MP_freeColumn_31 hl rfl (by rfl) (by decide) rfl (fun ls hl => ?_)
          refine lv_goto (pc := 34) (tgt := 2) hx hb d_MP_freeColumn_34 (by decide) ?_
          exact ih2 (v3 + (1 : Int32)) _ _ _ hZ hS (lv_sub hl [1, 2, 3, 0] rfl) hw
        · have hw := hw.2 hc
          refine lv_aload_n (pc := 20) hx hb d_MP_freeColumn_20 rfl (lv_at hl 0 rfl) ?_
          refine zg_MP_26 (pc := 21) hx hb hta hown hK hZ d_MP_freeColumn_21 ?_
          refine lv_iload_n (pc := 24) hx hb d_MP_freeColumn_24 rfl (lv_at hl 3 rfl) ?_
          obtain ⟨hc, hw⟩ := hw
          refine z_iald (pc := 25) hx hb hK hZ hc d_MP_freeColumn_25 ?_
          refine lv_if_ge (pc := 26) (tgt := 31) hx hb d_MP_freeColumn_26 (by decide) (fun hc => ?_) (fun hc => ?_)
          · have hw := hw.1 hc
            refine lv_iinc (pc := 31) (k := 3) (v := v3 + (1 : Int32)) (lv' := [(3, .int (v3 + (1 : Int32))), (0, .ref (b + 17)), (1, .int a1), (2, .int a2)]) hx hb d_MP_freeColumn_31 hl rfl (by rfl) (by decide) rfl (fun ls hl => ?_)
            refine lv_goto (pc := 34) (tgt := 2) hx hb d_MP_freeColumn_34 (by decide) ?_
            exact ih2 (v3 + (1 : Int32)) _ _ _ hZ hS (lv_sub hl [1, 2, 3, 0] rfl) hw
          · have hw := hw.2 hc
            refine lv_iload_n (pc := 29) hx hb d_MP_freeColumn_29 rfl (lv_at hl 3 rfl) ?_
            exact z_iret hx hb hr hlocks hK hT hZ hS ⟨hw, rfl, rfl⟩ d_MP_freeColumn_30
  unfold w_MP_freeColumn at hw
  refine lv_iconst (pc := 0) (v := 0) hx hb d_MP_freeColumn_0 (by decide) ?_
  refine lv_istore_n (pc := 1) (lv' := [(3, .int (0 : Int32)), (0, .ref (b + 17)), (1, .int a1), (2, .int a2)]) hx hb d_MP_freeColumn_1 rfl hl (by decide) rfl (fun ls hl => ?_)
  obtain ⟨n, hw⟩ := hw
  exact lp2  n (0 : Int32) _ _ _ hZ hS (lv_sub hl [1, 2, 3, 0] rfl) hw
theorem zg_MP_23 {p : Program} {l : Launch} {e : Env} {R : Room} {s : State} {m : MethodId} {args : Array Value} {below : List Frame} {meth : Method} {c : Code} {H : Heap} {locs : List Loc} {cells slots : Nat} {Q : State → Prop} {cc : ByteArray} {pc : Nat} {ls : Array Slot} {rest : List Value} {G : zG} {b : Nat} {M : zM} {N : zN} (hx : p.tables.exec = Jvm.exec) (hb : c.code = cc) (hta : ∀ w ∈ zall, w.before args s = true) (hown : s.vm.findClass R_MP = some m.cls) (hK : va_K G.1 zCl (zty G) s) (hZ : va_P G.1 zCl (zws G b M N) H) (hdg : decode cc pc = .ok (.getfield 23, 3)) (kk : W p l e R s m args below meth c H locs cells slots Q (F0 m (pc + 3) ls (.ref (b + 36) :: rest))) : W p l e R s m args below meth c H locs cells slots Q (F0 m pc ls (.ref (b + 17) :: rest)) :=
  va_get (D := G.1) (ci := 3) (v := .ref (b + 36)) (C := R_MP) (T := T_MP) (N := 10) hx hb hta hin_MP hown hK hZ 17 zo_MP rfl 3 (by decide) (hta _ wd77) (fun _ h9 => h9) rfl hdg kk
theorem d_MP_fillKernelRow_0 : decode prog_5_method_7_code 0 = .ok (.aload_n 0, 1) := by decide +kernel
theorem d_MP_fillKernelRow_1 : decode prog_5_method_7_code 1 = .ok (.getfield 23, 3) := by decide +kernel
theorem d_MP_fillKernelRow_4 : decode prog_5_method_7_code 4 = .ok (.iload_n 1, 1) := by decide +kernel
theorem d_MP_fillKernelRow_5 : decode prog_5_method_7_code 5 = .ok (.aaload, 1) := by decide +kernel
theorem d_MP_fillKernelRow_6 : decode prog_5_method_7_code 6 = .ok (.lconst 0, 1) := by decide +kernel
theorem d_MP_fillKernelRow_7 : decode prog_5_method_7_code 7 = .ok (.invokestatic 82, 3) := by decide +kernel
theorem d_MP_fillKernelRow_10 : decode prog_5_method_7_code 10 = .ok (.aload_n 0, 1) := by decide +kernel
theorem d_MP_fillKernelRow_11 : decode prog_5_method_7_code 11 = .ok (.getfield 23, 3) := by decide +kernel
theorem d_MP_fillKernelRow_14 : decode prog_5_method_7_code 14 = .ok (.iload_n 1, 1) := by decide +kernel
theorem d_MP_fillKernelRow_15 : decode prog_5_method_7_code 15 = .ok (.aaload, 1) := by decide +kernel
theorem d_MP_fillKernelRow_16 : decode prog_5_method_7_code 16 = .ok (.iload_n 2, 1) := by decide +kernel
theorem d_MP_fillKernelRow_17 : decode prog_5_method_7_code 17 = .ok (.lconst 1, 1) := by decide +kernel
theorem d_MP_fillKernelRow_18 : decode prog_5_method_7_code 18 = .ok (.lastore, 1) := by decide +kernel
theorem d_MP_fillKernelRow_19 : decode prog_5_method_7_code 19 = .ok (.iconst 0, 1) := by decide +kernel
theorem d_MP_fillKernelRow_20 : decode prog_5_method_7_code 20 = .ok (.istore 4, 2) := by decide +kernel
theorem d_MP_fillKernelRow_22 : decode prog_5_method_7_code 22 = .ok (.iload 4, 2) := by decide +kernel
theorem d_MP_fillKernelRow_24 : decode prog_5_method_7_code 24 = .ok (.iload_n 3, 1) := by decide +kernel
theorem d_MP_fillKernelRow_25 : decode prog_5_method_7_code 25 = .ok (.if_icmp .ge 42, 3) := by decide +kernel
theorem d_MP_fillKernelRow_28 : decode prog_5_method_7_code 28 = .ok (.aload_n 0, 1) := by decide +kernel
theorem d_MP_fillKernelRow_29 : decode prog_5_method_7_code 29 = .ok (.getfield 26, 3) := by decide +kernel
theorem d_MP_fillKernelRow_32 : decode prog_5_method_7_code 32 = .ok (.iload 4, 2) := by decide +kernel
theorem d_MP_fillKernelRow_34 : decode prog_5_method_7_code 34 = .ok (.iaload, 1) := by decide +kernel
theorem d_MP_fillKernelRow_35 : decode prog_5_method_7_code 35 = .ok (.ifCond .lt 26, 3) := by decide +kernel
theorem d_MP_fillKernelRow_38 : decode prog_5_method_7_code 38 = .ok (.aload_n 0, 1) := by decide +kernel
theorem d_MP_fillKernelRow_39 : decode prog_5_method_7_code 39 = .ok (.getfield 23, 3) := by decide +kernel
theorem d_MP_fillKernelRow_42 : decode prog_5_method_7_code 42 = .ok (.iload_n 1, 1) := by decide +kernel
theorem d_MP_fillKernelRow_43 : decode prog_5_method_7_code 43 = .ok (.aaload, 1) := by decide +kernel
theorem d_MP_fillKernelRow_44 : decode prog_5_method_7_code 44 = .ok (.aload_n 0, 1) := by decide +kernel
theorem d_MP_fillKernelRow_45 : decode prog_5_method_7_code 45 = .ok (.getfield 26, 3) := by decide +kernel
theorem d_MP_fillKernelRow_48 : decode prog_5_method_7_code 48 = .ok (.iload 4, 2) := by decide +kernel
theorem d_MP_fillKernelRow_50 : decode prog_5_method_7_code 50 = .ok (.iaload, 1) := by decide +kernel
theorem d_MP_fillKernelRow_51 : decode prog_5_method_7_code 51 = .ok (.aload_n 0, 1) := by decide +kernel
theorem d_MP_fillKernelRow_52 : decode prog_5_method_7_code 52 = .ok (.getfield 20, 3) := by decide +kernel
theorem d_MP_fillKernelRow_55 : decode prog_5_method_7_code 55 = .ok (.iload_n 2, 1) := by decide +kernel
theorem d_MP_fillKernelRow_56 : decode prog_5_method_7_code 56 = .ok (.aaload, 1) := by decide +kernel
theorem d_MP_fillKernelRow_57 : decode prog_5_method_7_code 57 = .ok (.iload 4, 2) := by decide +kernel
theorem d_MP_fillKernelRow_59 : decode prog_5_method_7_code 59 = .ok (.laload, 1) := by decide +kernel
theorem d_MP_fillKernelRow_60 : decode prog_5_method_7_code 60 = .ok (.lastore, 1) := by decide +kernel
theorem d_MP_fillKernelRow_61 : decode prog_5_method_7_code 61 = .ok (.iinc 4 1, 3) := by decide +kernel
theorem d_MP_fillKernelRow_64 : decode prog_5_method_7_code 64 = .ok (.goto (-42), 3) := by decide +kernel
theorem d_MP_fillKernelRow_67 : decode prog_5_method_7_code 67 = .ok (.return_, 1) := by decide +kernel
def B_MP_fillKernelRow_22 (P : zM → Prop) (a1 : Int32) (a2 : Int32) (a3 : Int32) (N : zN) (k22 : Int32 → zM → Prop) (v4 : Int32) (M : zM) : Prop := (a3 ≤ v4 → P M) ∧ (¬ a3 ≤ v4 → vp_in v4 (zint 45) ∧ ((N 45 v4.toNatClampNeg) < 0 → k22 (v4 + (1 : Int32)) M) ∧ (¬ (N 45 v4.toNatClampNeg) < 0 → vp_in a1 (zgn 36) ∧ vp_in v4 (zint 45) ∧ vp_in a2 (zgn 27) ∧ vp_in v4 (zlong (27 + 1 + a2.toNatClampNeg)) ∧ vp_in (N 45 v4.toNatClampNeg) (zlong (36 + 1 + a1.toNatClampNeg)) ∧ ∀ M5 : zM, M5 = zput M (36 + 1 + a1.toNatClampNeg) (N 45 v4.toNatClampNeg).toNatClampNeg (M (27 + 1 + a2.toNatClampNeg) v4.toNatClampNeg) → k22 (v4 + (1 : Int32)) M5))
def L_MP_fillKernelRow_22 (P : zM → Prop) (a1 : Int32) (a2 : Int32) (a3 : Int32) (N : zN) (n : Nat) : Int32 → zM → Prop := Nat.rec (fun _ _ => False) (fun _ k => B_MP_fillKernelRow_22 P a1 a2 a3 N k) n
def w_MP_fillKernelRow (a1 : Int32) (a2 : Int32) (a3 : Int32) (M : zM) (N : zN) (P : zM → Prop) : Prop := vp_in a1 (zgn 36) ∧ w_Ar_fillJ (36 + 1 + a1.toNatClampNeg) (0 : Int64) M (fun M2 => vp_in a1 (zgn 36) ∧ vp_in a2 (zlong (36 + 1 + a1.toNatClampNeg)) ∧ ∀ M4 : zM, M4 = zput M2 (36 + 1 + a1.toNatClampNeg) a2.toNatClampNeg (1 : Int64) → ∃ n, L_MP_fillKernelRow_22 P a1 a2 a3 N n (0 : Int32) M4)
def ws_MP_fillKernelRow : List Cond := .code y_MP_fillKernelRow prog_5_method_7_code 5 (Option.none : Option Jvm.ClassFile.FieldType) :: zall
def rm_MP_fillKernelRow : Room := { frames := 1, cells := 0, slots := 0, locals := 24 }
theorem hd_MP_fillKernelRow : y_MP_fillKernelRow.cls ≠ "java/lang/invoke/MethodHandle" ∧ y_MP_fillKernelRow.cls ≠ "java/lang/invoke/VarHandle" ∧ (parseMethodDescriptor y_MP_fillKernelRow.desc).map (fun d => d.parameters.length) = some 3 := by decide +kernel
set_option maxHeartbeats 4000000 in
set_option maxRecDepth 100000 in
theorem c_MP_fillKernelRow (l : Launch) (G : zG) (b : Nat) (a1 : Int32) (a2 : Int32) (a3 : Int32) (M : zM) (N : zN) {P : zM → Prop} (hw : w_MP_fillKernelRow a1 a2 a3 M N P) : Met l y_MP_fillKernelRow ws_MP_fillKernelRow rm_MP_fillKernelRow (zPc G b M N [.ref (b + 17), .int a1, .int a2, .int a3]) (zQv G b (fun M' N' => P M' ∧ N' = N)) 0 0 (zA b) := by
  refine Met.ofW (cc := prog_5_method_7_code) (maxL := 5) (ret := (Option.none : Option Jvm.ClassFile.FieldType)) (by decide) rfl ?_
  intro p e s m args below meth c s₁ B hml hv
  obtain ⟨rfl, hZ, hK, hT⟩ := hv
  have hx := B.exec
  have hb := B.bytes
  have hr := B.returns
  have hts := atoms_spec (ws := ws_MP_fillKernelRow) B.pre
  have hta : ∀ w ∈ zall, w.before ([.ref (b + 17), .int a1, .int a2, .int a3] : List Value).toArray s = true := fun w h => hts w (List.mem_cons_of_mem _ h)
  have hown : s.vm.findClass R_MP = some m.cls := findClass_of_methodNamed B.named
  have hlocks := B.notSynchronized
  have hS : va_S (zA b) s.heap s.heap [] := va_S.rf
  have hl := lv_entry ([.ref (b + 17), .int a1, .int a2, .int a3]) (n := 5) (Nat.le_of_ble_eq_true rfl)
  rw [lg_entry_eq]
  generalize (lg_sl ([.ref (b + 17), .int a1, .int a2, .int a3]) ++ List.replicate (5 - (lg_sl ([.ref (b + 17), .int a1, .int a2, .int a3])).length) Slot.unset).toArray = ls at hl ⊢
  have hl : lv_has ls 5 [(0, .ref (b + 17)), (1, .int a1), (2, .int a2), (3, .int a3)] := hl
  have lp22 : ∀ (n : Nat) (v4 : Int32) (M : zM) (H : Heap) (ls : Array Slot) (locs : List Loc), va_P G.1 zCl (zws G b M N) H → va_S (zA b) s.heap H locs → lv_has ls 5 [(0, .ref (b + 17)), (1, .int a1), (2, .int a2), (3, .int a3), (4, .int v4)] → L_MP_fillKernelRow_22 P a1 a2 a3 N n v4 M → W p l e (headSpec ws_MP_fillKernelRow rm_MP_fillKernelRow).room s m ([.ref (b + 17), .int a1, .int a2, .int a3] : List Value).toArray below meth c H locs 0 0 (MQ below (zQv G b (fun M' N' => P M' ∧ N' = N)) ([.ref (b + 17), .int a1, .int a2, .int a3] : List Value).toArray s 0 0 (zA b)) (F0 m 22 ls []) := by
    intro  n
    induction n with
    | zero => intro v4 M H ls locs hZ hS hl hw; exact False.elim hw
    | succ n22 ih22 =>
      intro v4 M H ls locs hZ hS hl hw
      have hw : B_MP_fillKernelRow_22 P a1 a2 a3 N (L_MP_fillKernelRow_22 P a1 a2 a3 N n22) v4 M := hw
      unfold B_MP_fillKernelRow_22 at hw
      refine lv_iload (pc := 22) hx hb d_MP_fillKernelRow_22 (lv_at hl 4 rfl) ?_
      refine lv_iload_n (pc := 24) hx hb d_MP_fillKernelRow_24 rfl (lv_at hl 3 rfl) ?_
      refine lv_icmp_ge (pc := 25) (tgt := 67) hx hb d_MP_fillKernelRow_25 (by decide) (fun hc => ?_) (fun hc => ?_)
      · have hw := hw.1 hc
        exact z_vret hx hb hr hlocks hK hT hZ hS ⟨hw, rfl⟩ d_MP_fillKernelRow_67
      · have hw := hw.2 hc
        refine lv_aload_n (pc := 28) hx hb d_MP_fillKernelRow_28 rfl (lv_at hl 0 rfl) ?_
        refine zg_MP_26 (pc := 29) hx hb hta hown hK hZ d_MP_fillKernelRow_29 ?_
        refine lv_iload (pc := 32) hx hb d_MP_fillKernelRow_32 (lv_at hl 4 rfl) ?_
        obtain ⟨hc, hw⟩ := hw
        refine z_iald (pc := 34) hx hb hK hZ hc d_MP_fillKernelRow_34 ?_
        refine lv_if_lt (pc := 35) (tgt := 61) hx hb d_MP_fillKernelRow_35 (by decide) (fun hc => ?_) (fun hc => ?_)
        · have hw := hw.1 hc
          refine lv_iinc (pc := 61) (k := 4) (v := v4 + (1 : Int32)) (lv' := [(4, .int (v4 + (1 : Int32))), (0, .ref (b + 17)), (1, .int a1), (2, .int a2), (3, .int a3)]) hx hb d_MP_fillKernelRow_61 hl rfl (by rfl) (by decide) rfl (fun ls hl => ?_)
          refine lv_goto (pc := 64) (tgt := 22) hx hb d_MP_fillKernelRow_64 (by decide) ?_
          exact ih22 (v4 + (1 : Int32)) M _ _ _ hZ hS (lv_sub hl [1, 2, 3, 4, 0] rfl) hw
        · have hw := hw.2 hc
          refine lv_aload_n (pc := 38) hx hb d_MP_fillKernelRow_38 rfl (lv_at hl 0 rfl) ?_
          refine zg_MP_23 (pc := 39) hx hb hta hown hK hZ d_MP_fillKernelRow_39 ?_
          refine lv_iload_n (pc := 42) hx hb d_MP_fillKernelRow_42 rfl (lv_at hl 1 rfl) ?_
          obtain ⟨hc, hw⟩ := hw
          refine z_aald (pc := 43) hx hb hK hZ hc d_MP_fillKernelRow_43 ?_
          refine lv_aload_n (pc := 44) hx hb d_MP_fillKernelRow_44 rfl (lv_at hl 0 rfl) ?_
          refine zg_MP_26 (pc := 45) hx hb hta hown hK hZ d_MP_fillKernelRow_45 ?_
          refine lv_iload (pc := 48) hx hb d_MP_fillKernelRow_48 (lv_at hl 4 rfl) ?_
          obtain ⟨hc, hw⟩ := hw
          refine z_iald (pc := 50) hx hb hK hZ hc d_MP_fillKernelRow_50 ?_
          refine lv_aload_n (pc := 51) hx hb d_MP_fillKernelRow_51 rfl (lv_at hl 0 rfl) ?_
          refine zg_MP_20 (pc := 52) hx hb hta hown hK hZ d_MP_fillKernelRow_52 ?_
          refine lv_iload_n (pc := 55) hx hb d_MP_fillKernelRow_55 rfl (lv_at hl 2 rfl) ?_
          obtain ⟨hc, hw⟩ := hw
          refine z_aald (pc := 56) hx hb hK hZ hc d_MP_fillKernelRow_56 ?_
          refine lv_iload (pc := 57) hx hb d_MP_fillKernelRow_57 (lv_at hl 4 rfl) ?_
          obtain ⟨hc, hw⟩ := hw
          refine z_lald (pc := 59) hx hb hK hZ hc d_MP_fillKernelRow_59 ?_
          obtain ⟨hc, hw⟩ := hw
          refine z_last (pc := 60) hx hb hK hZ hS hc d_MP_fillKernelRow_60 (fun M5 H locs hM5 hZ hS => ?_)
          have hw := hw M5 hM5
          refine lv_iinc (pc := 61) (k := 4) (v := v4 + (1 : Int32)) (lv' := [(4, .int (v4 + (1 : Int32))), (0, .ref (b + 17)), (1, .int a1), (2, .int a2), (3, .int a3)]) hx hb d_MP_fillKernelRow_61 hl rfl (by rfl) (by decide) rfl (fun ls hl => ?_)
          refine lv_goto (pc := 64) (tgt := 22) hx hb d_MP_fillKernelRow_64 (by decide) ?_
          exact ih22 (v4 + (1 : Int32)) M5 _ _ _ hZ hS (lv_sub hl [1, 2, 3, 4, 0] rfl) hw
  unfold w_MP_fillKernelRow at hw
  refine lv_aload_n (pc := 0) hx hb d_MP_fillKernelRow_0 rfl (lv_at hl 0 rfl) ?_
  refine zg_MP_23 (pc := 1) hx hb hta hown hK hZ d_MP_fillKernelRow_1 ?_
  refine lv_iload_n (pc := 4) hx hb d_MP_fillKernelRow_4 rfl (lv_at hl 1 rfl) ?_
  obtain ⟨hc, hw⟩ := hw
  refine z_aald (pc := 5) hx hb hK hZ hc d_MP_fillKernelRow_5 ?_
  refine lv_lconst (pc := 6) (v := 0) hx hb d_MP_fillKernelRow_6 (by decide) ?_
  refine z_callv (pc := 7) (va_runS (As := [.ref (b + (36 + 1 + a1.toNatClampNeg)), .long (0 : Int64)]) (rest := []) ⟨hx, hb, hml, hown, hts⟩ (c_Ar_fillJ l G b (36 + 1 + a1.toNatClampNeg) (0 : Int64) M N hw) (va_cwS 2 hts (z_good (zgS wd546 wd337 wd14 wd338)) rfl rfl rfl hd_Ar_fillJ ⟨Nat.le_of_ble_eq_true rfl, Nat.le_of_ble_eq_true rfl⟩) (z_preS hZ hK hT hS) rfl rfl hl.1 rfl (lv_room (Nat.le_of_ble_eq_true rfl)) d_MP_fillKernelRow_7 ⟨Nat.le_of_ble_eq_true rfl, Nat.le_of_ble_eq_true rfl⟩) hS (fun M2 N3 H locs hw hZ hS => ?_)
  obtain ⟨hw, eN3⟩ := hw
  rw [eN3] at hZ
  refine lv_aload_n (pc := 10) hx hb d_MP_fillKernelRow_10 rfl (lv_at hl 0 rfl) ?_
  refine zg_MP_23 (pc := 11) hx hb hta hown hK hZ d_MP_fillKernelRow_11 ?_
  refine lv_iload_n (pc := 14) hx hb d_MP_fillKernelRow_14 rfl (lv_at hl 1 rfl) ?_
  obtain ⟨hc, hw⟩ := hw
  refine z_aald (pc := 15) hx hb hK hZ hc d_MP_fillKernelRow_15 ?_
  refine lv_iload_n (pc := 16) hx hb d_MP_fillKernelRow_16 rfl (lv_at hl 2 rfl) ?_
  refine lv_lconst (pc := 17) (v := 1) hx hb d_MP_fillKernelRow_17 (by decide) ?_
  obtain ⟨hc, hw⟩ := hw
  refine z_last (pc := 18) hx hb hK hZ hS hc d_MP_fillKernelRow_18 (fun M4 H locs hM4 hZ hS => ?_)
  have hw := hw M4 hM4
  refine lv_iconst (pc := 19) (v := 0) hx hb d_MP_fillKernelRow_19 (by decide) ?_
  refine lv_istore (pc := 20) (lv' := [(4, .int (0 : Int32)), (0, .ref (b + 17)), (1, .int a1), (2, .int a2), (3, .int a3)]) hx hb d_MP_fillKernelRow_20 hl (by decide) rfl (fun ls hl => ?_)
  obtain ⟨n, hw⟩ := hw
  exact lp22  n (0 : Int32) M4 _ _ _ hZ hS (lv_sub hl [1, 2, 3, 4, 0] rfl) hw
theorem d_MP_clearRow_0 : decode prog_5_method_8_code 0 = .ok (.aload_n 0, 1) := by decide +kernel
theorem d_MP_clearRow_1 : decode prog_5_method_8_code 1 = .ok (.getfield 20, 3) := by decide +kernel
theorem d_MP_clearRow_4 : decode prog_5_method_8_code 4 = .ok (.iload_n 1, 1) := by decide +kernel
theorem d_MP_clearRow_5 : decode prog_5_method_8_code 5 = .ok (.aaload, 1) := by decide +kernel
theorem d_MP_clearRow_6 : decode prog_5_method_8_code 6 = .ok (.iload_n 2, 1) := by decide +kernel
theorem d_MP_clearRow_7 : decode prog_5_method_8_code 7 = .ok (.laload, 1) := by decide +kernel
theorem d_MP_clearRow_8 : decode prog_5_method_8_code 8 = .ok (.lload 4, 2) := by decide +kernel
theorem d_MP_clearRow_10 : decode prog_5_method_8_code 10 = .ok (.invokestatic 110, 3) := by decide +kernel
theorem d_MP_clearRow_13 : decode prog_5_method_8_code 13 = .ok (.lneg, 1) := by decide +kernel
theorem d_MP_clearRow_14 : decode prog_5_method_8_code 14 = .ok (.lload 4, 2) := by decide +kernel
theorem d_MP_clearRow_16 : decode prog_5_method_8_code 16 = .ok (.invokestatic 87, 3) := by decide +kernel
theorem d_MP_clearRow_19 : decode prog_5_method_8_code 19 = .ok (.lstore 6, 2) := by decide +kernel
theorem d_MP_clearRow_21 : decode prog_5_method_8_code 21 = .ok (.iload_n 1, 1) := by decide +kernel
theorem d_MP_clearRow_22 : decode prog_5_method_8_code 22 = .ok (.istore 8, 2) := by decide +kernel
theorem d_MP_clearRow_24 : decode prog_5_method_8_code 24 = .ok (.iload 8, 2) := by decide +kernel
theorem d_MP_clearRow_26 : decode prog_5_method_8_code 26 = .ok (.iload_n 3, 1) := by decide +kernel
theorem d_MP_clearRow_27 : decode prog_5_method_8_code 27 = .ok (.if_icmp .ge 35, 3) := by decide +kernel
theorem d_MP_clearRow_30 : decode prog_5_method_8_code 30 = .ok (.aload_n 0, 1) := by decide +kernel
theorem d_MP_clearRow_31 : decode prog_5_method_8_code 31 = .ok (.getfield 20, 3) := by decide +kernel
theorem d_MP_clearRow_34 : decode prog_5_method_8_code 34 = .ok (.iload 8, 2) := by decide +kernel
theorem d_MP_clearRow_36 : decode prog_5_method_8_code 36 = .ok (.aaload, 1) := by decide +kernel
theorem d_MP_clearRow_37 : decode prog_5_method_8_code 37 = .ok (.iload_n 2, 1) := by decide +kernel
theorem d_MP_clearRow_38 : decode prog_5_method_8_code 38 = .ok (.aload_n 0, 1) := by decide +kernel
theorem d_MP_clearRow_39 : decode prog_5_method_8_code 39 = .ok (.getfield 20, 3) := by decide +kernel
theorem d_MP_clearRow_42 : decode prog_5_method_8_code 42 = .ok (.iload 8, 2) := by decide +kernel
theorem d_MP_clearRow_44 : decode prog_5_method_8_code 44 = .ok (.aaload, 1) := by decide +kernel
theorem d_MP_clearRow_45 : decode prog_5_method_8_code 45 = .ok (.iload_n 2, 1) := by decide +kernel
theorem d_MP_clearRow_46 : decode prog_5_method_8_code 46 = .ok (.laload, 1) := by decide +kernel
theorem d_MP_clearRow_47 : decode prog_5_method_8_code 47 = .ok (.lload 6, 2) := by decide +kernel
theorem d_MP_clearRow_49 : decode prog_5_method_8_code 49 = .ok (.lmul, 1) := by decide +kernel
theorem d_MP_clearRow_50 : decode prog_5_method_8_code 50 = .ok (.lload 4, 2) := by decide +kernel
theorem d_MP_clearRow_52 : decode prog_5_method_8_code 52 = .ok (.invokestatic 87, 3) := by decide +kernel
theorem d_MP_clearRow_55 : decode prog_5_method_8_code 55 = .ok (.lastore, 1) := by decide +kernel
theorem d_MP_clearRow_56 : decode prog_5_method_8_code 56 = .ok (.iinc 8 1, 3) := by decide +kernel
theorem d_MP_clearRow_59 : decode prog_5_method_8_code 59 = .ok (.goto (-35), 3) := by decide +kernel
theorem d_MP_clearRow_62 : decode prog_5_method_8_code 62 = .ok (.iconst 0, 1) := by decide +kernel
theorem d_MP_clearRow_63 : decode prog_5_method_8_code 63 = .ok (.istore 8, 2) := by decide +kernel
theorem d_MP_clearRow_65 : decode prog_5_method_8_code 65 = .ok (.iload 8, 2) := by decide +kernel
theorem d_MP_clearRow_67 : decode prog_5_method_8_code 67 = .ok (.iload_n 3, 1) := by decide +kernel
theorem d_MP_clearRow_68 : decode prog_5_method_8_code 68 = .ok (.if_icmp .ge 86, 3) := by decide +kernel
theorem d_MP_clearRow_71 : decode prog_5_method_8_code 71 = .ok (.aload_n 0, 1) := by decide +kernel
theorem d_MP_clearRow_72 : decode prog_5_method_8_code 72 = .ok (.getfield 20, 3) := by decide +kernel
theorem d_MP_clearRow_75 : decode prog_5_method_8_code 75 = .ok (.iload_n 1, 1) := by decide +kernel
theorem d_MP_clearRow_76 : decode prog_5_method_8_code 76 = .ok (.aaload, 1) := by decide +kernel
theorem d_MP_clearRow_77 : decode prog_5_method_8_code 77 = .ok (.iload 8, 2) := by decide +kernel
theorem d_MP_clearRow_79 : decode prog_5_method_8_code 79 = .ok (.laload, 1) := by decide +kernel
theorem d_MP_clearRow_80 : decode prog_5_method_8_code 80 = .ok (.lstore 9, 2) := by decide +kernel
theorem d_MP_clearRow_82 : decode prog_5_method_8_code 82 = .ok (.iload 8, 2) := by decide +kernel
theorem d_MP_clearRow_84 : decode prog_5_method_8_code 84 = .ok (.iload_n 2, 1) := by decide +kernel
theorem d_MP_clearRow_85 : decode prog_5_method_8_code 85 = .ok (.if_icmp .eq 63, 3) := by decide +kernel
theorem d_MP_clearRow_88 : decode prog_5_method_8_code 88 = .ok (.lload 9, 2) := by decide +kernel
theorem d_MP_clearRow_90 : decode prog_5_method_8_code 90 = .ok (.lconst 0, 1) := by decide +kernel
theorem d_MP_clearRow_91 : decode prog_5_method_8_code 91 = .ok (.lcmp, 1) := by decide +kernel
theorem d_MP_clearRow_92 : decode prog_5_method_8_code 92 = .ok (.ifCond .eq 56, 3) := by decide +kernel
theorem d_MP_clearRow_95 : decode prog_5_method_8_code 95 = .ok (.iload_n 1, 1) := by decide +kernel
theorem d_MP_clearRow_96 : decode prog_5_method_8_code 96 = .ok (.istore 11, 2) := by decide +kernel
theorem d_MP_clearRow_98 : decode prog_5_method_8_code 98 = .ok (.iload 11, 2) := by decide +kernel
theorem d_MP_clearRow_100 : decode prog_5_method_8_code 100 = .ok (.iload_n 3, 1) := by decide +kernel
theorem d_MP_clearRow_101 : decode prog_5_method_8_code 101 = .ok (.if_icmp .ge 47, 3) := by decide +kernel
theorem d_MP_clearRow_104 : decode prog_5_method_8_code 104 = .ok (.aload_n 0, 1) := by decide +kernel
theorem d_MP_clearRow_105 : decode prog_5_method_8_code 105 = .ok (.getfield 20, 3) := by decide +kernel
theorem d_MP_clearRow_108 : decode prog_5_method_8_code 108 = .ok (.iload 11, 2) := by decide +kernel
theorem d_MP_clearRow_110 : decode prog_5_method_8_code 110 = .ok (.aaload, 1) := by decide +kernel
theorem d_MP_clearRow_111 : decode prog_5_method_8_code 111 = .ok (.iload 8, 2) := by decide +kernel
theorem d_MP_clearRow_113 : decode prog_5_method_8_code 113 = .ok (.aload_n 0, 1) := by decide +kernel
theorem d_MP_clearRow_114 : decode prog_5_method_8_code 114 = .ok (.getfield 20, 3) := by decide +kernel
theorem d_MP_clearRow_117 : decode prog_5_method_8_code 117 = .ok (.iload 11, 2) := by decide +kernel
theorem d_MP_clearRow_119 : decode prog_5_method_8_code 119 = .ok (.aaload, 1) := by decide +kernel
theorem d_MP_clearRow_120 : decode prog_5_method_8_code 120 = .ok (.iload 8, 2) := by decide +kernel
theorem d_MP_clearRow_122 : decode prog_5_method_8_code 122 = .ok (.laload, 1) := by decide +kernel
theorem d_MP_clearRow_123 : decode prog_5_method_8_code 123 = .ok (.lload 9, 2) := by decide +kernel
theorem d_MP_clearRow_125 : decode prog_5_method_8_code 125 = .ok (.aload_n 0, 1) := by decide +kernel
theorem d_MP_clearRow_126 : decode prog_5_method_8_code 126 = .ok (.getfield 20, 3) := by decide +kernel
theorem d_MP_clearRow_129 : decode prog_5_method_8_code 129 = .ok (.iload 11, 2) := by decide +kernel
theorem d_MP_clearRow_131 : decode prog_5_method_8_code 131 = .ok (.aaload, 1) := by decide +kernel
theorem d_MP_clearRow_132 : decode prog_5_method_8_code 132 = .ok (.iload_n 2, 1) := by decide +kernel
theorem d_MP_clearRow_133 : decode prog_5_method_8_code 133 = .ok (.laload, 1) := by decide +kernel
theorem d_MP_clearRow_134 : decode prog_5_method_8_code 134 = .ok (.lmul, 1) := by decide +kernel
theorem d_MP_clearRow_135 : decode prog_5_method_8_code 135 = .ok (.ladd, 1) := by decide +kernel
theorem d_MP_clearRow_136 : decode prog_5_method_8_code 136 = .ok (.lload 4, 2) := by decide +kernel
theorem d_MP_clearRow_138 : decode prog_5_method_8_code 138 = .ok (.invokestatic 87, 3) := by decide +kernel
theorem d_MP_clearRow_141 : decode prog_5_method_8_code 141 = .ok (.lastore, 1) := by decide +kernel
theorem d_MP_clearRow_142 : decode prog_5_method_8_code 142 = .ok (.iinc 11 1, 3) := by decide +kernel
theorem d_MP_clearRow_145 : decode prog_5_method_8_code 145 = .ok (.goto (-47), 3) := by decide +kernel
theorem d_MP_clearRow_148 : decode prog_5_method_8_code 148 = .ok (.iinc 8 1, 3) := by decide +kernel
theorem d_MP_clearRow_151 : decode prog_5_method_8_code 151 = .ok (.goto (-86), 3) := by decide +kernel
theorem d_MP_clearRow_154 : decode prog_5_method_8_code 154 = .ok (.return_, 1) := by decide +kernel
def B_MP_clearRow_98 (P : zM → Prop) (k65 : Int32 → zM → Prop) (a1 : Int32) (a2 : Int32) (a3 : Int32) (a4 : Int64) (v8 : Int32) (v9 : Int64) (k98 : Int32 → zM → Prop) (v11 : Int32) (M : zM) : Prop := (a3 ≤ v11 → k65 (v8 + (1 : Int32)) M) ∧ (¬ a3 ≤ v11 → vp_in v11 (zgn 27) ∧ vp_in v11 (zgn 27) ∧ vp_in v8 (zlong (27 + 1 + v11.toNatClampNeg)) ∧ vp_in v11 (zgn 27) ∧ vp_in a2 (zlong (27 + 1 + v11.toNatClampNeg)) ∧ w_Re_residue ((M (27 + 1 + v11.toNatClampNeg) v8.toNatClampNeg) + (v9 * (M (27 + 1 + v11.toNatClampNeg) a2.toNatClampNeg))) a4  (fun r12 => vp_in v8 (zlong (27 + 1 + v11.toNatClampNeg)) ∧ ∀ M15 : zM, M15 = zput M (27 + 1 + v11.toNatClampNeg) v8.toNatClampNeg r12 → k98 (v11 + (1 : Int32)) M15))
def L_MP_clearRow_98 (P : zM → Prop) (k65 : Int32 → zM → Prop) (a1 : Int32) (a2 : Int32) (a3 : Int32) (a4 : Int64) (v8 : Int32) (v9 : Int64) (n : Nat) : Int32 → zM → Prop := Nat.rec (fun _ _ => False) (fun _ k => B_MP_clearRow_98 P k65 a1 a2 a3 a4 v8 v9 k) n
def B_MP_clearRow_65 (P : zM → Prop) (a1 : Int32) (a2 : Int32) (a3 : Int32) (a4 : Int64) (k65 : Int32 → zM → Prop) (v8 : Int32) (M : zM) : Prop := (a3 ≤ v8 → P M) ∧ (¬ a3 ≤ v8 → vp_in a1 (zgn 27) ∧ vp_in v8 (zlong (27 + 1 + a1.toNatClampNeg)) ∧ ∀ x11 : Int64, x11 = M (27 + 1 + a1.toNatClampNeg) v8.toNatClampNeg → (v8 = a2 → k65 (v8 + (1 : Int32)) M) ∧ (¬ v8 = a2 → (x11 = (0 : Int64) → k65 (v8 + (1 : Int32)) M) ∧ (¬ x11 = (0 : Int64) → ∃ n, L_MP_clearRow_98 P k65 a1 a2 a3 a4 v8 x11 n a1 M)))
def L_MP_clearRow_65 (P : zM → Prop) (a1 : Int32) (a2 : Int32) (a3 : Int32) (a4 : Int64) (n : Nat) : Int32 → zM → Prop := Nat.rec (fun _ _ => False) (fun _ k => B_MP_clearRow_65 P a1 a2 a3 a4 k) n
def B_MP_clearRow_24 (P : zM → Prop) (a1 : Int32) (a2 : Int32) (a3 : Int32) (a4 : Int64) (v6 : Int64) (k24 : Int32 → zM → Prop) (v8 : Int32) (M : zM) : Prop := (a3 ≤ v8 → ∃ n, L_MP_clearRow_65 P a1 a2 a3 a4 n (0 : Int32) M) ∧ (¬ a3 ≤ v8 → vp_in v8 (zgn 27) ∧ vp_in v8 (zgn 27) ∧ vp_in a2 (zlong (27 + 1 + v8.toNatClampNeg)) ∧ w_Re_residue ((M (27 + 1 + v8.toNatClampNeg) a2.toNatClampNeg) * v6) a4  (fun r7 => vp_in a2 (zlong (27 + 1 + v8.toNatClampNeg)) ∧ ∀ M10 : zM, M10 = zput M (27 + 1 + v8.toNatClampNeg) a2.toNatClampNeg r7 → k24 (v8 + (1 : Int32)) M10))
def L_MP_clearRow_24 (P : zM → Prop) (a1 : Int32) (a2 : Int32) (a3 : Int32) (a4 : Int64) (v6 : Int64) (n : Nat) : Int32 → zM → Prop := Nat.rec (fun _ _ => False) (fun _ k => B_MP_clearRow_24 P a1 a2 a3 a4 v6 k) n
def w_MP_clearRow (a1 : Int32) (a2 : Int32) (a3 : Int32) (a4 : Int64) (M : zM) (P : zM → Prop) : Prop := vp_in a1 (zgn 27) ∧ vp_in a2 (zlong (27 + 1 + a1.toNatClampNeg)) ∧ w_Re_inverseOf (M (27 + 1 + a1.toNatClampNeg) a2.toNatClampNeg) a4  (fun r1 => w_Re_residue (-r1) a4  (fun r4 => ∃ n, L_MP_clearRow_24 P a1 a2 a3 a4 r4 n a1 M))
def ws_MP_clearRow : List Cond := .code y_MP_clearRow prog_5_method_8_code 12 (Option.none : Option Jvm.ClassFile.FieldType) :: zall
def rm_MP_clearRow : Room := { frames := 1, cells := 0, slots := 0, locals := 29 }
theorem hd_MP_clearRow : y_MP_clearRow.cls ≠ "java/lang/invoke/MethodHandle" ∧ y_MP_clearRow.cls ≠ "java/lang/invoke/VarHandle" ∧ (parseMethodDescriptor y_MP_clearRow.desc).map (fun d => d.parameters.length) = some 4 := by decide +kernel
set_option maxHeartbeats 4000000 in
set_option maxRecDepth 100000 in
theorem c_MP_clearRow (l : Launch) (G : zG) (b : Nat) (a1 : Int32) (a2 : Int32) (a3 : Int32) (a4 : Int64) (M : zM) (N : zN) {P : zM → Prop} (hw : w_MP_clearRow a1 a2 a3 a4 M P) : Met l y_MP_clearRow ws_MP_clearRow rm_MP_clearRow (zPc G b M N [.ref (b + 17), .int a1, .int a2, .int a3, .long a4]) (zQv G b (fun M' N' => P M' ∧ N' = N)) 0 0 (zA b) := by
  refine Met.ofW (cc := prog_5_method_8_code) (maxL := 12) (ret := (Option.none : Option Jvm.ClassFile.FieldType)) (by decide) rfl ?_
  intro p e s m args below meth c s₁ B hml hv
  obtain ⟨rfl, hZ, hK, hT⟩ := hv
  have hx := B.exec
  have hb := B.bytes
  have hr := B.returns
  have hts := atoms_spec (ws := ws_MP_clearRow) B.pre
  have hta : ∀ w ∈ zall, w.before ([.ref (b + 17), .int a1, .int a2, .int a3, .long a4] : List Value).toArray s = true := fun w h => hts w (List.mem_cons_of_mem _ h)
  have hown : s.vm.findClass R_MP = some m.cls := findClass_of_methodNamed B.named
  have hlocks := B.notSynchronized
  have hS : va_S (zA b) s.heap s.heap [] := va_S.rf
  have hl := lv_entry ([.ref (b + 17), .int a1, .int a2, .int a3, .long a4]) (n := 12) (Nat.le_of_ble_eq_true rfl)
  rw [lg_entry_eq]
  generalize (lg_sl ([.ref (b + 17), .int a1, .int a2, .int a3, .long a4]) ++ List.replicate (12 - (lg_sl ([.ref (b + 17), .int a1, .int a2, .int a3, .long a4])).length) Slot.unset).toArray = ls at hl ⊢
  have hl : lv_has ls 12 [(0, .ref (b + 17)), (1, .int a1), (2, .int a2), (3, .int a3), (4, .long a4)] := hl
  have lp65 : ∀ (n : Nat) (v8 : Int32) (M : zM) (H : Heap) (ls : Array Slot) (locs : List Loc), va_P G.1 zCl (zws G b M N) H → va_S (zA b) s.heap H locs → lv_has ls 12 [(0, .ref (b + 17)), (1, .int a1), (2, .int a2), (3, .int a3), (4, .long a4), (8, .int v8)] → L_MP_clearRow_65 P a1 a2 a3 a4 n v8 M → W p l e (headSpec ws_MP_clearRow rm_MP_clearRow).room s m ([.ref (b + 17), .int a1, .int a2, .int a3, .long a4] : List Value).toArray below meth c H locs 0 0 (MQ below (zQv G b (fun M' N' => P M' ∧ N' = N)) ([.ref (b + 17), .int a1, .int a2, .int a3, .long a4] : List Value).toArray s 0 0 (zA b)) (F0 m 65 ls []) := by
    intro  n
    induction n with
    | zero => intro v8 M H ls locs hZ hS hl hw; exact False.elim hw
    | succ n65 ih65 =>
      have lp98 : ∀ (v8 : Int32) (v9 : Int64) (n : Nat) (v11 : Int32) (M : zM) (H : Heap) (ls : Array Slot) (locs : List Loc), va_P G.1 zCl (zws G b M N) H → va_S (zA b) s.heap H locs → lv_has ls 12 [(0, .ref (b + 17)), (1, .int a1), (2, .int a2), (3, .int a3), (4, .long a4), (8, .int v8), (9, .long v9), (11, .int v11)] → L_MP_clearRow_98 P (L_MP_clearRow_65 P a1 a2 a3 a4 n65) a1 a2 a3 a4 v8 v9 n v11 M → W p l e (headSpec ws_MP_clearRow rm_MP_clearRow).room s m ([.ref (b + 17), .int a1, .int a2, .int a3, .long a4] : List Value).toArray below meth c H locs 0 0 (MQ below (zQv G b (fun M' N' => P M' ∧ N' = N)) ([.ref (b + 17), .int a1, .int a2, .int a3, .long a4] : List Value).toArray s 0 0 (zA b)) (F0 m 98 ls []) := by
        intro v8 v9 n
        induction n with
        | zero => intro v11 M H ls locs hZ hS hl hw; exact False.elim hw
        | succ n98 ih98 =>
          intro v11 M H ls locs hZ hS hl hw
          have hw : B_MP_clearRow_98 P (L_MP_clearRow_65 P a1 a2 a3 a4 n65) a1 a2 a3 a4 v8 v9 (L_MP_clearRow_98 P (L_MP_clearRow_65 P a1 a2 a3 a4 n65) a1 a2 a3 a4 v8 v9 n98) v11 M := hw
          unfold B_MP_clearRow_98 at hw
          refine lv_iload (pc := 98) hx hb d_MP_clearRow_98 (lv_at hl 7 rfl) ?_
          refine lv_iload_n (pc := 100) hx hb d_MP_clearRow_100 rfl (lv_at hl 3 rfl) ?_
          refine lv_icmp_ge (pc := 101) (tgt := 148) hx hb d_MP_clearRow_101 (by decide) (fun hc => ?_) (fun hc => ?_)
          · have hw := hw.1 hc
            refine lv_iinc (pc := 148) (k := 5) (v := v8 + (1 : Int32)) (lv' := [(8, .int (v8 + (1 : Int32))), (0, .ref (b + 17)), (1, .int a1), (2, .int a2), (3, .int a3), (4, .long a4), (9, .long v9), (11, .int v11)]) hx hb d_MP_clearRow_148 hl rfl (by rfl) (by decide) rfl (fun ls hl => ?_)
            refine lv_goto (pc := 151) (tgt := 65) hx hb d_MP_clearRow_151 (by decide) ?_
            exact ih65 (v8 + (1 : Int32)) M _ _ _ hZ hS (lv_sub hl [1, 2, 3, 4, 5, 0] rfl) hw
          · have hw := hw.2 hc
            refine lv_aload_n (pc := 104) hx hb d_MP_clearRow_104 rfl (lv_at hl 0 rfl) ?_
            refine zg_MP_20 (pc := 105) hx hb hta hown hK hZ d_MP_clearRow_105 ?_
            refine lv_iload (pc := 108) hx hb d_MP_clearRow_108 (lv_at hl 7 rfl) ?_
            obtain ⟨hc, hw⟩ := hw
            refine z_aald (pc := 110) hx hb hK hZ hc d_MP_clearRow_110 ?_
            refine lv_iload (pc := 111) hx hb d_MP_clearRow_111 (lv_at hl 5 rfl) ?_
            refine lv_aload_n (pc := 113) hx hb d_MP_clearRow_113 rfl (lv_at hl 0 rfl) ?_
            refine zg_MP_20 (pc := 114) hx hb hta hown hK hZ d_MP_clearRow_114 ?_
            refine lv_iload (pc := 117) hx hb d_MP_clearRow_117 (lv_at hl 7 rfl) ?_
            obtain ⟨hc, hw⟩ := hw
            refine z_aald (pc := 119) hx hb hK hZ hc d_MP_clearRow_119 ?_
            refine lv_iload (pc := 120) hx hb d_MP_clearRow_120 (lv_at hl 5 rfl) ?_
            obtain ⟨hc, hw⟩ := hw
            refine z_lald (pc := 122) hx hb hK hZ hc d_MP_clearRow_122 ?_
            refine lv_lload (pc := 123) hx hb d_MP_clearRow_123 (lv_at hl 6 rfl) ?_
            refine lv_aload_n (pc := 125) hx hb d_MP_clearRow_125 rfl (lv_at hl 0 rfl) ?_
            refine zg_MP_20 (pc := 126) hx hb hta hown hK hZ d_MP_clearRow_126 ?_
            refine lv_iload (pc := 129) hx hb d_MP_clearRow_129 (lv_at hl 7 rfl) ?_
            obtain ⟨hc, hw⟩ := hw
            refine z_aald (pc := 131) hx hb hK hZ hc d_MP_clearRow_131 ?_
            refine lv_iload_n (pc := 132) hx hb d_MP_clearRow_132 rfl (lv_at hl 2 rfl) ?_
            obtain ⟨hc, hw⟩ := hw
            refine z_lald (pc := 133) hx hb hK hZ hc d_MP_clearRow_133 ?_
            refine lv_lmul (pc := 134) hx hb d_MP_clearRow_134 ?_
            refine lv_ladd (pc := 135) hx hb d_MP_clearRow_135 ?_
            refine lv_lload (pc := 136) hx hb d_MP_clearRow_136 (lv_at hl 4 rfl) ?_
            refine z_calll (pc := 138) (va_runS (As := [.long ((M (27 + 1 + v11.toNatClampNeg) v8.toNatClampNeg) + (v9 * (M (27 + 1 + v11.toNatClampNeg) a2.toNatClampNeg))), .long a4]) (rest := [.int v8, .ref (b + (27 + 1 + v11.toNatClampNeg))]) ⟨hx, hb, hml, hown, hts⟩ (c_Re_residue l G b ((M (27 + 1 + v11.toNatClampNeg) v8.toNatClampNeg) + (v9 * (M (27 + 1 + v11.toNatClampNeg) a2.toNatClampNeg))) a4 M N hw) (va_cwS 2 hts (z_good (zgS wd548 wd466 wd18 wd467)) rfl rfl rfl hd_Re_residue ⟨Nat.le_of_ble_eq_true rfl, Nat.le_of_ble_eq_true rfl⟩) (z_preS hZ hK hT hS) rfl rfl hl.1 rfl (lv_room (Nat.le_of_ble_eq_true rfl)) d_MP_clearRow_138 ⟨Nat.le_of_ble_eq_true rfl, Nat.le_of_ble_eq_true rfl⟩) hS (fun r12 M13 N14 H locs hw hZ hS => ?_)
            obtain ⟨hw, eM13, eN14⟩ := hw
            rw [eM13, eN14] at hZ
            obtain ⟨hc, hw⟩ := hw
            refine z_last (pc := 141) hx hb hK hZ hS hc d_MP_clearRow_141 (fun M15 H locs hM15 hZ hS => ?_)
            have hw := hw M15 hM15
            refine lv_iinc (pc := 142) (k := 7) (v := v11 + (1 : Int32)) (lv' := [(11, .int (v11 + (1 : Int32))), (0, .ref (b + 17)), (1, .int a1), (2, .int a2), (3, .int a3), (4, .long a4), (8, .int v8), (9, .long v9)]) hx hb d_MP_clearRow_142 hl rfl (by rfl) (by decide) rfl (fun ls hl => ?_)
            refine lv_goto (pc := 145) (tgt := 98) hx hb d_MP_clearRow_145 (by decide) ?_
            exact ih98 (v11 + (1 : Int32)) M15 _ _ _ hZ hS (lv_sub hl [1, 2, 3, 4, 5, 6, 7, 0] rfl) hw
      intro v8 M H ls locs hZ hS hl hw
      have hw : B_MP_clearRow_65 P a1 a2 a3 a4 (L_MP_clearRow_65 P a1 a2 a3 a4 n65) v8 M := hw
      unfold B_MP_clearRow_65 at hw
      refine lv_iload (pc := 65) hx hb d_MP_clearRow_65 (lv_at hl 5 rfl) ?_
      refine lv_iload_n (pc := 67) hx hb d_MP_clearRow_67 rfl (lv_at hl 3 rfl) ?_
      refine lv_icmp_ge (pc := 68) (tgt := 154) hx hb d_MP_clearRow_68 (by decide) (fun hc => ?_) (fun hc => ?_)
      · have hw := hw.1 hc
        exact z_vret hx hb hr hlocks hK hT hZ hS ⟨hw, rfl⟩ d_MP_clearRow_154
      · have hw := hw.2 hc
        refine lv_aload_n (pc := 71) hx hb d_MP_clearRow_71 rfl (lv_at hl 0 rfl) ?_
        refine zg_MP_20 (pc := 72) hx hb hta hown hK hZ d_MP_clearRow_72 ?_
        refine lv_iload_n (pc := 75) hx hb d_MP_clearRow_75 rfl (lv_at hl 1 rfl) ?_
        obtain ⟨hc, hw⟩ := hw
        refine z_aald (pc := 76) hx hb hK hZ hc d_MP_clearRow_76 ?_
        refine lv_iload (pc := 77) hx hb d_MP_clearRow_77 (lv_at hl 5 rfl) ?_
        obtain ⟨hc, hw⟩ := hw
        refine z_lald (pc := 79) hx hb hK hZ hc d_MP_clearRow_79 ?_
        refine lv_topl (fun x11 hx11 => ?_)
        have hw := hw x11 hx11
        refine lv_lstore (pc := 80) (lv' := [(9, .long x11), (0, .ref (b + 17)), (1, .int a1), (2, .int a2), (3, .int a3), (4, .long a4), (8, .int v8)]) hx hb d_MP_clearRow_80 hl (by decide) rfl (fun ls hl => ?_)
        refine lv_iload (pc := 82) hx hb d_MP_clearRow_82 (lv_at hl 6 rfl) ?_
        refine lv_iload_n (pc := 84) hx hb d_MP_clearRow_84 rfl (lv_at hl 3 rfl) ?_
        refine lv_icmp_eq (pc := 85) (tgt := 148) hx hb d_MP_clearRow_85 (by decide) (fun hc => ?_) (fun hc => ?_)
        · have hw := hw.1 hc
          refine lv_iinc (pc := 148) (k := 6) (v := v8 + (1 : Int32)) (lv' := [(8, .int (v8 + (1 : Int32))), (9, .long x11), (0, .ref (b + 17)), (1, .int a1), (2, .int a2), (3, .int a3), (4, .long a4)]) hx hb d_MP_clearRow_148 hl rfl (by rfl) (by decide) rfl (fun ls hl => ?_)
          refine lv_goto (pc := 151) (tgt := 65) hx hb d_MP_clearRow_151 (by decide) ?_
          exact ih65 (v8 + (1 : Int32)) M _ _ _ hZ hS (lv_sub hl [2, 3, 4, 5, 6, 0] rfl) hw
        · have hw := hw.2 hc
          refine lv_lload (pc := 88) hx hb d_MP_clearRow_88 (lv_at hl 0 rfl) ?_
          refine lv_lconst (pc := 90) (v := 0) hx hb d_MP_clearRow_90 (by decide) ?_
          refine z_lc_eq (pc := 91) (tgt := 148) hx hb d_MP_clearRow_91 d_MP_clearRow_92 (by decide) (fun hc => ?_) (fun hc => ?_)
          · have hw := hw.1 hc
            refine lv_iinc (pc := 148) (k := 6) (v := v8 + (1 : Int32)) (lv' := [(8, .int (v8 + (1 : Int32))), (9, .long x11), (0, .ref (b + 17)), (1, .int a1), (2, .int a2), (3, .int a3), (4, .long a4)]) hx hb d_MP_clearRow_148 hl rfl (by rfl) (by decide) rfl (fun ls hl => ?_)
            refine lv_goto (pc := 151) (tgt := 65) hx hb d_MP_clearRow_151 (by decide) ?_
            exact ih65 (v8 + (1 : Int32)) M _ _ _ hZ hS (lv_sub hl [2, 3, 4, 5, 6, 0] rfl) hw
          · have hw := hw.2 hc
            refine lv_iload_n (pc := 95) hx hb d_MP_clearRow_95 rfl (lv_at hl 2 rfl) ?_
            refine lv_istore (pc := 96) (lv' := [(11, .int a1), (9, .long x11), (0, .ref (b + 17)), (1, .int a1), (2, .int a2), (3, .int a3), (4, .long a4), (8, .int v8)]) hx hb d_MP_clearRow_96 hl (by decide) rfl (fun ls hl => ?_)
            obtain ⟨n, hw⟩ := hw
            exact lp98 v8 x11 n a1 M _ _ _ hZ hS (lv_sub hl [2, 3, 4, 5, 6, 7, 1, 0] rfl) hw
  have lp24 : ∀ (v6 : Int64) (n : Nat) (v8 : Int32) (M : zM) (H : Heap) (ls : Array Slot) (locs : List Loc), va_P G.1 zCl (zws G b M N) H → va_S (zA b) s.heap H locs → lv_has ls 12 [(0, .ref (b + 17)), (1, .int a1), (2, .int a2), (3, .int a3), (4, .long a4), (6, .long v6), (8, .int v8)] → L_MP_clearRow_24 P a1 a2 a3 a4 v6 n v8 M → W p l e (headSpec ws_MP_clearRow rm_MP_clearRow).room s m ([.ref (b + 17), .int a1, .int a2, .int a3, .long a4] : List Value).toArray below meth c H locs 0 0 (MQ below (zQv G b (fun M' N' => P M' ∧ N' = N)) ([.ref (b + 17), .int a1, .int a2, .int a3, .long a4] : List Value).toArray s 0 0 (zA b)) (F0 m 24 ls []) := by
    intro v6 n
    induction n with
    | zero => intro v8 M H ls locs hZ hS hl hw; exact False.elim hw
    | succ n24 ih24 =>
      intro v8 M H ls locs hZ hS hl hw
      have hw : B_MP_clearRow_24 P a1 a2 a3 a4 v6 (L_MP_clearRow_24 P a1 a2 a3 a4 v6 n24) v8 M := hw
      unfold B_MP_clearRow_24 at hw
      refine lv_iload (pc := 24) hx hb d_MP_clearRow_24 (lv_at hl 6 rfl) ?_
      refine lv_iload_n (pc := 26) hx hb d_MP_clearRow_26 rfl (lv_at hl 3 rfl) ?_
      refine lv_icmp_ge (pc := 27) (tgt := 62) hx hb d_MP_clearRow_27 (by decide) (fun hc => ?_) (fun hc => ?_)
      · have hw := hw.1 hc
        refine lv_iconst (pc := 62) (v := 0) hx hb d_MP_clearRow_62 (by decide) ?_
        refine lv_istore (pc := 63) (lv' := [(8, .int (0 : Int32)), (0, .ref (b + 17)), (1, .int a1), (2, .int a2), (3, .int a3), (4, .long a4), (6, .long v6)]) hx hb d_MP_clearRow_63 hl (by decide) rfl (fun ls hl => ?_)
        obtain ⟨n, hw⟩ := hw
        exact lp65  n (0 : Int32) M _ _ _ hZ hS (lv_sub hl [1, 2, 3, 4, 5, 0] rfl) hw
      · have hw := hw.2 hc
        refine lv_aload_n (pc := 30) hx hb d_MP_clearRow_30 rfl (lv_at hl 0 rfl) ?_
        refine zg_MP_20 (pc := 31) hx hb hta hown hK hZ d_MP_clearRow_31 ?_
        refine lv_iload (pc := 34) hx hb d_MP_clearRow_34 (lv_at hl 6 rfl) ?_
        obtain ⟨hc, hw⟩ := hw
        refine z_aald (pc := 36) hx hb hK hZ hc d_MP_clearRow_36 ?_
        refine lv_iload_n (pc := 37) hx hb d_MP_clearRow_37 rfl (lv_at hl 2 rfl) ?_
        refine lv_aload_n (pc := 38) hx hb d_MP_clearRow_38 rfl (lv_at hl 0 rfl) ?_
        refine zg_MP_20 (pc := 39) hx hb hta hown hK hZ d_MP_clearRow_39 ?_
        refine lv_iload (pc := 42) hx hb d_MP_clearRow_42 (lv_at hl 6 rfl) ?_
        obtain ⟨hc, hw⟩ := hw
        refine z_aald (pc := 44) hx hb hK hZ hc d_MP_clearRow_44 ?_
        refine lv_iload_n (pc := 45) hx hb d_MP_clearRow_45 rfl (lv_at hl 2 rfl) ?_
        obtain ⟨hc, hw⟩ := hw
        refine z_lald (pc := 46) hx hb hK hZ hc d_MP_clearRow_46 ?_
        refine lv_lload (pc := 47) hx hb d_MP_clearRow_47 (lv_at hl 5 rfl) ?_
        refine lv_lmul (pc := 49) hx hb d_MP_clearRow_49 ?_
        refine lv_lload (pc := 50) hx hb d_MP_clearRow_50 (lv_at hl 4 rfl) ?_
        refine z_calll (pc := 52) (va_runS (As := [.long ((M (27 + 1 + v8.toNatClampNeg) a2.toNatClampNeg) * v6), .long a4]) (rest := [.int a2, .ref (b + (27 + 1 + v8.toNatClampNeg))]) ⟨hx, hb, hml, hown, hts⟩ (c_Re_residue l G b ((M (27 + 1 + v8.toNatClampNeg) a2.toNatClampNeg) * v6) a4 M N hw) (va_cwS 2 hts (z_good (zgS wd548 wd466 wd18 wd467)) rfl rfl rfl hd_Re_residue ⟨Nat.le_of_ble_eq_true rfl, Nat.le_of_ble_eq_true rfl⟩) (z_preS hZ hK hT hS) rfl rfl hl.1 rfl (lv_room (Nat.le_of_ble_eq_true rfl)) d_MP_clearRow_52 ⟨Nat.le_of_ble_eq_true rfl, Nat.le_of_ble_eq_true rfl⟩) hS (fun r7 M8 N9 H locs hw hZ hS => ?_)
        obtain ⟨hw, eM8, eN9⟩ := hw
        rw [eM8, eN9] at hZ
        obtain ⟨hc, hw⟩ := hw
        refine z_last (pc := 55) hx hb hK hZ hS hc d_MP_clearRow_55 (fun M10 H locs hM10 hZ hS => ?_)
        have hw := hw M10 hM10
        refine lv_iinc (pc := 56) (k := 6) (v := v8 + (1 : Int32)) (lv' := [(8, .int (v8 + (1 : Int32))), (0, .ref (b + 17)), (1, .int a1), (2, .int a2), (3, .int a3), (4, .long a4), (6, .long v6)]) hx hb d_MP_clearRow_56 hl rfl (by rfl) (by decide) rfl (fun ls hl => ?_)
        refine lv_goto (pc := 59) (tgt := 24) hx hb d_MP_clearRow_59 (by decide) ?_
        exact ih24 (v8 + (1 : Int32)) M10 _ _ _ hZ hS (lv_sub hl [1, 2, 3, 4, 5, 6, 0] rfl) hw
  unfold w_MP_clearRow at hw
  refine lv_aload_n (pc := 0) hx hb d_MP_clearRow_0 rfl (lv_at hl 0 rfl) ?_
  refine zg_MP_20 (pc := 1) hx hb hta hown hK hZ d_MP_clearRow_1 ?_
  refine lv_iload_n (pc := 4) hx hb d_MP_clearRow_4 rfl (lv_at hl 1 rfl) ?_
  obtain ⟨hc, hw⟩ := hw
  refine z_aald (pc := 5) hx hb hK hZ hc d_MP_clearRow_5 ?_
  refine lv_iload_n (pc := 6) hx hb d_MP_clearRow_6 rfl (lv_at hl 2 rfl) ?_
  obtain ⟨hc, hw⟩ := hw
  refine z_lald (pc := 7) hx hb hK hZ hc d_MP_clearRow_7 ?_
  refine lv_lload (pc := 8) hx hb d_MP_clearRow_8 (lv_at hl 4 rfl) ?_
  refine z_calll (pc := 10) (va_runS (As := [.long (M (27 + 1 + a1.toNatClampNeg) a2.toNatClampNeg), .long a4]) (rest := []) ⟨hx, hb, hml, hown, hts⟩ (c_Re_inverseOf l G b (M (27 + 1 + a1.toNatClampNeg) a2.toNatClampNeg) a4 M N hw) (va_cwS 2 hts (z_good (zgS wd571 wd477 wd18 wd478)) rfl rfl rfl hd_Re_inverseOf ⟨Nat.le_of_ble_eq_true rfl, Nat.le_of_ble_eq_true rfl⟩) (z_preS hZ hK hT hS) rfl rfl hl.1 rfl (lv_room (Nat.le_of_ble_eq_true rfl)) d_MP_clearRow_10 ⟨Nat.le_of_ble_eq_true rfl, Nat.le_of_ble_eq_true rfl⟩) hS (fun r1 M2 N3 H locs hw hZ hS => ?_)
  obtain ⟨hw, eM2, eN3⟩ := hw
  rw [eM2, eN3] at hZ
  refine lv_lneg (pc := 13) hx hb d_MP_clearRow_13 ?_
  refine lv_lload (pc := 14) hx hb d_MP_clearRow_14 (lv_at hl 4 rfl) ?_
  refine z_calll (pc := 16) (va_runS (As := [.long (-r1), .long a4]) (rest := []) ⟨hx, hb, hml, hown, hts⟩ (c_Re_residue l G b (-r1) a4 M N hw) (va_cwS 2 hts (z_good (zgS wd548 wd466 wd18 wd467)) rfl rfl rfl hd_Re_residue ⟨Nat.le_of_ble_eq_true rfl, Nat.le_of_ble_eq_true rfl⟩) (z_preS hZ hK hT hS) rfl rfl hl.1 rfl (lv_room (Nat.le_of_ble_eq_true rfl)) d_MP_clearRow_16 ⟨Nat.le_of_ble_eq_true rfl, Nat.le_of_ble_eq_true rfl⟩) hS (fun r4 M5 N6 H locs hw hZ hS => ?_)
  obtain ⟨hw, eM5, eN6⟩ := hw
  rw [eM5, eN6] at hZ
  refine lv_lstore (pc := 19) (lv' := [(6, .long r4), (0, .ref (b + 17)), (1, .int a1), (2, .int a2), (3, .int a3), (4, .long a4)]) hx hb d_MP_clearRow_19 hl (by decide) rfl (fun ls hl => ?_)
  refine lv_iload_n (pc := 21) hx hb d_MP_clearRow_21 rfl (lv_at hl 2 rfl) ?_
  refine lv_istore (pc := 22) (lv' := [(8, .int a1), (6, .long r4), (0, .ref (b + 17)), (1, .int a1), (2, .int a2), (3, .int a3), (4, .long a4)]) hx hb d_MP_clearRow_22 hl (by decide) rfl (fun ls hl => ?_)
  obtain ⟨n, hw⟩ := hw
  exact lp24 r4 n a1 M _ _ _ hZ hS (lv_sub hl [2, 3, 4, 5, 6, 1, 0] rfl) hw
theorem wsel6 : Cond.selects R_MP y_MP_freeColumn y_MP_freeColumn ∈ zall := List.mem_filter.mpr ⟨List.mem_append_left _ (List.mem_of_getElem? (i := 6) rfl), by decide +kernel⟩
theorem wsel8 : Cond.selects R_MP y_MP_clearRow y_MP_clearRow ∈ zall := List.mem_filter.mpr ⟨List.mem_append_left _ (List.mem_of_getElem? (i := 8) rfl), by decide +kernel⟩
theorem wsel7 : Cond.selects R_MP y_MP_fillKernelRow y_MP_fillKernelRow ∈ zall := List.mem_filter.mpr ⟨List.mem_append_left _ (List.mem_of_getElem? (i := 7) rfl), by decide +kernel⟩
theorem d_MP_fillKernel_0 : decode prog_5_method_5_code 0 = .ok (.iconst 0, 1) := by decide +kernel
theorem d_MP_fillKernel_1 : decode prog_5_method_5_code 1 = .ok (.istore 4, 2) := by decide +kernel
theorem d_MP_fillKernel_3 : decode prog_5_method_5_code 3 = .ok (.aload_n 0, 1) := by decide +kernel
theorem d_MP_fillKernel_4 : decode prog_5_method_5_code 4 = .ok (.getfield 26, 3) := by decide +kernel
theorem d_MP_fillKernel_7 : decode prog_5_method_5_code 7 = .ok (.iconst (-1), 1) := by decide +kernel
theorem d_MP_fillKernel_8 : decode prog_5_method_5_code 8 = .ok (.invokestatic 95, 3) := by decide +kernel
theorem d_MP_fillKernel_11 : decode prog_5_method_5_code 11 = .ok (.iconst 0, 1) := by decide +kernel
theorem d_MP_fillKernel_12 : decode prog_5_method_5_code 12 = .ok (.istore 5, 2) := by decide +kernel
theorem d_MP_fillKernel_14 : decode prog_5_method_5_code 14 = .ok (.iload 5, 2) := by decide +kernel
theorem d_MP_fillKernel_16 : decode prog_5_method_5_code 16 = .ok (.iload_n 1, 1) := by decide +kernel
theorem d_MP_fillKernel_17 : decode prog_5_method_5_code 17 = .ok (.if_icmp .ge 57, 3) := by decide +kernel
theorem d_MP_fillKernel_20 : decode prog_5_method_5_code 20 = .ok (.aload_n 0, 1) := by decide +kernel
theorem d_MP_fillKernel_21 : decode prog_5_method_5_code 21 = .ok (.iload 5, 2) := by decide +kernel
theorem d_MP_fillKernel_23 : decode prog_5_method_5_code 23 = .ok (.iload_n 1, 1) := by decide +kernel
theorem d_MP_fillKernel_24 : decode prog_5_method_5_code 24 = .ok (.invokevirtual 98, 3) := by decide +kernel
theorem d_MP_fillKernel_27 : decode prog_5_method_5_code 27 = .ok (.istore 6, 2) := by decide +kernel
theorem d_MP_fillKernel_29 : decode prog_5_method_5_code 29 = .ok (.iload 6, 2) := by decide +kernel
theorem d_MP_fillKernel_31 : decode prog_5_method_5_code 31 = .ok (.ifCond .ge 18, 3) := by decide +kernel
theorem d_MP_fillKernel_34 : decode prog_5_method_5_code 34 = .ok (.aload_n 0, 1) := by decide +kernel
theorem d_MP_fillKernel_35 : decode prog_5_method_5_code 35 = .ok (.iload 4, 2) := by decide +kernel
theorem d_MP_fillKernel_37 : decode prog_5_method_5_code 37 = .ok (.iload 5, 2) := by decide +kernel
theorem d_MP_fillKernel_39 : decode prog_5_method_5_code 39 = .ok (.iload_n 1, 1) := by decide +kernel
theorem d_MP_fillKernel_40 : decode prog_5_method_5_code 40 = .ok (.invokevirtual 102, 3) := by decide +kernel
theorem d_MP_fillKernel_43 : decode prog_5_method_5_code 43 = .ok (.iinc 4 1, 3) := by decide +kernel
theorem d_MP_fillKernel_46 : decode prog_5_method_5_code 46 = .ok (.goto 22, 3) := by decide +kernel
theorem d_MP_fillKernel_49 : decode prog_5_method_5_code 49 = .ok (.aload_n 0, 1) := by decide +kernel
theorem d_MP_fillKernel_50 : decode prog_5_method_5_code 50 = .ok (.iload 5, 2) := by decide +kernel
theorem d_MP_fillKernel_52 : decode prog_5_method_5_code 52 = .ok (.iload 6, 2) := by decide +kernel
theorem d_MP_fillKernel_54 : decode prog_5_method_5_code 54 = .ok (.iload_n 1, 1) := by decide +kernel
theorem d_MP_fillKernel_55 : decode prog_5_method_5_code 55 = .ok (.lload_n 2, 1) := by decide +kernel
theorem d_MP_fillKernel_56 : decode prog_5_method_5_code 56 = .ok (.invokevirtual 106, 3) := by decide +kernel
theorem d_MP_fillKernel_59 : decode prog_5_method_5_code 59 = .ok (.aload_n 0, 1) := by decide +kernel
theorem d_MP_fillKernel_60 : decode prog_5_method_5_code 60 = .ok (.getfield 26, 3) := by decide +kernel
theorem d_MP_fillKernel_63 : decode prog_5_method_5_code 63 = .ok (.iload 6, 2) := by decide +kernel
theorem d_MP_fillKernel_65 : decode prog_5_method_5_code 65 = .ok (.iload 5, 2) := by decide +kernel
theorem d_MP_fillKernel_67 : decode prog_5_method_5_code 67 = .ok (.iastore, 1) := by decide +kernel
theorem d_MP_fillKernel_68 : decode prog_5_method_5_code 68 = .ok (.iinc 5 1, 3) := by decide +kernel
theorem d_MP_fillKernel_71 : decode prog_5_method_5_code 71 = .ok (.goto (-57), 3) := by decide +kernel
theorem d_MP_fillKernel_74 : decode prog_5_method_5_code 74 = .ok (.iload 4, 2) := by decide +kernel
theorem d_MP_fillKernel_76 : decode prog_5_method_5_code 76 = .ok (.ireturn, 1) := by decide +kernel
def B_MP_fillKernel_14 (P : Int32 → zM → zN → Prop) (a1 : Int32) (a2 : Int64) (k14 : Int32 → Int32 → zM → zN → Prop) (v4 : Int32) (v5 : Int32) (M : zM) (N : zN) : Prop := (a1 ≤ v5 → P v4 M N) ∧ (¬ a1 ≤ v5 → w_MP_freeColumn v5 a1 M N (fun r4 => (0 ≤ r4 → w_MP_clearRow v5 r4 a1 a2 M (fun M8 => vp_in r4 (zint 45) ∧ ∀ N10 : zN, N10 = zpui N 45 r4.toNatClampNeg v5 → k14 v4 (v5 + (1 : Int32)) M8 N10)) ∧ (¬ 0 ≤ r4 → w_MP_fillKernelRow v4 v5 a1 M N (fun M12 => k14 (v4 + (1 : Int32)) (v5 + (1 : Int32)) M12 N))))
def L_MP_fillKernel_14 (P : Int32 → zM → zN → Prop) (a1 : Int32) (a2 : Int64) (n : Nat) : Int32 → Int32 → zM → zN → Prop := Nat.rec (fun _ _ _ _ => False) (fun _ k => B_MP_fillKernel_14 P a1 a2 k) n
def w_MP_fillKernel (a1 : Int32) (a2 : Int64) (M : zM) (N : zN) (P : Int32 → zM → zN → Prop) : Prop := w_Ar_fillI 45 (-1 : Int32) N (fun N3 => ∃ n, L_MP_fillKernel_14 P a1 a2 n (0 : Int32) (0 : Int32) M N3)
def ws_MP_fillKernel : List Cond := .code y_MP_fillKernel prog_5_method_5_code 7 (Option.some Jvm.ClassFile.FieldType.int) :: zall
def rm_MP_fillKernel : Room := { frames := 2, cells := 0, slots := 0, locals := 60 }
theorem hd_MP_fillKernel : y_MP_fillKernel.cls ≠ "java/lang/invoke/MethodHandle" ∧ y_MP_fillKernel.cls ≠ "java/lang/invoke/VarHandle" ∧ (parseMethodDescriptor y_MP_fillKernel.desc).map (fun d => d.parameters.length) = some 2 := by decide +kernel
set_option maxHeartbeats 4000000 in
set_option maxRecDepth 100000 in
theorem c_MP_fillKernel (l : Launch) (G : zG) (b : Nat) (a1 : Int32) (a2 : Int64) (M : zM) (N : zN) {P : Int32 → zM → zN → Prop} (hw : w_MP_fillKernel a1 a2 M N P) : Met l y_MP_fillKernel ws_MP_fillKernel rm_MP_fillKernel (zPc G b M N [.ref (b + 17), .int a1, .long a2]) (zQi G b (fun r M' N' => P r M' N')) 0 0 (zA b) := by
  refine Met.ofW (cc := prog_5_method_5_code) (maxL := 7) (ret := (Option.some Jvm.ClassFile.FieldType.int)) (by decide) rfl ?_
  intro p e s m args below meth c s₁ B hml hv
  obtain ⟨rfl, hZ, hK, hT⟩ := hv
  have hx := B.exec
  have hb := B.bytes
  have hr := B.returns
  have hts := atoms_spec (ws := ws_MP_fillKernel) B.pre
  have hta : ∀ w ∈ zall, w.before ([.ref (b + 17), .int a1, .long a2] : List Value).toArray s = true := fun w h => hts w (List.mem_cons_of_mem _ h)
  have hown : s.vm.findClass R_MP = some m.cls := findClass_of_methodNamed B.named
  have hlocks := B.notSynchronized
  have hS : va_S (zA b) s.heap s.heap [] := va_S.rf
  have hl := lv_entry ([.ref (b + 17), .int a1, .long a2]) (n := 7) (Nat.le_of_ble_eq_true rfl)
  rw [lg_entry_eq]
  generalize (lg_sl ([.ref (b + 17), .int a1, .long a2]) ++ List.replicate (7 - (lg_sl ([.ref (b + 17), .int a1, .long a2])).length) Slot.unset).toArray = ls at hl ⊢
  have hl : lv_has ls 7 [(0, .ref (b + 17)), (1, .int a1), (2, .long a2)] := hl
  have lp14 : ∀ (n : Nat) (v4 : Int32) (v5 : Int32) (M : zM) (N : zN) (H : Heap) (ls : Array Slot) (locs : List Loc), va_P G.1 zCl (zws G b M N) H → va_S (zA b) s.heap H locs → lv_has ls 7 [(0, .ref (b + 17)), (1, .int a1), (2, .long a2), (4, .int v4), (5, .int v5)] → L_MP_fillKernel_14 P a1 a2 n v4 v5 M N → W p l e (headSpec ws_MP_fillKernel rm_MP_fillKernel).room s m ([.ref (b + 17), .int a1, .long a2] : List Value).toArray below meth c H locs 0 0 (MQ below (zQi G b (fun r M' N' => P r M' N')) ([.ref (b + 17), .int a1, .long a2] : List Value).toArray s 0 0 (zA b)) (F0 m 14 ls []) := by
    intro  n
    induction n with
    | zero => intro v4 v5 M N H ls locs hZ hS hl hw; exact False.elim hw
    | succ n14 ih14 =>
      intro v4 v5 M N H ls locs hZ hS hl hw
      have hw : B_MP_fillKernel_14 P a1 a2 (L_MP_fillKernel_14 P a1 a2 n14) v4 v5 M N := hw
      unfold B_MP_fillKernel_14 at hw
      refine lv_iload (pc := 14) hx hb d_MP_fillKernel_14 (lv_at hl 4 rfl) ?_
      refine lv_iload_n (pc := 16) hx hb d_MP_fillKernel_16 rfl (lv_at hl 1 rfl) ?_
      refine lv_icmp_ge (pc := 17) (tgt := 74) hx hb d_MP_fillKernel_17 (by decide) (fun hc => ?_) (fun hc => ?_)
      · have hw := hw.1 hc
        refine lv_iload (pc := 74) hx hb d_MP_fillKernel_74 (lv_at hl 3 rfl) ?_
        exact z_iret hx hb hr hlocks hK hT hZ hS hw d_MP_fillKernel_76
      · have hw := hw.2 hc
        refine lv_aload_n (pc := 20) hx hb d_MP_fillKernel_20 rfl (lv_at hl 0 rfl) ?_
        refine lv_iload (pc := 21) hx hb d_MP_fillKernel_21 (lv_at hl 4 rfl) ?_
        refine lv_iload_n (pc := 23) hx hb d_MP_fillKernel_23 rfl (lv_at hl 1 rfl) ?_
        refine z_calli (pc := 24) (va_runV (C := R_MP) (b := b + 17) (As := [.int v5, .int a1]) (rest := []) ⟨hx, hb, hml, hown, hts⟩ (c_MP_freeColumn l G b v5 a1 M N hw) (cwV 2 hts (z_good (zgV wd559 wd561 wsel6 wd4 wd562)) rfl rfl rfl ⟨rfl, hd_MP_freeColumn⟩ ⟨Nat.le_of_ble_eq_true rfl, Nat.le_of_ble_eq_true rfl⟩) (z_preV zo_MP rfl rfl hZ hK hT hS) rfl rfl hl.1 rfl (lv_room (Nat.le_of_ble_eq_true rfl)) d_MP_fillKernel_24 ⟨Nat.le_of_ble_eq_true rfl, Nat.le_of_ble_eq_true rfl⟩) hS (fun r4 M5 N6 H locs hw hZ hS => ?_)
        obtain ⟨hw, eM5, eN6⟩ := hw
        rw [eM5, eN6] at hZ
        refine lv_istore (pc := 27) (lv' := [(6, .int r4), (0, .ref (b + 17)), (1, .int a1), (2, .long a2), (4, .int v4), (5, .int v5)]) hx hb d_MP_fillKernel_27 hl (by decide) rfl (fun ls hl => ?_)
        refine lv_iload (pc := 29) hx hb d_MP_fillKernel_29 (lv_at hl 0 rfl) ?_
        refine lv_if_ge (pc := 31) (tgt := 49) hx hb d_MP_fillKernel_31 (by decide) (fun hc => ?_) (fun hc => ?_)
        · have hw := hw.1 hc
          refine lv_aload_n (pc := 49) hx hb d_MP_fillKernel_49 rfl (lv_at hl 1 rfl) ?_
          refine lv_iload (pc := 50) hx hb d_MP_fillKernel_50 (lv_at hl 5 rfl) ?_
          refine lv_iload (pc := 52) hx hb d_MP_fillKernel_52 (lv_at hl 0 rfl) ?_
          refine lv_iload_n (pc := 54) hx hb d_MP_fillKernel_54 rfl (lv_at hl 2 rfl) ?_
          refine lv_lload_n (pc := 55) hx hb d_MP_fillKernel_55 rfl (lv_at hl 3 rfl) ?_
          refine z_callv (pc := 56) (va_runV (C := R_MP) (b := b + 17) (As := [.int v5, .int r4, .int a1, .long a2]) (rest := []) ⟨hx, hb, hml, hown, hts⟩ (c_MP_clearRow l G b v5 r4 a1 a2 M N hw) (cwV 4 hts (z_good (zgV wd567 wd569 wsel8 wd4 wd570)) rfl rfl rfl ⟨rfl, hd_MP_clearRow⟩ ⟨Nat.le_of_ble_eq_true rfl, Nat.le_of_ble_eq_true rfl⟩) (z_preV zo_MP rfl rfl hZ hK hT hS) rfl rfl hl.1 rfl (lv_room (Nat.le_of_ble_eq_true rfl)) d_MP_fillKernel_56 ⟨Nat.le_of_ble_eq_true rfl, Nat.le_of_ble_eq_true rfl⟩) hS (fun M8 N9 H locs hw hZ hS => ?_)
          obtain ⟨hw, eN9⟩ := hw
          rw [eN9] at hZ
          refine lv_aload_n (pc := 59) hx hb d_MP_fillKernel_59 rfl (lv_at hl 1 rfl) ?_
          refine zg_MP_26 (pc := 60) hx hb hta hown hK hZ d_MP_fillKernel_60 ?_
          refine lv_iload (pc := 63) hx hb d_MP_fillKernel_63 (lv_at hl 0 rfl) ?_
          refine lv_iload (pc := 65) hx hb d_MP_fillKernel_65 (lv_at hl 5 rfl) ?_
          obtain ⟨hc, hw⟩ := hw
          refine z_iast (pc := 67) hx hb hK hZ hS hc d_MP_fillKernel_67 (fun N10 H locs hN10 hZ hS => ?_)
          have hw := hw N10 hN10
          refine lv_iinc (pc := 68) (k := 5) (v := v5 + (1 : Int32)) (lv' := [(5, .int (v5 + (1 : Int32))), (6, .int r4), (0, .ref (b + 17)), (1, .int a1), (2, .long a2), (4, .int v4)]) hx hb d_MP_fillKernel_68 hl rfl (by rfl) (by decide) rfl (fun ls hl => ?_)
          refine lv_goto (pc := 71) (tgt := 14) hx hb d_MP_fillKernel_71 (by decide) ?_
          exact ih14 v4 (v5 + (1 : Int32)) M8 N10 _ _ _ hZ hS (lv_sub hl [2, 3, 4, 5, 0] rfl) hw
        · have hw := hw.2 hc
          refine lv_aload_n (pc := 34) hx hb d_MP_fillKernel_34 rfl (lv_at hl 1 rfl) ?_
          refine lv_iload (pc := 35) hx hb d_MP_fillKernel_35 (lv_at hl 4 rfl) ?_
          refine lv_iload (pc := 37) hx hb d_MP_fillKernel_37 (lv_at hl 5 rfl) ?_
          refine lv_iload_n (pc := 39) hx hb d_MP_fillKernel_39 rfl (lv_at hl 2 rfl) ?_
          refine z_callv (pc := 40) (va_runV (C := R_MP) (b := b + 17) (As := [.int v4, .int v5, .int a1]) (rest := []) ⟨hx, hb, hml, hown, hts⟩ (c_MP_fillKernelRow l G b v4 v5 a1 M N hw) (cwV 3 hts (z_good (zgV wd563 wd565 wsel7 wd4 wd566)) rfl rfl rfl ⟨rfl, hd_MP_fillKernelRow⟩ ⟨Nat.le_of_ble_eq_true rfl, Nat.le_of_ble_eq_true rfl⟩) (z_preV zo_MP rfl rfl hZ hK hT hS) rfl rfl hl.1 rfl (lv_room (Nat.le_of_ble_eq_true rfl)) d_MP_fillKernel_40 ⟨Nat.le_of_ble_eq_true rfl, Nat.le_of_ble_eq_true rfl⟩) hS (fun M12 N13 H locs hw hZ hS => ?_)
          obtain ⟨hw, eN13⟩ := hw
          rw [eN13] at hZ
          refine lv_iinc (pc := 43) (k := 4) (v := v4 + (1 : Int32)) (lv' := [(4, .int (v4 + (1 : Int32))), (6, .int r4), (0, .ref (b + 17)), (1, .int a1), (2, .long a2), (5, .int v5)]) hx hb d_MP_fillKernel_43 hl rfl (by rfl) (by decide) rfl (fun ls hl => ?_)
          refine lv_goto (pc := 46) (tgt := 68) hx hb d_MP_fillKernel_46 (by decide) ?_
          refine lv_iinc (pc := 68) (k := 5) (v := v5 + (1 : Int32)) (lv' := [(5, .int (v5 + (1 : Int32))), (4, .int (v4 + (1 : Int32))), (6, .int r4), (0, .ref (b + 17)), (1, .int a1), (2, .long a2)]) hx hb d_MP_fillKernel_68 hl rfl (by rfl) (by decide) rfl (fun ls hl => ?_)
          refine lv_goto (pc := 71) (tgt := 14) hx hb d_MP_fillKernel_71 (by decide) ?_
          exact ih14 (v4 + (1 : Int32)) (v5 + (1 : Int32)) M12 N _ _ _ hZ hS (lv_sub hl [3, 4, 5, 1, 0] rfl) hw
  unfold w_MP_fillKernel at hw
  refine lv_iconst (pc := 0) (v := 0) hx hb d_MP_fillKernel_0 (by decide) ?_
  refine lv_istore (pc := 1) (lv' := [(4, .int (0 : Int32)), (0, .ref (b + 17)), (1, .int a1), (2, .long a2)]) hx hb d_MP_fillKernel_1 hl (by decide) rfl (fun ls hl => ?_)
  refine lv_aload_n (pc := 3) hx hb d_MP_fillKernel_3 rfl (lv_at hl 1 rfl) ?_
  refine zg_MP_26 (pc := 4) hx hb hta hown hK hZ d_MP_fillKernel_4 ?_
  refine lv_iconst (pc := 7) (v := -1) hx hb d_MP_fillKernel_7 (by decide) ?_
  refine z_callv (pc := 8) (va_runS (As := [.ref (b + 45), .int (-1 : Int32)]) (rest := []) ⟨hx, hb, hml, hown, hts⟩ (c_Ar_fillI l G b 45 (-1 : Int32) M N hw) (va_cwS 2 hts (z_good (zgS wd556 wd557 wd14 wd558)) rfl rfl rfl hd_Ar_fillI ⟨Nat.le_of_ble_eq_true rfl, Nat.le_of_ble_eq_true rfl⟩) (z_preS hZ hK hT hS) rfl rfl hl.1 rfl (lv_room (Nat.le_of_ble_eq_true rfl)) d_MP_fillKernel_8 ⟨Nat.le_of_ble_eq_true rfl, Nat.le_of_ble_eq_true rfl⟩) hS (fun M2 N3 H locs hw hZ hS => ?_)
  obtain ⟨hw, eM2⟩ := hw
  rw [eM2] at hZ
  refine lv_iconst (pc := 11) (v := 0) hx hb d_MP_fillKernel_11 (by decide) ?_
  refine lv_istore (pc := 12) (lv' := [(5, .int (0 : Int32)), (4, .int (0 : Int32)), (0, .ref (b + 17)), (1, .int a1), (2, .long a2)]) hx hb d_MP_fillKernel_12 hl (by decide) rfl (fun ls hl => ?_)
  obtain ⟨n, hw⟩ := hw
  exact lp14  n (0 : Int32) (0 : Int32) M N3 _ _ _ hZ hS (lv_sub hl [2, 3, 4, 1, 0] rfl) hw
theorem wsel4 : Cond.selects R_MP y_MP_fillMatrix y_MP_fillMatrix ∈ zall := List.mem_filter.mpr ⟨List.mem_append_left _ (List.mem_of_getElem? (i := 4) rfl), by decide +kernel⟩
theorem wsel5 : Cond.selects R_MP y_MP_fillKernel y_MP_fillKernel ∈ zall := List.mem_filter.mpr ⟨List.mem_append_left _ (List.mem_of_getElem? (i := 5) rfl), by decide +kernel⟩
theorem d_MP_countOf_0 : decode prog_5_method_2_code 0 = .ok (.aload_n 1, 1) := by decide +kernel
theorem d_MP_countOf_1 : decode prog_5_method_2_code 1 = .ok (.aload_n 0, 1) := by decide +kernel
theorem d_MP_countOf_2 : decode prog_5_method_2_code 2 = .ok (.getfield 34, 3) := by decide +kernel
theorem d_MP_countOf_5 : decode prog_5_method_2_code 5 = .ok (.lload_n 2, 1) := by decide +kernel
theorem d_MP_countOf_6 : decode prog_5_method_2_code 6 = .ok (.invokestatic 46, 3) := by decide +kernel
theorem d_MP_countOf_9 : decode prog_5_method_2_code 9 = .ok (.aload_n 0, 1) := by decide +kernel
theorem d_MP_countOf_10 : decode prog_5_method_2_code 10 = .ok (.getfield 34, 3) := by decide +kernel
theorem d_MP_countOf_13 : decode prog_5_method_2_code 13 = .ok (.invokestatic 52, 3) := by decide +kernel
theorem d_MP_countOf_16 : decode prog_5_method_2_code 16 = .ok (.istore 4, 2) := by decide +kernel
theorem d_MP_countOf_18 : decode prog_5_method_2_code 18 = .ok (.iload 4, 2) := by decide +kernel
theorem d_MP_countOf_20 : decode prog_5_method_2_code 20 = .ok (.iconst 1, 1) := by decide +kernel
theorem d_MP_countOf_21 : decode prog_5_method_2_code 21 = .ok (.if_icmp .ge 6, 3) := by decide +kernel
theorem d_MP_countOf_24 : decode prog_5_method_2_code 24 = .ok (.iload 4, 2) := by decide +kernel
theorem d_MP_countOf_26 : decode prog_5_method_2_code 26 = .ok (.ireturn, 1) := by decide +kernel
theorem d_MP_countOf_27 : decode prog_5_method_2_code 27 = .ok (.aload_n 0, 1) := by decide +kernel
theorem d_MP_countOf_28 : decode prog_5_method_2_code 28 = .ok (.getfield 34, 3) := by decide +kernel
theorem d_MP_countOf_31 : decode prog_5_method_2_code 31 = .ok (.lload_n 2, 1) := by decide +kernel
theorem d_MP_countOf_32 : decode prog_5_method_2_code 32 = .ok (.invokestatic 58, 3) := by decide +kernel
theorem d_MP_countOf_35 : decode prog_5_method_2_code 35 = .ok (.aload_n 0, 1) := by decide +kernel
theorem d_MP_countOf_36 : decode prog_5_method_2_code 36 = .ok (.iload 4, 2) := by decide +kernel
theorem d_MP_countOf_38 : decode prog_5_method_2_code 38 = .ok (.lload_n 2, 1) := by decide +kernel
theorem d_MP_countOf_39 : decode prog_5_method_2_code 39 = .ok (.invokevirtual 62, 3) := by decide +kernel
theorem d_MP_countOf_42 : decode prog_5_method_2_code 42 = .ok (.aload_n 0, 1) := by decide +kernel
theorem d_MP_countOf_43 : decode prog_5_method_2_code 43 = .ok (.iload 4, 2) := by decide +kernel
theorem d_MP_countOf_45 : decode prog_5_method_2_code 45 = .ok (.lload_n 2, 1) := by decide +kernel
theorem d_MP_countOf_46 : decode prog_5_method_2_code 46 = .ok (.invokevirtual 66, 3) := by decide +kernel
theorem d_MP_countOf_49 : decode prog_5_method_2_code 49 = .ok (.ireturn, 1) := by decide +kernel
def w_MP_countOf (a1 : Nat) (a2 : Int64) (M : zM) (N : zN) (P : Int32 → zM → zN → Prop) : Prop := w_Re_reduceInto a1 47 a2 M (fun M2 => w_Ro_degreeOf 47 M2 (fun r4 => ((1 : Int32) ≤ r4 → w_Re_makeMonic 47 a2 M2 (fun M8 => w_MP_fillMatrix r4 a2 M8 (fun M11 => w_MP_fillKernel r4 a2 M11 N (fun r13 M14 N15 => P r13 M14 N15)))) ∧ (¬ (1 : Int32) ≤ r4 → P r4 M2 N)))
def ws_MP_countOf : List Cond := .code y_MP_countOf prog_5_method_2_code 5 (Option.some Jvm.ClassFile.FieldType.int) :: zall
def rm_MP_countOf : Room := { frames := 3, cells := 0, slots := 0, locals := 86 }
theorem hd_MP_countOf : y_MP_countOf.cls ≠ "java/lang/invoke/MethodHandle" ∧ y_MP_countOf.cls ≠ "java/lang/invoke/VarHandle" ∧ (parseMethodDescriptor y_MP_countOf.desc).map (fun d => d.parameters.length) = some 2 := by decide +kernel
set_option maxHeartbeats 4000000 in
set_option maxRecDepth 100000 in
theorem c_MP_countOf (l : Launch) (G : zG) (b : Nat) (a1 : Nat) (a2 : Int64) (M : zM) (N : zN) {P : Int32 → zM → zN → Prop} (hw : w_MP_countOf a1 a2 M N P) : Met l y_MP_countOf ws_MP_countOf rm_MP_countOf (zPc G b M N [.ref (b + 17), .ref (b + a1), .long a2]) (zQi G b (fun r M' N' => P r M' N')) 0 0 (zA b) := by
  refine Met.ofW (cc := prog_5_method_2_code) (maxL := 5) (ret := (Option.some Jvm.ClassFile.FieldType.int)) (by decide) rfl ?_
  intro p e s m args below meth c s₁ B hml hv
  obtain ⟨rfl, hZ, hK, hT⟩ := hv
  have hx := B.exec
  have hb := B.bytes
  have hr := B.returns
  have hts := atoms_spec (ws := ws_MP_countOf) B.pre
  have hta : ∀ w ∈ zall, w.before ([.ref (b + 17), .ref (b + a1), .long a2] : List Value).toArray s = true := fun w h => hts w (List.mem_cons_of_mem _ h)
  have hown : s.vm.findClass R_MP = some m.cls := findClass_of_methodNamed B.named
  have hlocks := B.notSynchronized
  have hS : va_S (zA b) s.heap s.heap [] := va_S.rf
  have hl := lv_entry ([.ref (b + 17), .ref (b + a1), .long a2]) (n := 5) (Nat.le_of_ble_eq_true rfl)
  rw [lg_entry_eq]
  generalize (lg_sl ([.ref (b + 17), .ref (b + a1), .long a2]) ++ List.replicate (5 - (lg_sl ([.ref (b + 17), .ref (b + a1), .long a2])).length) Slot.unset).toArray = ls at hl ⊢
  have hl : lv_has ls 5 [(0, .ref (b + 17)), (1, .ref (b + a1)), (2, .long a2)] := hl
  unfold w_MP_countOf at hw
  refine lv_aload_n (pc := 0) hx hb d_MP_countOf_0 rfl (lv_at hl 1 rfl) ?_
  refine lv_aload_n (pc := 1) hx hb d_MP_countOf_1 rfl (lv_at hl 0 rfl) ?_
  refine zg_MP_34 (pc := 2) hx hb hta hown hK hZ d_MP_countOf_2 ?_
  refine lv_lload_n (pc := 5) hx hb d_MP_countOf_5 rfl (lv_at hl 2 rfl) ?_
  refine z_callv (pc := 6) (va_runS (As := [.ref (b + a1), .ref (b + 47), .long a2]) (rest := []) ⟨hx, hb, hml, hown, hts⟩ (c_Re_reduceInto l G b a1 47 a2 M N hw) (va_cwS 3 hts (z_good (zgS wd539 wd463 wd18 wd464)) rfl rfl rfl hd_Re_reduceInto ⟨Nat.le_of_ble_eq_true rfl, Nat.le_of_ble_eq_true rfl⟩) (z_preS hZ hK hT hS) rfl rfl hl.1 rfl (lv_room (Nat.le_of_ble_eq_true rfl)) d_MP_countOf_6 ⟨Nat.le_of_ble_eq_true rfl, Nat.le_of_ble_eq_true rfl⟩) hS (fun M2 N3 H locs hw hZ hS => ?_)
  obtain ⟨hw, eN3⟩ := hw
  rw [eN3] at hZ
  refine lv_aload_n (pc := 9) hx hb d_MP_countOf_9 rfl (lv_at hl 0 rfl) ?_
  refine zg_MP_34 (pc := 10) hx hb hta hown hK hZ d_MP_countOf_10 ?_
  refine z_calli (pc := 13) (va_runS (As := [.ref (b + 47)]) (rest := []) ⟨hx, hb, hml, hown, hts⟩ (c_Ro_degreeOf l G b 47 M2 N hw) (va_cwS 1 hts (z_good (zgS wd540 wd312 wd13 wd313)) rfl rfl rfl hd_Ro_degreeOf ⟨Nat.le_of_ble_eq_true rfl, Nat.le_of_ble_eq_true rfl⟩) (z_preS hZ hK hT hS) rfl rfl hl.1 rfl (lv_room (Nat.le_of_ble_eq_true rfl)) d_MP_countOf_13 ⟨Nat.le_of_ble_eq_true rfl, Nat.le_of_ble_eq_true rfl⟩) hS (fun r4 M5 N6 H locs hw hZ hS => ?_)
  obtain ⟨hw, eM5, eN6⟩ := hw
  rw [eM5, eN6] at hZ
  refine lv_istore (pc := 16) (lv' := [(4, .int r4), (0, .ref (b + 17)), (1, .ref (b + a1)), (2, .long a2)]) hx hb d_MP_countOf_16 hl (by decide) rfl (fun ls hl => ?_)
  refine lv_iload (pc := 18) hx hb d_MP_countOf_18 (lv_at hl 0 rfl) ?_
  refine lv_iconst (pc := 20) (v := 1) hx hb d_MP_countOf_20 (by decide) ?_
  refine lv_icmp_ge (pc := 21) (tgt := 27) hx hb d_MP_countOf_21 (by decide) (fun hc => ?_) (fun hc => ?_)
  · have hw := hw.1 hc
    refine lv_aload_n (pc := 27) hx hb d_MP_countOf_27 rfl (lv_at hl 1 rfl) ?_
    refine zg_MP_34 (pc := 28) hx hb hta hown hK hZ d_MP_countOf_28 ?_
    refine lv_lload_n (pc := 31) hx hb d_MP_countOf_31 rfl (lv_at hl 3 rfl) ?_
    refine z_callv (pc := 32) (va_runS (As := [.ref (b + 47), .long a2]) (rest := []) ⟨hx, hb, hml, hown, hts⟩ (c_Re_makeMonic l G b 47 a2 M2 N hw) (va_cwS 2 hts (z_good (zgS wd541 wd481 wd18 wd482)) rfl rfl rfl hd_Re_makeMonic ⟨Nat.le_of_ble_eq_true rfl, Nat.le_of_ble_eq_true rfl⟩) (z_preS hZ hK hT hS) rfl rfl hl.1 rfl (lv_room (Nat.le_of_ble_eq_true rfl)) d_MP_countOf_32 ⟨Nat.le_of_ble_eq_true rfl, Nat.le_of_ble_eq_true rfl⟩) hS (fun M8 N9 H locs hw hZ hS => ?_)
    obtain ⟨hw, eN9⟩ := hw
    rw [eN9] at hZ
    refine lv_aload_n (pc := 35) hx hb d_MP_countOf_35 rfl (lv_at hl 1 rfl) ?_
    refine lv_iload (pc := 36) hx hb d_MP_countOf_36 (lv_at hl 0 rfl) ?_
    refine lv_lload_n (pc := 38) hx hb d_MP_countOf_38 rfl (lv_at hl 3 rfl) ?_
    refine z_callv (pc := 39) (va_runV (C := R_MP) (b := b + 17) (As := [.int r4, .long a2]) (rest := []) ⟨hx, hb, hml, hown, hts⟩ (c_MP_fillMatrix l G b r4 a2 M8 N hw) (cwV 2 hts (z_good (zgV wd542 wd544 wsel4 wd4 wd545)) rfl rfl rfl ⟨rfl, hd_MP_fillMatrix⟩ ⟨Nat.le_of_ble_eq_true rfl, Nat.le_of_ble_eq_true rfl⟩) (z_preV zo_MP rfl rfl hZ hK hT hS) rfl rfl hl.1 rfl (lv_room (Nat.le_of_ble_eq_true rfl)) d_MP_countOf_39 ⟨Nat.le_of_ble_eq_true rfl, Nat.le_of_ble_eq_true rfl⟩) hS (fun M11 N12 H locs hw hZ hS => ?_)
    obtain ⟨hw, eN12⟩ := hw
    rw [eN12] at hZ
    refine lv_aload_n (pc := 42) hx hb d_MP_countOf_42 rfl (lv_at hl 1 rfl) ?_
    refine lv_iload (pc := 43) hx hb d_MP_countOf_43 (lv_at hl 0 rfl) ?_
    refine lv_lload_n (pc := 45) hx hb d_MP_countOf_45 rfl (lv_at hl 3 rfl) ?_
    refine z_calli (pc := 46) (va_runV (C := R_MP) (b := b + 17) (As := [.int r4, .long a2]) (rest := []) ⟨hx, hb, hml, hown, hts⟩ (c_MP_fillKernel l G b r4 a2 M11 N hw) (cwV 2 hts (z_good (zgV wd552 wd554 wsel5 wd4 wd555)) rfl rfl rfl ⟨rfl, hd_MP_fillKernel⟩ ⟨Nat.le_of_ble_eq_true rfl, Nat.le_of_ble_eq_true rfl⟩) (z_preV zo_MP rfl rfl hZ hK hT hS) rfl rfl hl.1 rfl (lv_room (Nat.le_of_ble_eq_true rfl)) d_MP_countOf_46 ⟨Nat.le_of_ble_eq_true rfl, Nat.le_of_ble_eq_true rfl⟩) hS (fun r13 M14 N15 H locs hw hZ hS => ?_)
    exact z_iret hx hb hr hlocks hK hT hZ hS hw d_MP_countOf_49
  · have hw := hw.2 hc
    refine lv_iload (pc := 24) hx hb d_MP_countOf_24 (lv_at hl 0 rfl) ?_
    exact z_iret hx hb hr hlocks hK hT hZ hS hw d_MP_countOf_26
theorem zg_MP_16 {p : Program} {l : Launch} {e : Env} {R : Room} {s : State} {m : MethodId} {args : Array Value} {below : List Frame} {meth : Method} {c : Code} {H : Heap} {locs : List Loc} {cells slots : Nat} {Q : State → Prop} {cc : ByteArray} {pc : Nat} {ls : Array Slot} {rest : List Value} {G : zG} {b : Nat} {M : zM} {N : zN} (hx : p.tables.exec = Jvm.exec) (hb : c.code = cc) (hta : ∀ w ∈ zall, w.before args s = true) (hown : s.vm.findClass R_MP = some m.cls) (hK : va_K G.1 zCl (zty G) s) (hZ : va_P G.1 zCl (zws G b M N) H) (hdg : decode cc pc = .ok (.getfield 16, 3)) (kk : W p l e R s m args below meth c H locs cells slots Q (F0 m (pc + 3) ls (.int (N 17 1) :: rest))) : W p l e R s m args below meth c H locs cells slots Q (F0 m pc ls (.ref (b + 17) :: rest)) :=
  va_get (D := G.1) (ci := 3) (v := .int (N 17 1)) (C := R_MP) (T := T_MP) (N := 10) hx hb hta hin_MP hown hK hZ 17 zo_MP rfl 1 (by decide) (hta _ wd73) (fun _ h9 => h9) rfl hdg kk
theorem zg_MP_11 {p : Program} {l : Launch} {e : Env} {R : Room} {s : State} {m : MethodId} {args : Array Value} {below : List Frame} {meth : Method} {c : Code} {H : Heap} {locs : List Loc} {cells slots : Nat} {Q : State → Prop} {cc : ByteArray} {pc : Nat} {ls : Array Slot} {rest : List Value} {G : zG} {b : Nat} {M : zM} {N : zN} (hx : p.tables.exec = Jvm.exec) (hb : c.code = cc) (hta : ∀ w ∈ zall, w.before args s = true) (hown : s.vm.findClass R_MP = some m.cls) (hK : va_K G.1 zCl (zty G) s) (hZ : va_P G.1 zCl (zws G b M N) H) (hdg : decode cc pc = .ok (.getfield 11, 3)) (kk : W p l e R s m args below meth c H locs cells slots Q (F0 m (pc + 3) ls (.ref (b + 18) :: rest))) : W p l e R s m args below meth c H locs cells slots Q (F0 m pc ls (.ref (b + 17) :: rest)) :=
  va_get (D := G.1) (ci := 3) (v := .ref (b + 18)) (C := R_MP) (T := T_MP) (N := 10) hx hb hta hin_MP hown hK hZ 17 zo_MP rfl 0 (by decide) (hta _ wd70) (fun _ h9 => h9) rfl hdg kk
theorem zg_MP_37 {p : Program} {l : Launch} {e : Env} {R : Room} {s : State} {m : MethodId} {args : Array Value} {below : List Frame} {meth : Method} {c : Code} {H : Heap} {locs : List Loc} {cells slots : Nat} {Q : State → Prop} {cc : ByteArray} {pc : Nat} {ls : Array Slot} {rest : List Value} {G : zG} {b : Nat} {M : zM} {N : zN} (hx : p.tables.exec = Jvm.exec) (hb : c.code = cc) (hta : ∀ w ∈ zall, w.before args s = true) (hown : s.vm.findClass R_MP = some m.cls) (hK : va_K G.1 zCl (zty G) s) (hZ : va_P G.1 zCl (zws G b M N) H) (hdg : decode cc pc = .ok (.getfield 37, 3)) (kk : W p l e R s m args below meth c H locs cells slots Q (F0 m (pc + 3) ls (.ref (b + 48) :: rest))) : W p l e R s m args below meth c H locs cells slots Q (F0 m pc ls (.ref (b + 17) :: rest)) :=
  va_get (D := G.1) (ci := 3) (v := .ref (b + 48)) (C := R_MP) (T := T_MP) (N := 10) hx hb hta hin_MP hown hK hZ 17 zo_MP rfl 7 (by decide) (hta _ wd81) (fun _ h9 => h9) rfl hdg kk
theorem zg_MP_40 {p : Program} {l : Launch} {e : Env} {R : Room} {s : State} {m : MethodId} {args : Array Value} {below : List Frame} {meth : Method} {c : Code} {H : Heap} {locs : List Loc} {cells slots : Nat} {Q : State → Prop} {cc : ByteArray} {pc : Nat} {ls : Array Slot} {rest : List Value} {G : zG} {b : Nat} {M : zM} {N : zN} (hx : p.tables.exec = Jvm.exec) (hb : c.code = cc) (hta : ∀ w ∈ zall, w.before args s = true) (hown : s.vm.findClass R_MP = some m.cls) (hK : va_K G.1 zCl (zty G) s) (hZ : va_P G.1 zCl (zws G b M N) H) (hdg : decode cc pc = .ok (.getfield 40, 3)) (kk : W p l e R s m args below meth c H locs cells slots Q (F0 m (pc + 3) ls (.ref (b + 49) :: rest))) : W p l e R s m args below meth c H locs cells slots Q (F0 m pc ls (.ref (b + 17) :: rest)) :=
  va_get (D := G.1) (ci := 3) (v := .ref (b + 49)) (C := R_MP) (T := T_MP) (N := 10) hx hb hta hin_MP hown hK hZ 17 zo_MP rfl 8 (by decide) (hta _ wd82) (fun _ h9 => h9) rfl hdg kk
theorem zg_MP_43 {p : Program} {l : Launch} {e : Env} {R : Room} {s : State} {m : MethodId} {args : Array Value} {below : List Frame} {meth : Method} {c : Code} {H : Heap} {locs : List Loc} {cells slots : Nat} {Q : State → Prop} {cc : ByteArray} {pc : Nat} {ls : Array Slot} {rest : List Value} {G : zG} {b : Nat} {M : zM} {N : zN} (hx : p.tables.exec = Jvm.exec) (hb : c.code = cc) (hta : ∀ w ∈ zall, w.before args s = true) (hown : s.vm.findClass R_MP = some m.cls) (hK : va_K G.1 zCl (zty G) s) (hZ : va_P G.1 zCl (zws G b M N) H) (hdg : decode cc pc = .ok (.getfield 43, 3)) (kk : W p l e R s m args below meth c H locs cells slots Q (F0 m (pc + 3) ls (.ref (b + 50) :: rest))) : W p l e R s m args below meth c H locs cells slots Q (F0 m pc ls (.ref (b + 17) :: rest)) :=
  va_get (D := G.1) (ci := 3) (v := .ref (b + 50)) (C := R_MP) (T := T_MP) (N := 10) hx hb hta hin_MP hown hK hZ 17 zo_MP rfl 9 (by decide) (hta _ wd83) (fun _ h9 => h9) rfl hdg kk
theorem zp_MP_16 {p : Program} {l : Launch} {e : Env} {R : Room} {s : State} {m : MethodId} {args : Array Value} {below : List Frame} {meth : Method} {c : Code} {H : Heap} {locs : List Loc} {cells slots : Nat} {Q : State → Prop} {cc : ByteArray} {pc : Nat} {ls : Array Slot} {rest : List Value} {G : zG} {b : Nat} {M : zM} {N : zN} {H0 : Heap} {x : Int32} (hx : p.tables.exec = Jvm.exec) (hb : c.code = cc) (hta : ∀ w ∈ zall, w.before args s = true) (hown : s.vm.findClass R_MP = some m.cls) (hK : va_K G.1 zCl (zty G) s) (hZ : va_P G.1 zCl (zws G b M N) H) (hS : va_S (zA b) H0 H locs) (hdg : decode cc pc = .ok (.putfield 16, 3)) (kk : ∀ (N1 : zN) (H1 : Heap) (locs1 : List Loc), N1 = zpui N 17 1 x → va_P G.1 zCl (zws G b M N1) H1 → va_S (zA b) H0 H1 locs1 → W p l e R s m args below meth c H1 locs1 cells slots Q (F0 m (pc + 3) ls rest)) : W p l e R s m args below meth c H locs cells slots Q (F0 m pc ls (.int x :: .ref (b + 17) :: rest)) := by
  refine va_put (D := G.1) (ci := 3) (v := .int x) (ty := .int) (C := R_MP) (T := T_MP) (N := 10) hx hb hta hin_MP ty_MP tyok_MP nm_MP hown hK hZ z_D hS 17 zo_MP rfl 1 (by decide) (hta _ wd73) (fun _ h9 => h9) rfl (by decide +kernel) rfl rfl (Nat.le_of_ble_eq_true rfl) hdg (fun H1 locs1 h1 _ h3 => ?_)
  have h2 : va_P G.1 zCl ((zws G b M N).set 17 (b + 17, zcell G b (M 17) ((zpui N 17 1 x) 17) 17)) H1 := h1
  rw [z_set (M' := M) (N' := (zpui N 17 1 x)) (k := 17) (by decide) rfl (fun j _ => rfl) (fun j hj => zpui_ne hj)] at h2
  exact kk _ H1 locs1 rfl h2 h3
theorem d_MP_splitAll_0 : decode prog_5_method_9_code 0 = .ok (.aload_n 0, 1) := by decide +kernel
theorem d_MP_splitAll_1 : decode prog_5_method_9_code 1 = .ok (.getfield 16, 3) := by decide +kernel
theorem d_MP_splitAll_4 : decode prog_5_method_9_code 4 = .ok (.istore 6, 2) := by decide +kernel
theorem d_MP_splitAll_6 : decode prog_5_method_9_code 6 = .ok (.iconst 0, 1) := by decide +kernel
theorem d_MP_splitAll_7 : decode prog_5_method_9_code 7 = .ok (.istore 7, 2) := by decide +kernel
theorem d_MP_splitAll_9 : decode prog_5_method_9_code 9 = .ok (.iload 7, 2) := by decide +kernel
theorem d_MP_splitAll_11 : decode prog_5_method_9_code 11 = .ok (.iload 6, 2) := by decide +kernel
theorem d_MP_splitAll_13 : decode prog_5_method_9_code 13 = .ok (.if_icmp .ge 167, 3) := by decide +kernel
theorem d_MP_splitAll_16 : decode prog_5_method_9_code 16 = .ok (.aload_n 0, 1) := by decide +kernel
theorem d_MP_splitAll_17 : decode prog_5_method_9_code 17 = .ok (.getfield 16, 3) := by decide +kernel
theorem d_MP_splitAll_20 : decode prog_5_method_9_code 20 = .ok (.bipush 8, 2) := by decide +kernel
theorem d_MP_splitAll_22 : decode prog_5_method_9_code 22 = .ok (.if_icmp .ge 158, 3) := by decide +kernel
theorem d_MP_splitAll_25 : decode prog_5_method_9_code 25 = .ok (.aload_n 0, 1) := by decide +kernel
theorem d_MP_splitAll_26 : decode prog_5_method_9_code 26 = .ok (.getfield 11, 3) := by decide +kernel
theorem d_MP_splitAll_29 : decode prog_5_method_9_code 29 = .ok (.iload 7, 2) := by decide +kernel
theorem d_MP_splitAll_31 : decode prog_5_method_9_code 31 = .ok (.aaload, 1) := by decide +kernel
theorem d_MP_splitAll_32 : decode prog_5_method_9_code 32 = .ok (.invokestatic 52, 3) := by decide +kernel
theorem d_MP_splitAll_35 : decode prog_5_method_9_code 35 = .ok (.iconst 2, 1) := by decide +kernel
theorem d_MP_splitAll_36 : decode prog_5_method_9_code 36 = .ok (.if_icmp .ge 6, 3) := by decide +kernel
theorem d_MP_splitAll_39 : decode prog_5_method_9_code 39 = .ok (.goto 135, 3) := by decide +kernel
theorem d_MP_splitAll_42 : decode prog_5_method_9_code 42 = .ok (.aload_n 0, 1) := by decide +kernel
theorem d_MP_splitAll_43 : decode prog_5_method_9_code 43 = .ok (.getfield 11, 3) := by decide +kernel
theorem d_MP_splitAll_46 : decode prog_5_method_9_code 46 = .ok (.iload 7, 2) := by decide +kernel
theorem d_MP_splitAll_48 : decode prog_5_method_9_code 48 = .ok (.aaload, 1) := by decide +kernel
theorem d_MP_splitAll_49 : decode prog_5_method_9_code 49 = .ok (.aload_n 0, 1) := by decide +kernel
theorem d_MP_splitAll_50 : decode prog_5_method_9_code 50 = .ok (.getfield 37, 3) := by decide +kernel
theorem d_MP_splitAll_53 : decode prog_5_method_9_code 53 = .ok (.invokestatic 74, 3) := by decide +kernel
theorem d_MP_splitAll_56 : decode prog_5_method_9_code 56 = .ok (.aload_n 1, 1) := by decide +kernel
theorem d_MP_splitAll_57 : decode prog_5_method_9_code 57 = .ok (.aload_n 0, 1) := by decide +kernel
theorem d_MP_splitAll_58 : decode prog_5_method_9_code 58 = .ok (.getfield 40, 3) := by decide +kernel
theorem d_MP_splitAll_61 : decode prog_5_method_9_code 61 = .ok (.invokestatic 74, 3) := by decide +kernel
theorem d_MP_splitAll_64 : decode prog_5_method_9_code 64 = .ok (.aload_n 0, 1) := by decide +kernel
theorem d_MP_splitAll_65 : decode prog_5_method_9_code 65 = .ok (.getfield 40, 3) := by decide +kernel
theorem d_MP_splitAll_68 : decode prog_5_method_9_code 68 = .ok (.iconst 0, 1) := by decide +kernel
theorem d_MP_splitAll_69 : decode prog_5_method_9_code 69 = .ok (.aload_n 0, 1) := by decide +kernel
theorem d_MP_splitAll_70 : decode prog_5_method_9_code 70 = .ok (.getfield 40, 3) := by decide +kernel
theorem d_MP_splitAll_73 : decode prog_5_method_9_code 73 = .ok (.iconst 0, 1) := by decide +kernel
theorem d_MP_splitAll_74 : decode prog_5_method_9_code 74 = .ok (.laload, 1) := by decide +kernel
theorem d_MP_splitAll_75 : decode prog_5_method_9_code 75 = .ok (.lload_n 2, 1) := by decide +kernel
theorem d_MP_splitAll_76 : decode prog_5_method_9_code 76 = .ok (.lsub, 1) := by decide +kernel
theorem d_MP_splitAll_77 : decode prog_5_method_9_code 77 = .ok (.lload 4, 2) := by decide +kernel
theorem d_MP_splitAll_79 : decode prog_5_method_9_code 79 = .ok (.invokestatic 87, 3) := by decide +kernel
theorem d_MP_splitAll_82 : decode prog_5_method_9_code 82 = .ok (.lastore, 1) := by decide +kernel
theorem d_MP_splitAll_83 : decode prog_5_method_9_code 83 = .ok (.aload_n 0, 1) := by decide +kernel
theorem d_MP_splitAll_84 : decode prog_5_method_9_code 84 = .ok (.getfield 37, 3) := by decide +kernel
theorem d_MP_splitAll_87 : decode prog_5_method_9_code 87 = .ok (.aload_n 0, 1) := by decide +kernel
theorem d_MP_splitAll_88 : decode prog_5_method_9_code 88 = .ok (.getfield 40, 3) := by decide +kernel
theorem d_MP_splitAll_91 : decode prog_5_method_9_code 91 = .ok (.aload_n 0, 1) := by decide +kernel
theorem d_MP_splitAll_92 : decode prog_5_method_9_code 92 = .ok (.getfield 43, 3) := by decide +kernel
theorem d_MP_splitAll_95 : decode prog_5_method_9_code 95 = .ok (.lload 4, 2) := by decide +kernel
theorem d_MP_splitAll_97 : decode prog_5_method_9_code 97 = .ok (.invokestatic 113, 3) := by decide +kernel
theorem d_MP_splitAll_100 : decode prog_5_method_9_code 100 = .ok (.astore 8, 2) := by decide +kernel
theorem d_MP_splitAll_102 : decode prog_5_method_9_code 102 = .ok (.aload 8, 2) := by decide +kernel
theorem d_MP_splitAll_104 : decode prog_5_method_9_code 104 = .ok (.invokestatic 52, 3) := by decide +kernel
theorem d_MP_splitAll_107 : decode prog_5_method_9_code 107 = .ok (.istore 9, 2) := by decide +kernel
theorem d_MP_splitAll_109 : decode prog_5_method_9_code 109 = .ok (.iload 9, 2) := by decide +kernel
theorem d_MP_splitAll_111 : decode prog_5_method_9_code 111 = .ok (.ifCond .le 63, 3) := by decide +kernel
theorem d_MP_splitAll_114 : decode prog_5_method_9_code 114 = .ok (.iload 9, 2) := by decide +kernel
theorem d_MP_splitAll_116 : decode prog_5_method_9_code 116 = .ok (.aload_n 0, 1) := by decide +kernel
theorem d_MP_splitAll_117 : decode prog_5_method_9_code 117 = .ok (.getfield 11, 3) := by decide +kernel
theorem d_MP_splitAll_120 : decode prog_5_method_9_code 120 = .ok (.iload 7, 2) := by decide +kernel
theorem d_MP_splitAll_122 : decode prog_5_method_9_code 122 = .ok (.aaload, 1) := by decide +kernel
theorem d_MP_splitAll_123 : decode prog_5_method_9_code 123 = .ok (.invokestatic 52, 3) := by decide +kernel
theorem d_MP_splitAll_126 : decode prog_5_method_9_code 126 = .ok (.if_icmp .ge 48, 3) := by decide +kernel
theorem d_MP_splitAll_129 : decode prog_5_method_9_code 129 = .ok (.aload_n 0, 1) := by decide +kernel
theorem d_MP_splitAll_130 : decode prog_5_method_9_code 130 = .ok (.getfield 11, 3) := by decide +kernel
theorem d_MP_splitAll_133 : decode prog_5_method_9_code 133 = .ok (.iload 7, 2) := by decide +kernel
theorem d_MP_splitAll_135 : decode prog_5_method_9_code 135 = .ok (.aaload, 1) := by decide +kernel
theorem d_MP_splitAll_136 : decode prog_5_method_9_code 136 = .ok (.aload 8, 2) := by decide +kernel
theorem d_MP_splitAll_138 : decode prog_5_method_9_code 138 = .ok (.aload_n 0, 1) := by decide +kernel
theorem d_MP_splitAll_139 : decode prog_5_method_9_code 139 = .ok (.getfield 11, 3) := by decide +kernel
theorem d_MP_splitAll_142 : decode prog_5_method_9_code 142 = .ok (.aload_n 0, 1) := by decide +kernel
theorem d_MP_splitAll_143 : decode prog_5_method_9_code 143 = .ok (.getfield 16, 3) := by decide +kernel
theorem d_MP_splitAll_146 : decode prog_5_method_9_code 146 = .ok (.aaload, 1) := by decide +kernel
theorem d_MP_splitAll_147 : decode prog_5_method_9_code 147 = .ok (.lload 4, 2) := by decide +kernel
theorem d_MP_splitAll_149 : decode prog_5_method_9_code 149 = .ok (.invokestatic 117, 3) := by decide +kernel
theorem d_MP_splitAll_152 : decode prog_5_method_9_code 152 = .ok (.aload 8, 2) := by decide +kernel
theorem d_MP_splitAll_154 : decode prog_5_method_9_code 154 = .ok (.aload_n 0, 1) := by decide +kernel
theorem d_MP_splitAll_155 : decode prog_5_method_9_code 155 = .ok (.getfield 11, 3) := by decide +kernel
theorem d_MP_splitAll_158 : decode prog_5_method_9_code 158 = .ok (.iload 7, 2) := by decide +kernel
theorem d_MP_splitAll_160 : decode prog_5_method_9_code 160 = .ok (.aaload, 1) := by decide +kernel
theorem d_MP_splitAll_161 : decode prog_5_method_9_code 161 = .ok (.invokestatic 74, 3) := by decide +kernel
theorem d_MP_splitAll_164 : decode prog_5_method_9_code 164 = .ok (.aload_n 0, 1) := by decide +kernel
theorem d_MP_splitAll_165 : decode prog_5_method_9_code 165 = .ok (.dup, 1) := by decide +kernel
theorem d_MP_splitAll_166 : decode prog_5_method_9_code 166 = .ok (.getfield 16, 3) := by decide +kernel
theorem d_MP_splitAll_169 : decode prog_5_method_9_code 169 = .ok (.iconst 1, 1) := by decide +kernel
theorem d_MP_splitAll_170 : decode prog_5_method_9_code 170 = .ok (.iadd, 1) := by decide +kernel
theorem d_MP_splitAll_171 : decode prog_5_method_9_code 171 = .ok (.putfield 16, 3) := by decide +kernel
theorem d_MP_splitAll_174 : decode prog_5_method_9_code 174 = .ok (.iinc 7 1, 3) := by decide +kernel
theorem d_MP_splitAll_177 : decode prog_5_method_9_code 177 = .ok (.goto (-168), 3) := by decide +kernel
theorem d_MP_splitAll_180 : decode prog_5_method_9_code 180 = .ok (.return_, 1) := by decide +kernel
def B_MP_splitAll_9 (P : zM → zN → Prop) (a1 : Nat) (a2 : Int64) (a4 : Int64) (v6 : Int32) (k9 : Int32 → zM → zN → Prop) (v7 : Int32) (M : zM) (N : zN) : Prop := (v6 ≤ v7 → P M N) ∧ (¬ v6 ≤ v7 → ((8 : Int32) ≤ (N 17 1) → P M N) ∧ (¬ (8 : Int32) ≤ (N 17 1) → vp_in v7 (zgn 18) ∧ w_Ro_degreeOf (18 + 1 + v7.toNatClampNeg) M (fun r2 => ((2 : Int32) ≤ r2 → vp_in v7 (zgn 18) ∧ w_Ro_copyInto (18 + 1 + v7.toNatClampNeg) 48 M (fun M6 => w_Ro_copyInto a1 49 M6 (fun M9 => vp_in (0 : Int32) (zlong 49) ∧ w_Re_residue ((M9 49 (0 : Int32).toNatClampNeg) - a2) a4  (fun r11 => vp_in (0 : Int32) (zlong 49) ∧ ∀ M14 : zM, M14 = zput M9 49 (0 : Int32).toNatClampNeg r11 → w_Re_commonOf 48 49 50 a4 M14 (fun r15 M16 => w_Ro_degreeOf r15 M16 (fun r18 => (r18 ≤ 0 → k9 (v7 + (1 : Int32)) M16 N) ∧ (¬ r18 ≤ 0 → vp_in v7 (zgn 18) ∧ w_Ro_degreeOf (18 + 1 + v7.toNatClampNeg) M16 (fun r21 => (r21 ≤ r18 → k9 (v7 + (1 : Int32)) M16 N) ∧ (¬ r21 ≤ r18 → vp_in v7 (zgn 18) ∧ vp_in (N 17 1) (zgn 18) ∧ w_Re_divideOut (18 + 1 + v7.toNatClampNeg) r15 (18 + 1 + (N 17 1).toNatClampNeg) a4 M16 (fun M25 => vp_in v7 (zgn 18) ∧ w_Ro_copyInto r15 (18 + 1 + v7.toNatClampNeg) M25 (fun M28 => ∀ N30 : zN, N30 = zpui N 17 1 ((N 17 1) + (1 : Int32)) → k9 (v7 + (1 : Int32)) M28 N30))))))))))) ∧ (¬ (2 : Int32) ≤ r2 → k9 (v7 + (1 : Int32)) M N))))
def L_MP_splitAll_9 (P : zM → zN → Prop) (a1 : Nat) (a2 : Int64) (a4 : Int64) (v6 : Int32) (n : Nat) : Int32 → zM → zN → Prop := Nat.rec (fun _ _ _ => False) (fun _ k => B_MP_splitAll_9 P a1 a2 a4 v6 k) n
def w_MP_splitAll (a1 : Nat) (a2 : Int64) (a4 : Int64) (M : zM) (N : zN) (P : zM → zN → Prop) : Prop := ∀ x1 : Int32, x1 = N 17 1 → ∃ n, L_MP_splitAll_9 P a1 a2 a4 x1 n (0 : Int32) M N
def ws_MP_splitAll : List Cond := .code y_MP_splitAll prog_5_method_9_code 10 (Option.none : Option Jvm.ClassFile.FieldType) :: zall
def rm_MP_splitAll : Room := { frames := 3, cells := 0, slots := 0, locals := 88 }
theorem hd_MP_splitAll : y_MP_splitAll.cls ≠ "java/lang/invoke/MethodHandle" ∧ y_MP_splitAll.cls ≠ "java/lang/invoke/VarHandle" ∧ (parseMethodDescriptor y_MP_splitAll.desc).map (fun d => d.parameters.length) = some 3 := by decide +kernel
set_option maxHeartbeats 4000000 in
set_option maxRecDepth 100000 in
theorem c_MP_splitAll (l : Launch) (G : zG) (b : Nat) (a1 : Nat) (a2 : Int64) (a4 : Int64) (M : zM) (N : zN) {P : zM → zN → Prop} (hw : w_MP_splitAll a1 a2 a4 M N P) : Met l y_MP_splitAll ws_MP_splitAll rm_MP_splitAll (zPc G b M N [.ref (b + 17), .ref (b + a1), .long a2, .long a4]) (zQv G b (fun M' N' => P M' N')) 0 0 (zA b) := by
  refine Met.ofW (cc := prog_5_method_9_code) (maxL := 10) (ret := (Option.none : Option Jvm.ClassFile.FieldType)) (by decide) rfl ?_
  intro p e s m args below meth c s₁ B hml hv
  obtain ⟨rfl, hZ, hK, hT⟩ := hv
  have hx := B.exec
  have hb := B.bytes
  have hr := B.returns
  have hts := atoms_spec (ws := ws_MP_splitAll) B.pre
  have hta : ∀ w ∈ zall, w.before ([.ref (b + 17), .ref (b + a1), .long a2, .long a4] : List Value).toArray s = true := fun w h => hts w (List.mem_cons_of_mem _ h)
  have hown : s.vm.findClass R_MP = some m.cls := findClass_of_methodNamed B.named
  have hlocks := B.notSynchronized
  have hS : va_S (zA b) s.heap s.heap [] := va_S.rf
  have hl := lv_entry ([.ref (b + 17), .ref (b + a1), .long a2, .long a4]) (n := 10) (Nat.le_of_ble_eq_true rfl)
  rw [lg_entry_eq]
  generalize (lg_sl ([.ref (b + 17), .ref (b + a1), .long a2, .long a4]) ++ List.replicate (10 - (lg_sl ([.ref (b + 17), .ref (b + a1), .long a2, .long a4])).length) Slot.unset).toArray = ls at hl ⊢
  have hl : lv_has ls 10 [(0, .ref (b + 17)), (1, .ref (b + a1)), (2, .long a2), (4, .long a4)] := hl
  have lp9 : ∀ (v6 : Int32) (n : Nat) (v7 : Int32) (M : zM) (N : zN) (H : Heap) (ls : Array Slot) (locs : List Loc), va_P G.1 zCl (zws G b M N) H → va_S (zA b) s.heap H locs → lv_has ls 10 [(0, .ref (b + 17)), (1, .ref (b + a1)), (2, .long a2), (4, .long a4), (6, .int v6), (7, .int v7)] → L_MP_splitAll_9 P a1 a2 a4 v6 n v7 M N → W p l e (headSpec ws_MP_splitAll rm_MP_splitAll).room s m ([.ref (b + 17), .ref (b + a1), .long a2, .long a4] : List Value).toArray below meth c H locs 0 0 (MQ below (zQv G b (fun M' N' => P M' N')) ([.ref (b + 17), .ref (b + a1), .long a2, .long a4] : List Value).toArray s 0 0 (zA b)) (F0 m 9 ls []) := by
    intro v6 n
    induction n with
    | zero => intro v7 M N H ls locs hZ hS hl hw; exact False.elim hw
    | succ n9 ih9 =>
      intro v7 M N H ls locs hZ hS hl hw
      have hw : B_MP_splitAll_9 P a1 a2 a4 v6 (L_MP_splitAll_9 P a1 a2 a4 v6 n9) v7 M N := hw
      unfold B_MP_splitAll_9 at hw
      refine lv_iload (pc := 9) hx hb d_MP_splitAll_9 (lv_at hl 5 rfl) ?_
      refine lv_iload (pc := 11) hx hb d_MP_splitAll_11 (lv_at hl 4 rfl) ?_
      refine lv_icmp_ge (pc := 13) (tgt := 180) hx hb d_MP_splitAll_13 (by decide) (fun hc => ?_) (fun hc => ?_)
      · have hw := hw.1 hc
        exact z_vret hx hb hr hlocks hK hT hZ hS hw d_MP_splitAll_180
      · have hw := hw.2 hc
        refine lv_aload_n (pc := 16) hx hb d_MP_splitAll_16 rfl (lv_at hl 0 rfl) ?_
        refine zg_MP_16 (pc := 17) hx hb hta hown hK hZ d_MP_splitAll_17 ?_
        refine lv_bipush (pc := 20) (v := 8) hx hb d_MP_splitAll_20 (by decide) ?_
        refine lv_icmp_ge (pc := 22) (tgt := 180) hx hb d_MP_splitAll_22 (by decide) (fun hc => ?_) (fun hc => ?_)
        · have hw := hw.1 hc
          exact z_vret hx hb hr hlocks hK hT hZ hS hw d_MP_splitAll_180
        · have hw := hw.2 hc
          refine lv_aload_n (pc := 25) hx hb d_MP_splitAll_25 rfl (lv_at hl 0 rfl) ?_
          refine zg_MP_11 (pc := 26) hx hb hta hown hK hZ d_MP_splitAll_26 ?_
          refine lv_iload (pc := 29) hx hb d_MP_splitAll_29 (lv_at hl 5 rfl) ?_
          obtain ⟨hc, hw⟩ := hw
          refine z_aald (pc := 31) hx hb hK hZ hc d_MP_splitAll_31 ?_
          refine z_calli (pc := 32) (va_runS (As := [.ref (b + (18 + 1 + v7.toNatClampNeg))]) (rest := []) ⟨hx, hb, hml, hown, hts⟩ (c_Ro_degreeOf l G b (18 + 1 + v7.toNatClampNeg) M N hw) (va_cwS 1 hts (z_good (zgS wd540 wd312 wd13 wd313)) rfl rfl rfl hd_Ro_degreeOf ⟨Nat.le_of_ble_eq_true rfl, Nat.le_of_ble_eq_true rfl⟩) (z_preS hZ hK hT hS) rfl rfl hl.1 rfl (lv_room (Nat.le_of_ble_eq_true rfl)) d_MP_splitAll_32 ⟨Nat.le_of_ble_eq_true rfl, Nat.le_of_ble_eq_true rfl⟩) hS (fun r2 M3 N4 H locs hw hZ hS => ?_)
          obtain ⟨hw, eM3, eN4⟩ := hw
          rw [eM3, eN4] at hZ
          refine lv_iconst (pc := 35) (v := 2) hx hb d_MP_splitAll_35 (by decide) ?_
          refine lv_icmp_ge (pc := 36) (tgt := 42) hx hb d_MP_splitAll_36 (by decide) (fun hc => ?_) (fun hc => ?_)
          · have hw := hw.1 hc
            refine lv_aload_n (pc := 42) hx hb d_MP_splitAll_42 rfl (lv_at hl 0 rfl) ?_
            refine zg_MP_11 (pc := 43) hx hb hta hown hK hZ d_MP_splitAll_43 ?_
            refine lv_iload (pc := 46) hx hb d_MP_splitAll_46 (lv_at hl 5 rfl) ?_
            obtain ⟨hc, hw⟩ := hw
            refine z_aald (pc := 48) hx hb hK hZ hc d_MP_splitAll_48 ?_
            refine lv_aload_n (pc := 49) hx hb d_MP_splitAll_49 rfl (lv_at hl 0 rfl) ?_
            refine zg_MP_37 (pc := 50) hx hb hta hown hK hZ d_MP_splitAll_50 ?_
            refine z_callv (pc := 53) (va_runS (As := [.ref (b + (18 + 1 + v7.toNatClampNeg)), .ref (b + 48)]) (rest := []) ⟨hx, hb, hml, hown, hts⟩ (c_Ro_copyInto l G b (18 + 1 + v7.toNatClampNeg) 48 M N hw) (va_cwS 2 hts (z_good (zgS wd547 wd363 wd13 wd364)) rfl rfl rfl hd_Ro_copyInto ⟨Nat.le_of_ble_eq_true rfl, Nat.le_of_ble_eq_true rfl⟩) (z_preS hZ hK hT hS) rfl rfl hl.1 rfl (lv_room (Nat.le_of_ble_eq_true rfl)) d_MP_splitAll_53 ⟨Nat.le_of_ble_eq_true rfl, Nat.le_of_ble_eq_true rfl⟩) hS (fun M6 N7 H locs hw hZ hS => ?_)
            obtain ⟨hw, eN7⟩ := hw
            rw [eN7] at hZ
            refine lv_aload_n (pc := 56) hx hb d_MP_splitAll_56 rfl (lv_at hl 1 rfl) ?_
            refine lv_aload_n (pc := 57) hx hb d_MP_splitAll_57 rfl (lv_at hl 0 rfl) ?_
            refine zg_MP_40 (pc := 58) hx hb hta hown hK hZ d_MP_splitAll_58 ?_
            refine z_callv (pc := 61) (va_runS (As := [.ref (b + a1), .ref (b + 49)]) (rest := []) ⟨hx, hb, hml, hown, hts⟩ (c_Ro_copyInto l G b a1 49 M6 N hw) (va_cwS 2 hts (z_good (zgS wd547 wd363 wd13 wd364)) rfl rfl rfl hd_Ro_copyInto ⟨Nat.le_of_ble_eq_true rfl, Nat.le_of_ble_eq_true rfl⟩) (z_preS hZ hK hT hS) rfl rfl hl.1 rfl (lv_room (Nat.le_of_ble_eq_true rfl)) d_MP_splitAll_61 ⟨Nat.le_of_ble_eq_true rfl, Nat.le_of_ble_eq_true rfl⟩) hS (fun M9 N10 H locs hw hZ hS => ?_)
            obtain ⟨hw, eN10⟩ := hw
            rw [eN10] at hZ
            refine lv_aload_n (pc := 64) hx hb d_MP_splitAll_64 rfl (lv_at hl 0 rfl) ?_
            refine zg_MP_40 (pc := 65) hx hb hta hown hK hZ d_MP_splitAll_65 ?_
            refine lv_iconst (pc := 68) (v := 0) hx hb d_MP_splitAll_68 (by decide) ?_
            refine lv_aload_n (pc := 69) hx hb d_MP_splitAll_69 rfl (lv_at hl 0 rfl) ?_
            refine zg_MP_40 (pc := 70) hx hb hta hown hK hZ d_MP_splitAll_70 ?_
            refine lv_iconst (pc := 73) (v := 0) hx hb d_MP_splitAll_73 (by decide) ?_
            obtain ⟨hc, hw⟩ := hw
            refine z_lald (pc := 74) hx hb hK hZ hc d_MP_splitAll_74 ?_
            refine lv_lload_n (pc := 75) hx hb d_MP_splitAll_75 rfl (lv_at hl 2 rfl) ?_
            refine lv_lsub (pc := 76) hx hb d_MP_splitAll_76 ?_
            refine lv_lload (pc := 77) hx hb d_MP_splitAll_77 (lv_at hl 3 rfl) ?_
            refine z_calll (pc := 79) (va_runS (As := [.long ((M9 49 (0 : Int32).toNatClampNeg) - a2), .long a4]) (rest := [.int (0 : Int32), .ref (b + 49)]) ⟨hx, hb, hml, hown, hts⟩ (c_Re_residue l G b ((M9 49 (0 : Int32).toNatClampNeg) - a2) a4 M9 N hw) (va_cwS 2 hts (z_good (zgS wd548 wd466 wd18 wd467)) rfl rfl rfl hd_Re_residue ⟨Nat.le_of_ble_eq_true rfl, Nat.le_of_ble_eq_true rfl⟩) (z_preS hZ hK hT hS) rfl rfl hl.1 rfl (lv_room (Nat.le_of_ble_eq_true rfl)) d_MP_splitAll_79 ⟨Nat.le_of_ble_eq_true rfl, Nat.le_of_ble_eq_true rfl⟩) hS (fun r11 M12 N13 H locs hw hZ hS => ?_)
            obtain ⟨hw, eM12, eN13⟩ := hw
            rw [eM12, eN13] at hZ
            obtain ⟨hc, hw⟩ := hw
            refine z_last (pc := 82) hx hb hK hZ hS hc d_MP_splitAll_82 (fun M14 H locs hM14 hZ hS => ?_)
            have hw := hw M14 hM14
            refine lv_aload_n (pc := 83) hx hb d_MP_splitAll_83 rfl (lv_at hl 0 rfl) ?_
            refine zg_MP_37 (pc := 84) hx hb hta hown hK hZ d_MP_splitAll_84 ?_
            refine lv_aload_n (pc := 87) hx hb d_MP_splitAll_87 rfl (lv_at hl 0 rfl) ?_
            refine zg_MP_40 (pc := 88) hx hb hta hown hK hZ d_MP_splitAll_88 ?_
            refine lv_aload_n (pc := 91) hx hb d_MP_splitAll_91 rfl (lv_at hl 0 rfl) ?_
            refine zg_MP_43 (pc := 92) hx hb hta hown hK hZ d_MP_splitAll_92 ?_
            refine lv_lload (pc := 95) hx hb d_MP_splitAll_95 (lv_at hl 3 rfl) ?_
            refine z_callr (pc := 97) (va_runS (As := [.ref (b + 48), .ref (b + 49), .ref (b + 50), .long a4]) (rest := []) ⟨hx, hb, hml, hown, hts⟩ (c_Re_commonOf l G b 48 49 50 a4 M14 N hw) (va_cwS 4 hts (z_good (zgS wd576 wd469 wd18 wd470)) rfl rfl rfl hd_Re_commonOf ⟨Nat.le_of_ble_eq_true rfl, Nat.le_of_ble_eq_true rfl⟩) (z_preS hZ hK hT hS) rfl rfl hl.1 rfl (lv_room (Nat.le_of_ble_eq_true rfl)) d_MP_splitAll_97 ⟨Nat.le_of_ble_eq_true rfl, Nat.le_of_ble_eq_true rfl⟩) hS (fun r15 M16 N17 H locs hw hZ hS => ?_)
            obtain ⟨hw, eN17⟩ := hw
            rw [eN17] at hZ
            refine lv_astore (pc := 100) (lv' := [(8, .ref (b + r15)), (0, .ref (b + 17)), (1, .ref (b + a1)), (2, .long a2), (4, .long a4), (6, .int v6), (7, .int v7)]) hx hb d_MP_splitAll_100 hl (by decide) rfl (fun ls hl => ?_)
            refine lv_aload (pc := 102) hx hb d_MP_splitAll_102 (lv_at hl 0 rfl) ?_
            refine z_calli (pc := 104) (va_runS (As := [.ref (b + r15)]) (rest := []) ⟨hx, hb, hml, hown, hts⟩ (c_Ro_degreeOf l G b r15 M16 N hw) (va_cwS 1 hts (z_good (zgS wd540 wd312 wd13 wd313)) rfl rfl rfl hd_Ro_degreeOf ⟨Nat.le_of_ble_eq_true rfl, Nat.le_of_ble_eq_true rfl⟩) (z_preS hZ hK hT hS) rfl rfl hl.1 rfl (lv_room (Nat.le_of_ble_eq_true rfl)) d_MP_splitAll_104 ⟨Nat.le_of_ble_eq_true rfl, Nat.le_of_ble_eq_true rfl⟩) hS (fun r18 M19 N20 H locs hw hZ hS => ?_)
            obtain ⟨hw, eM19, eN20⟩ := hw
            rw [eM19, eN20] at hZ
            refine lv_istore (pc := 107) (lv' := [(9, .int r18), (8, .ref (b + r15)), (0, .ref (b + 17)), (1, .ref (b + a1)), (2, .long a2), (4, .long a4), (6, .int v6), (7, .int v7)]) hx hb d_MP_splitAll_107 hl (by decide) rfl (fun ls hl => ?_)
            refine lv_iload (pc := 109) hx hb d_MP_splitAll_109 (lv_at hl 0 rfl) ?_
            refine lv_if_le (pc := 111) (tgt := 174) hx hb d_MP_splitAll_111 (by decide) (fun hc => ?_) (fun hc => ?_)
            · have hw := hw.1 hc
              refine lv_iinc (pc := 174) (k := 7) (v := v7 + (1 : Int32)) (lv' := [(7, .int (v7 + (1 : Int32))), (9, .int r18), (8, .ref (b + r15)), (0, .ref (b + 17)), (1, .ref (b + a1)), (2, .long a2), (4, .long a4), (6, .int v6)]) hx hb d_MP_splitAll_174 hl rfl (by rfl) (by decide) rfl (fun ls hl => ?_)
              refine lv_goto (pc := 177) (tgt := 9) hx hb d_MP_splitAll_177 (by decide) ?_
              exact ih9 (v7 + (1 : Int32)) M16 N _ _ _ hZ hS (lv_sub hl [3, 4, 5, 6, 7, 0] rfl) hw
            · have hw := hw.2 hc
              refine lv_iload (pc := 114) hx hb d_MP_splitAll_114 (lv_at hl 0 rfl) ?_
              refine lv_aload_n (pc := 116) hx hb d_MP_splitAll_116 rfl (lv_at hl 2 rfl) ?_
              refine zg_MP_11 (pc := 117) hx hb hta hown hK hZ d_MP_splitAll_117 ?_
              refine lv_iload (pc := 120) hx hb d_MP_splitAll_120 (lv_at hl 7 rfl) ?_
              obtain ⟨hc, hw⟩ := hw
              refine z_aald (pc := 122) hx hb hK hZ hc d_MP_splitAll_122 ?_
              refine z_calli (pc := 123) (va_runS (As := [.ref (b + (18 + 1 + v7.toNatClampNeg))]) (rest := [.int r18]) ⟨hx, hb, hml, hown, hts⟩ (c_Ro_degreeOf l G b (18 + 1 + v7.toNatClampNeg) M16 N hw) (va_cwS 1 hts (z_good (zgS wd540 wd312 wd13 wd313)) rfl rfl rfl hd_Ro_degreeOf ⟨Nat.le_of_ble_eq_true rfl, Nat.le_of_ble_eq_true rfl⟩) (z_preS hZ hK hT hS) rfl rfl hl.1 rfl (lv_room (Nat.le_of_ble_eq_true rfl)) d_MP_splitAll_123 ⟨Nat.le_of_ble_eq_true rfl, Nat.le_of_ble_eq_true rfl⟩) hS (fun r21 M22 N23 H locs hw hZ hS => ?_)
              obtain ⟨hw, eM22, eN23⟩ := hw
              rw [eM22, eN23] at hZ
              refine lv_icmp_ge (pc := 126) (tgt := 174) hx hb d_MP_splitAll_126 (by decide) (fun hc => ?_) (fun hc => ?_)
              · have hw := hw.1 hc
                refine lv_iinc (pc := 174) (k := 7) (v := v7 + (1 : Int32)) (lv' := [(7, .int (v7 + (1 : Int32))), (9, .int r18), (8, .ref (b + r15)), (0, .ref (b + 17)), (1, .ref (b + a1)), (2, .long a2), (4, .long a4), (6, .int v6)]) hx hb d_MP_splitAll_174 hl rfl (by rfl) (by decide) rfl (fun ls hl => ?_)
                refine lv_goto (pc := 177) (tgt := 9) hx hb d_MP_splitAll_177 (by decide) ?_
                exact ih9 (v7 + (1 : Int32)) M16 N _ _ _ hZ hS (lv_sub hl [3, 4, 5, 6, 7, 0] rfl) hw
              · have hw := hw.2 hc
                refine lv_aload_n (pc := 129) hx hb d_MP_splitAll_129 rfl (lv_at hl 2 rfl) ?_
                refine zg_MP_11 (pc := 130) hx hb hta hown hK hZ d_MP_splitAll_130 ?_
                refine lv_iload (pc := 133) hx hb d_MP_splitAll_133 (lv_at hl 7 rfl) ?_
                obtain ⟨hc, hw⟩ := hw
                refine z_aald (pc := 135) hx hb hK hZ hc d_MP_splitAll_135 ?_
                refine lv_aload (pc := 136) hx hb d_MP_splitAll_136 (lv_at hl 1 rfl) ?_
                refine lv_aload_n (pc := 138) hx hb d_MP_splitAll_138 rfl (lv_at hl 2 rfl) ?_
                refine zg_MP_11 (pc := 139) hx hb hta hown hK hZ d_MP_splitAll_139 ?_
                refine lv_aload_n (pc := 142) hx hb d_MP_splitAll_142 rfl (lv_at hl 2 rfl) ?_
                refine zg_MP_16 (pc := 143) hx hb hta hown hK hZ d_MP_splitAll_143 ?_
                obtain ⟨hc, hw⟩ := hw
                refine z_aald (pc := 146) hx hb hK hZ hc d_MP_splitAll_146 ?_
                refine lv_lload (pc := 147) hx hb d_MP_splitAll_147 (lv_at hl 5 rfl) ?_
                refine z_callv (pc := 149) (va_runS (As := [.ref (b + (18 + 1 + v7.toNatClampNeg)), .ref (b + r15), .ref (b + (18 + 1 + (N 17 1).toNatClampNeg)), .long a4]) (rest := []) ⟨hx, hb, hml, hown, hts⟩ (c_Re_divideOut l G b (18 + 1 + v7.toNatClampNeg) r15 (18 + 1 + (N 17 1).toNatClampNeg) a4 M16 N hw) (va_cwS 4 hts (z_good (zgS wd577 wd473 wd18 wd474)) rfl rfl rfl hd_Re_divideOut ⟨Nat.le_of_ble_eq_true rfl, Nat.le_of_ble_eq_true rfl⟩) (z_preS hZ hK hT hS) rfl rfl hl.1 rfl (lv_room (Nat.le_of_ble_eq_true rfl)) d_MP_splitAll_149 ⟨Nat.le_of_ble_eq_true rfl, Nat.le_of_ble_eq_true rfl⟩) hS (fun M25 N26 H locs hw hZ hS => ?_)
                obtain ⟨hw, eN26⟩ := hw
                rw [eN26] at hZ
                refine lv_aload (pc := 152) hx hb d_MP_splitAll_152 (lv_at hl 1 rfl) ?_
                refine lv_aload_n (pc := 154) hx hb d_MP_splitAll_154 rfl (lv_at hl 2 rfl) ?_
                refine zg_MP_11 (pc := 155) hx hb hta hown hK hZ d_MP_splitAll_155 ?_
                refine lv_iload (pc := 158) hx hb d_MP_splitAll_158 (lv_at hl 7 rfl) ?_
                obtain ⟨hc, hw⟩ := hw
                refine z_aald (pc := 160) hx hb hK hZ hc d_MP_splitAll_160 ?_
                refine z_callv (pc := 161) (va_runS (As := [.ref (b + r15), .ref (b + (18 + 1 + v7.toNatClampNeg))]) (rest := []) ⟨hx, hb, hml, hown, hts⟩ (c_Ro_copyInto l G b r15 (18 + 1 + v7.toNatClampNeg) M25 N hw) (va_cwS 2 hts (z_good (zgS wd547 wd363 wd13 wd364)) rfl rfl rfl hd_Ro_copyInto ⟨Nat.le_of_ble_eq_true rfl, Nat.le_of_ble_eq_true rfl⟩) (z_preS hZ hK hT hS) rfl rfl hl.1 rfl (lv_room (Nat.le_of_ble_eq_true rfl)) d_MP_splitAll_161 ⟨Nat.le_of_ble_eq_true rfl, Nat.le_of_ble_eq_true rfl⟩) hS (fun M28 N29 H locs hw hZ hS => ?_)
                obtain ⟨hw, eN29⟩ := hw
                rw [eN29] at hZ
                refine lv_aload_n (pc := 164) hx hb d_MP_splitAll_164 rfl (lv_at hl 2 rfl) ?_
                refine lv_dup (pc := 165) hx hb d_MP_splitAll_165 rfl ?_
                refine zg_MP_16 (pc := 166) hx hb hta hown hK hZ d_MP_splitAll_166 ?_
                refine lv_iconst (pc := 169) (v := 1) hx hb d_MP_splitAll_169 (by decide) ?_
                refine lv_iadd (pc := 170) hx hb d_MP_splitAll_170 ?_
                refine zp_MP_16 (pc := 171) hx hb hta hown hK hZ hS d_MP_splitAll_171 (fun N30 H locs hN30 hZ hS => ?_)
                have hw := hw N30 hN30
                refine lv_iinc (pc := 174) (k := 7) (v := v7 + (1 : Int32)) (lv' := [(7, .int (v7 + (1 : Int32))), (9, .int r18), (8, .ref (b + r15)), (0, .ref (b + 17)), (1, .ref (b + a1)), (2, .long a2), (4, .long a4), (6, .int v6)]) hx hb d_MP_splitAll_174 hl rfl (by rfl) (by decide) rfl (fun ls hl => ?_)
                refine lv_goto (pc := 177) (tgt := 9) hx hb d_MP_splitAll_177 (by decide) ?_
                exact ih9 (v7 + (1 : Int32)) M28 N30 _ _ _ hZ hS (lv_sub hl [3, 4, 5, 6, 7, 0] rfl) hw
          · have hw := hw.2 hc
            refine lv_goto (pc := 39) (tgt := 174) hx hb d_MP_splitAll_39 (by decide) ?_
            refine lv_iinc (pc := 174) (k := 5) (v := v7 + (1 : Int32)) (lv' := [(7, .int (v7 + (1 : Int32))), (0, .ref (b + 17)), (1, .ref (b + a1)), (2, .long a2), (4, .long a4), (6, .int v6)]) hx hb d_MP_splitAll_174 hl rfl (by rfl) (by decide) rfl (fun ls hl => ?_)
            refine lv_goto (pc := 177) (tgt := 9) hx hb d_MP_splitAll_177 (by decide) ?_
            exact ih9 (v7 + (1 : Int32)) M N _ _ _ hZ hS (lv_sub hl [1, 2, 3, 4, 5, 0] rfl) hw
  unfold w_MP_splitAll at hw
  refine lv_aload_n (pc := 0) hx hb d_MP_splitAll_0 rfl (lv_at hl 0 rfl) ?_
  refine zg_MP_16 (pc := 1) hx hb hta hown hK hZ d_MP_splitAll_1 ?_
  refine lv_topi (fun x1 hx1 => ?_)
  have hw := hw x1 hx1
  refine lv_istore (pc := 4) (lv' := [(6, .int x1), (0, .ref (b + 17)), (1, .ref (b + a1)), (2, .long a2), (4, .long a4)]) hx hb d_MP_splitAll_4 hl (by decide) rfl (fun ls hl => ?_)
  refine lv_iconst (pc := 6) (v := 0) hx hb d_MP_splitAll_6 (by decide) ?_
  refine lv_istore (pc := 7) (lv' := [(7, .int (0 : Int32)), (6, .int x1), (0, .ref (b + 17)), (1, .ref (b + a1)), (2, .long a2), (4, .long a4)]) hx hb d_MP_splitAll_7 hl (by decide) rfl (fun ls hl => ?_)
  obtain ⟨n, hw⟩ := hw
  exact lp9 x1 n (0 : Int32) M N _ _ _ hZ hS (lv_sub hl [2, 3, 4, 5, 1, 0] rfl) hw
