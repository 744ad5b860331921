theorem zg_Sp_21 {p : Program} {l : Launch} {e : Env} {R : Room} {s : State} {m : MethodId} {args : Array Value} {below : List Frame} {meth : Method} {c : Code} {H : Heap} {locs : List Loc} {cells slots : Nat} {Q : State → Prop} {cc : ByteArray} {pc : Nat} {ls : Array Slot} {rest : List Value} {G : zG} {b : Nat} {M : zM} {N : zN} (hx : p.tables.exec = Jvm.exec) (hb : c.code = cc) (hta : ∀ w ∈ zall, w.before args s = true) (hown : s.vm.findClass R_Sp = some m.cls) (hK : va_K G.1 zCl (zty G) s) (hZ : va_P G.1 zCl (zws G b M N) H) (hdg : decode cc pc = .ok (.getfield 21, 3)) (kk : W p l e R s m args below meth c H locs cells slots Q (F0 m (pc + 3) ls (.ref (b + 17) :: rest))) : W p l e R s m args below meth c H locs cells slots Q (F0 m pc ls (.ref (b + 9) :: rest)) :=
  va_get (D := G.1) (ci := 4) (v := .ref (b + 17)) (C := R_Sp) (T := T_Sp) (N := 9) hx hb hta hin_Sp hown hK hZ 9 zo_Sp rfl 1 (by decide) (hta _ wd136) (fun _ h9 => h9) rfl hdg kk
theorem zg_Sp_89 {p : Program} {l : Launch} {e : Env} {R : Room} {s : State} {m : MethodId} {args : Array Value} {below : List Frame} {meth : Method} {c : Code} {H : Heap} {locs : List Loc} {cells slots : Nat} {Q : State → Prop} {cc : ByteArray} {pc : Nat} {ls : Array Slot} {rest : List Value} {G : zG} {b : Nat} {M : zM} {N : zN} (hx : p.tables.exec = Jvm.exec) (hb : c.code = cc) (hta : ∀ w ∈ zall, w.before args s = true) (hown : s.vm.findClass R_Sp = some m.cls) (hK : va_K G.1 zCl (zty G) s) (hZ : va_P G.1 zCl (zws G b M N) H) (hdg : decode cc pc = .ok (.getfield 89, 3)) (kk : W p l e R s m args below meth c H locs cells slots Q (F0 m (pc + 3) ls (.int (N 17 1) :: rest))) : W p l e R s m args below meth c H locs cells slots Q (F0 m pc ls (.ref (b + 17) :: rest)) :=
  va_get (D := G.1) (ci := 3) (v := .int (N 17 1)) (C := R_MP) (T := T_MP) (N := 10) hx hb hta hin_MP hown hK hZ 17 zo_MP rfl 1 (by decide) (hta _ wd75) (fun _ h9 => h9) rfl hdg kk
theorem zg_Sp_130 {p : Program} {l : Launch} {e : Env} {R : Room} {s : State} {m : MethodId} {args : Array Value} {below : List Frame} {meth : Method} {c : Code} {H : Heap} {locs : List Loc} {cells slots : Nat} {Q : State → Prop} {cc : ByteArray} {pc : Nat} {ls : Array Slot} {rest : List Value} {G : zG} {b : Nat} {M : zM} {N : zN} (hx : p.tables.exec = Jvm.exec) (hb : c.code = cc) (hta : ∀ w ∈ zall, w.before args s = true) (hown : s.vm.findClass R_Sp = some m.cls) (hK : va_K G.1 zCl (zty G) s) (hZ : va_P G.1 zCl (zws G b M N) H) (hdg : decode cc pc = .ok (.getfield 130, 3)) (kk : W p l e R s m args below meth c H locs cells slots Q (F0 m (pc + 3) ls (.ref (b + 18) :: rest))) : W p l e R s m args below meth c H locs cells slots Q (F0 m pc ls (.ref (b + 17) :: rest)) :=
  va_get (D := G.1) (ci := 3) (v := .ref (b + 18)) (C := R_MP) (T := T_MP) (N := 10) hx hb hta hin_MP hown hK hZ 17 zo_MP rfl 0 (by decide) (hta _ wd72) (fun _ h9 => h9) rfl hdg kk
theorem d_Sp_degreeOfSet_0 : decode prog_8_method_5_code 0 = .ok (.iconst 0, 1) := by decide +kernel
theorem d_Sp_degreeOfSet_1 : decode prog_8_method_5_code 1 = .ok (.istore_n 2, 1) := by decide +kernel
theorem d_Sp_degreeOfSet_2 : decode prog_8_method_5_code 2 = .ok (.iconst 0, 1) := by decide +kernel
theorem d_Sp_degreeOfSet_3 : decode prog_8_method_5_code 3 = .ok (.istore_n 3, 1) := by decide +kernel
theorem d_Sp_degreeOfSet_4 : decode prog_8_method_5_code 4 = .ok (.iload_n 3, 1) := by decide +kernel
theorem d_Sp_degreeOfSet_5 : decode prog_8_method_5_code 5 = .ok (.aload_n 0, 1) := by decide +kernel
theorem d_Sp_degreeOfSet_6 : decode prog_8_method_5_code 6 = .ok (.getfield 21, 3) := by decide +kernel
theorem d_Sp_degreeOfSet_9 : decode prog_8_method_5_code 9 = .ok (.getfield 89, 3) := by decide +kernel
theorem d_Sp_degreeOfSet_12 : decode prog_8_method_5_code 12 = .ok (.if_icmp .ge 33, 3) := by decide +kernel
theorem d_Sp_degreeOfSet_15 : decode prog_8_method_5_code 15 = .ok (.iload_n 1, 1) := by decide +kernel
theorem d_Sp_degreeOfSet_16 : decode prog_8_method_5_code 16 = .ok (.iload_n 3, 1) := by decide +kernel
theorem d_Sp_degreeOfSet_17 : decode prog_8_method_5_code 17 = .ok (.ishr, 1) := by decide +kernel
theorem d_Sp_degreeOfSet_18 : decode prog_8_method_5_code 18 = .ok (.iconst 1, 1) := by decide +kernel
theorem d_Sp_degreeOfSet_19 : decode prog_8_method_5_code 19 = .ok (.iand, 1) := by decide +kernel
theorem d_Sp_degreeOfSet_20 : decode prog_8_method_5_code 20 = .ok (.iconst 1, 1) := by decide +kernel
theorem d_Sp_degreeOfSet_21 : decode prog_8_method_5_code 21 = .ok (.if_icmp .ne 18, 3) := by decide +kernel
theorem d_Sp_degreeOfSet_24 : decode prog_8_method_5_code 24 = .ok (.iload_n 2, 1) := by decide +kernel
theorem d_Sp_degreeOfSet_25 : decode prog_8_method_5_code 25 = .ok (.aload_n 0, 1) := by decide +kernel
theorem d_Sp_degreeOfSet_26 : decode prog_8_method_5_code 26 = .ok (.getfield 21, 3) := by decide +kernel
theorem d_Sp_degreeOfSet_29 : decode prog_8_method_5_code 29 = .ok (.getfield 130, 3) := by decide +kernel
theorem d_Sp_degreeOfSet_32 : decode prog_8_method_5_code 32 = .ok (.iload_n 3, 1) := by decide +kernel
theorem d_Sp_degreeOfSet_33 : decode prog_8_method_5_code 33 = .ok (.aaload, 1) := by decide +kernel
theorem d_Sp_degreeOfSet_34 : decode prog_8_method_5_code 34 = .ok (.invokestatic 67, 3) := by decide +kernel
theorem d_Sp_degreeOfSet_37 : decode prog_8_method_5_code 37 = .ok (.iadd, 1) := by decide +kernel
theorem d_Sp_degreeOfSet_38 : decode prog_8_method_5_code 38 = .ok (.istore_n 2, 1) := by decide +kernel
theorem d_Sp_degreeOfSet_39 : decode prog_8_method_5_code 39 = .ok (.iinc 3 1, 3) := by decide +kernel
theorem d_Sp_degreeOfSet_42 : decode prog_8_method_5_code 42 = .ok (.goto (-38), 3) := by decide +kernel
theorem d_Sp_degreeOfSet_45 : decode prog_8_method_5_code 45 = .ok (.iload_n 2, 1) := by decide +kernel
theorem d_Sp_degreeOfSet_46 : decode prog_8_method_5_code 46 = .ok (.ireturn, 1) := by decide +kernel
def B_Sp_degreeOfSet_4 (P : Int32 → Prop) (a1 : Int32) (M : zM) (N : zN) (k4 : Int32 → Int32 → Prop) (v2 : Int32) (v3 : Int32) : Prop := ((N 17 1) ≤ v3 → P v2) ∧ (¬ (N 17 1) ≤ v3 → (¬ ((a1 >>> (v3 &&& 31)) &&& (1 : Int32)) = (1 : Int32) → k4 v2 (v3 + (1 : Int32))) ∧ (((a1 >>> (v3 &&& 31)) &&& (1 : Int32)) = (1 : Int32) → vp_in v3 (zgn 18) ∧ w_Ro_degreeOf (18 + 1 + v3.toNatClampNeg) M (fun r1 => ∀ x4 : Int32, x4 = v2 + r1 → k4 x4 (v3 + (1 : Int32)))))
def L_Sp_degreeOfSet_4 (P : Int32 → Prop) (a1 : Int32) (M : zM) (N : zN) (n : Nat) : Int32 → Int32 → Prop := Nat.rec (fun _ _ => False) (fun _ k => B_Sp_degreeOfSet_4 P a1 M N k) n
def w_Sp_degreeOfSet (a1 : Int32) (M : zM) (N : zN) (P : Int32 → Prop) : Prop := ∃ n, L_Sp_degreeOfSet_4 P a1 M N n (0 : Int32) (0 : Int32)
def ws_Sp_degreeOfSet : List Cond := .code y_Sp_degreeOfSet prog_8_method_5_code 4 (Option.some Jvm.ClassFile.FieldType.int) :: zall
def rm_Sp_degreeOfSet : Room := { frames := 1, cells := 0, slots := 0, locals := 21 }
theorem hd_Sp_degreeOfSet : y_Sp_degreeOfSet.cls ≠ "java/lang/invoke/MethodHandle" ∧ y_Sp_degreeOfSet.cls ≠ "java/lang/invoke/VarHandle" ∧ (parseMethodDescriptor y_Sp_degreeOfSet.desc).map (fun d => d.parameters.length) = some 1 := by decide +kernel
set_option maxHeartbeats 4000000 in
set_option maxRecDepth 100000 in
theorem c_Sp_degreeOfSet (l : Launch) (G : zG) (b : Nat) (a1 : Int32) (M : zM) (N : zN) {P : Int32 → Prop} (hw : w_Sp_degreeOfSet a1 M N P) : Met l y_Sp_degreeOfSet ws_Sp_degreeOfSet rm_Sp_degreeOfSet (zPc G b M N [.ref (b + 9), .int a1]) (zQi G b (fun r M' N' => P r ∧ M' = M ∧ N' = N)) 0 0 (zA b) := by
  refine Met.ofW (cc := prog_8_method_5_code) (maxL := 4) (ret := (Option.some Jvm.ClassFile.FieldType.int)) (by decide) rfl ?_
  intro p e s m args below meth c s₁ B hml hv
  obtain ⟨rfl, hZ, hK, hT⟩ := hv
  have hx := B.exec
  have hb := B.bytes
  have hr := B.returns
  have hts := atoms_spec (ws := ws_Sp_degreeOfSet) B.pre
  have hta : ∀ w ∈ zall, w.before ([.ref (b + 9), .int a1] : List Value).toArray s = true := fun w h => hts w (List.mem_cons_of_mem _ h)
  have hown : s.vm.findClass R_Sp = some m.cls := findClass_of_methodNamed B.named
  have hlocks := B.notSynchronized
  have hS : va_S (zA b) s.heap s.heap [] := va_S.rf
  have hl := lv_entry ([.ref (b + 9), .int a1]) (n := 4) (Nat.le_of_ble_eq_true rfl)
  rw [lg_entry_eq]
  generalize (lg_sl ([.ref (b + 9), .int a1]) ++ List.replicate (4 - (lg_sl ([.ref (b + 9), .int a1])).length) Slot.unset).toArray = ls at hl ⊢
  have hl : lv_has ls 4 [(0, .ref (b + 9)), (1, .int a1)] := hl
  have lp4 : ∀ (n : Nat) (v2 : Int32) (v3 : Int32) (H : Heap) (ls : Array Slot) (locs : List Loc), va_P G.1 zCl (zws G b M N) H → va_S (zA b) s.heap H locs → lv_has ls 4 [(0, .ref (b + 9)), (1, .int a1), (2, .int v2), (3, .int v3)] → L_Sp_degreeOfSet_4 P a1 M N n v2 v3 → W p l e (headSpec ws_Sp_degreeOfSet rm_Sp_degreeOfSet).room s m ([.ref (b + 9), .int a1] : List Value).toArray below meth c H locs 0 0 (MQ below (zQi G b (fun r M' N' => P r ∧ M' = M ∧ N' = N)) ([.ref (b + 9), .int a1] : List Value).toArray s 0 0 (zA b)) (F0 m 4 ls []) := by
    intro  n
    induction n with
    | zero => intro v2 v3 H ls locs hZ hS hl hw; exact False.elim hw
    | succ n4 ih4 =>
      intro v2 v3 H ls locs hZ hS hl hw
      have hw : B_Sp_degreeOfSet_4 P a1 M N (L_Sp_degreeOfSet_4 P a1 M N n4) v2 v3 := hw
      unfold B_Sp_degreeOfSet_4 at hw
      refine lv_iload_n (pc := 4) hx hb d_Sp_degreeOfSet_4 rfl (lv_at hl 3 rfl) ?_
      refine lv_aload_n (pc := 5) hx hb d_Sp_degreeOfSet_5 rfl (lv_at hl 0 rfl) ?_
      refine zg_Sp_21 (pc := 6) hx hb hta hown hK hZ d_Sp_degreeOfSet_6 ?_
      refine zg_Sp_89 (pc := 9) hx hb hta hown hK hZ d_Sp_degreeOfSet_9 ?_
      refine lv_icmp_ge (pc := 12) (tgt := 45) hx hb d_Sp_degreeOfSet_12 (by decide) (fun hc => ?_) (fun hc => ?_)
      · have hw := hw.1 hc
        refine lv_iload_n (pc := 45) hx hb d_Sp_degreeOfSet_45 rfl (lv_at hl 2 rfl) ?_
        exact z_iret hx hb hr hlocks hK hT hZ hS ⟨hw, rfl, rfl⟩ d_Sp_degreeOfSet_46
      · have hw := hw.2 hc
        refine lv_iload_n (pc := 15) hx hb d_Sp_degreeOfSet_15 rfl (lv_at hl 1 rfl) ?_
        refine lv_iload_n (pc := 16) hx hb d_Sp_degreeOfSet_16 rfl (lv_at hl 3 rfl) ?_
        refine lv_ishr (pc := 17) hx hb d_Sp_degreeOfSet_17 ?_
        refine lv_iconst (pc := 18) (v := 1) hx hb d_Sp_degreeOfSet_18 (by decide) ?_
        refine lv_iand (pc := 19) hx hb d_Sp_degreeOfSet_19 ?_
        refine lv_iconst (pc := 20) (v := 1) hx hb d_Sp_degreeOfSet_20 (by decide) ?_
        refine lv_icmp_ne (pc := 21) (tgt := 39) hx hb d_Sp_degreeOfSet_21 (by decide) (fun hc => ?_) (fun hc => ?_)
        · have hw := hw.1 hc
          refine lv_iinc (pc := 39) (k := 3) (v := v3 + (1 : Int32)) (lv' := [(3, .int (v3 + (1 : Int32))), (0, .ref (b + 9)), (1, .int a1), (2, .int v2)]) hx hb d_Sp_degreeOfSet_39 hl rfl (by rfl) (by decide) rfl (fun ls hl => ?_)
          refine lv_goto (pc := 42) (tgt := 4) hx hb d_Sp_degreeOfSet_42 (by decide) ?_
          exact ih4 v2 (v3 + (1 : Int32)) _ _ _ hZ hS (lv_sub hl [1, 2, 3, 0] rfl) hw
        · have hw := hw.2 hc
          refine lv_iload_n (pc := 24) hx hb d_Sp_degreeOfSet_24 rfl (lv_at hl 2 rfl) ?_
          refine lv_aload_n (pc := 25) hx hb d_Sp_degreeOfSet_25 rfl (lv_at hl 0 rfl) ?_
          refine zg_Sp_21 (pc := 26) hx hb hta hown hK hZ d_Sp_degreeOfSet_26 ?_
          refine zg_Sp_130 (pc := 29) hx hb hta hown hK hZ d_Sp_degreeOfSet_29 ?_
          refine lv_iload_n (pc := 32) hx hb d_Sp_degreeOfSet_32 rfl (lv_at hl 3 rfl) ?_
          obtain ⟨hc, hw⟩ := hw
          refine z_aald (pc := 33) hx hb hK hZ hc d_Sp_degreeOfSet_33 ?_
          refine z_calli (pc := 34) (va_runS (As := [.ref (b + (18 + 1 + v3.toNatClampNeg))]) (rest := [.int v2]) ⟨hx, hb, hml, hown, hts⟩ (c_Ro_degreeOf l G b (18 + 1 + v3.toNatClampNeg) M N hw) (va_cwS 1 hts (z_good (zgS wd519 wd312 wd13 wd313)) rfl rfl rfl hd_Ro_degreeOf ⟨Nat.le_of_ble_eq_true rfl, Nat.le_of_ble_eq_true rfl⟩) (z_preS hZ hK hT hS) rfl rfl hl.1 rfl (lv_room (Nat.le_of_ble_eq_true rfl)) d_Sp_degreeOfSet_34 ⟨Nat.le_of_ble_eq_true rfl, Nat.le_of_ble_eq_true rfl⟩) hS (fun r1 M2 N3 H locs hw hZ hS => ?_)
          obtain ⟨hw, eM2, eN3⟩ := hw
          rw [eM2, eN3] at hZ
          refine lv_iadd (pc := 37) hx hb d_Sp_degreeOfSet_37 ?_
          refine lv_topi (fun x4 hx4 => ?_)
          have hw := hw x4 hx4
          refine lv_istore_n (pc := 38) (lv' := [(2, .int x4), (0, .ref (b + 9)), (1, .int a1), (3, .int v3)]) hx hb d_Sp_degreeOfSet_38 rfl hl (by decide) rfl (fun ls hl => ?_)
          refine lv_iinc (pc := 39) (k := 3) (v := v3 + (1 : Int32)) (lv' := [(3, .int (v3 + (1 : Int32))), (2, .int x4), (0, .ref (b + 9)), (1, .int a1)]) hx hb d_Sp_degreeOfSet_39 hl rfl (by rfl) (by decide) rfl (fun ls hl => ?_)
          refine lv_goto (pc := 42) (tgt := 4) hx hb d_Sp_degreeOfSet_42 (by decide) ?_
          exact ih4 x4 (v3 + (1 : Int32)) _ _ _ hZ hS (lv_sub hl [2, 3, 1, 0] rfl) hw
  unfold w_Sp_degreeOfSet at hw
  refine lv_iconst (pc := 0) (v := 0) hx hb d_Sp_degreeOfSet_0 (by decide) ?_
  refine lv_istore_n (pc := 1) (lv' := [(2, .int (0 : Int32)), (0, .ref (b + 9)), (1, .int a1)]) hx hb d_Sp_degreeOfSet_1 rfl hl (by decide) rfl (fun ls hl => ?_)
  refine lv_iconst (pc := 2) (v := 0) hx hb d_Sp_degreeOfSet_2 (by decide) ?_
  refine lv_istore_n (pc := 3) (lv' := [(3, .int (0 : Int32)), (2, .int (0 : Int32)), (0, .ref (b + 9)), (1, .int a1)]) hx hb d_Sp_degreeOfSet_3 rfl hl (by decide) rfl (fun ls hl => ?_)
  obtain ⟨n, hw⟩ := hw
  exact lp4  n (0 : Int32) (0 : Int32) _ _ _ hZ hS (lv_sub hl [2, 3, 1, 0] rfl) hw
theorem zg_Sp_42 {p : Program} {l : Launch} {e : Env} {R : Room} {s : State} {m : MethodId} {args : Array Value} {below : List Frame} {meth : Method} {c : Code} {H : Heap} {locs : List Loc} {cells slots : Nat} {Q : State → Prop} {cc : ByteArray} {pc : Nat} {ls : Array Slot} {rest : List Value} {G : zG} {b : Nat} {M : zM} {N : zN} (hx : p.tables.exec = Jvm.exec) (hb : c.code = cc) (hta : ∀ w ∈ zall, w.before args s = true) (hown : s.vm.findClass R_Sp = some m.cls) (hK : va_K G.1 zCl (zty G) s) (hZ : va_P G.1 zCl (zws G b M N) H) (hdg : decode cc pc = .ok (.getfield 42, 3)) (kk : W p l e R s m args below meth c H locs cells slots Q (F0 m (pc + 3) ls (.ref (b + 76) :: rest))) : W p l e R s m args below meth c H locs cells slots Q (F0 m pc ls (.ref (b + 9) :: rest)) :=
  va_get (D := G.1) (ci := 4) (v := .ref (b + 76)) (C := R_Sp) (T := T_Sp) (N := 9) hx hb hta hin_Sp hown hK hZ 9 zo_Sp rfl 6 (by decide) (hta _ wd142) (fun _ h9 => h9) rfl hdg kk
theorem zg_Sp_28 {p : Program} {l : Launch} {e : Env} {R : Room} {s : State} {m : MethodId} {args : Array Value} {below : List Frame} {meth : Method} {c : Code} {H : Heap} {locs : List Loc} {cells slots : Nat} {Q : State → Prop} {cc : ByteArray} {pc : Nat} {ls : Array Slot} {rest : List Value} {G : zG} {b : Nat} {M : zM} {N : zN} (hx : p.tables.exec = Jvm.exec) (hb : c.code = cc) (hta : ∀ w ∈ zall, w.before args s = true) (hown : s.vm.findClass R_Sp = some m.cls) (hK : va_K G.1 zCl (zty G) s) (hZ : va_P G.1 zCl (zws G b M N) H) (hdg : decode cc pc = .ok (.getfield 28, 3)) (kk : W p l e R s m args below meth c H locs cells slots Q (F0 m (pc + 3) ls (.ref (b + 51) :: rest))) : W p l e R s m args below meth c H locs cells slots Q (F0 m pc ls (.ref (b + 9) :: rest)) :=
  va_get (D := G.1) (ci := 4) (v := .ref (b + 51)) (C := R_Sp) (T := T_Sp) (N := 9) hx hb hta hin_Sp hown hK hZ 9 zo_Sp rfl 2 (by decide) (hta _ wd138) (fun _ h9 => h9) rfl hdg kk
theorem zg_Sp_142 {p : Program} {l : Launch} {e : Env} {R : Room} {s : State} {m : MethodId} {args : Array Value} {below : List Frame} {meth : Method} {c : Code} {H : Heap} {locs : List Loc} {cells slots : Nat} {Q : State → Prop} {cc : ByteArray} {pc : Nat} {ls : Array Slot} {rest : List Value} {G : zG} {b : Nat} {M : zM} {N : zN} (hx : p.tables.exec = Jvm.exec) (hb : c.code = cc) (hta : ∀ w ∈ zall, w.before args s = true) (hown : s.vm.findClass R_Sp = some m.cls) (hK : va_K G.1 zCl (zty G) s) (hZ : va_P G.1 zCl (zws G b M N) H) (hdg : decode cc pc = .ok (.getfield 142, 3)) (kk : W p l e R s m args below meth c H locs cells slots Q (F0 m (pc + 3) ls (.ref (b + 52) :: rest))) : W p l e R s m args below meth c H locs cells slots Q (F0 m pc ls (.ref (b + 51) :: rest)) :=
  va_get (D := G.1) (ci := 2) (v := .ref (b + 52)) (C := R_Li) (T := T_Li) (N := 6) hx hb hta hin_Li hown hK hZ 51 zo_Li rfl 0 (by decide) (hta _ wd114) (fun _ h9 => h9) rfl hdg kk
theorem zg_Sp_143 {p : Program} {l : Launch} {e : Env} {R : Room} {s : State} {m : MethodId} {args : Array Value} {below : List Frame} {meth : Method} {c : Code} {H : Heap} {locs : List Loc} {cells slots : Nat} {Q : State → Prop} {cc : ByteArray} {pc : Nat} {ls : Array Slot} {rest : List Value} {G : zG} {b : Nat} {M : zM} {N : zN} (hx : p.tables.exec = Jvm.exec) (hb : c.code = cc) (hta : ∀ w ∈ zall, w.before args s = true) (hown : s.vm.findClass R_Sp = some m.cls) (hK : va_K G.1 zCl (zty G) s) (hZ : va_P G.1 zCl (zws G b M N) H) (hdg : decode cc pc = .ok (.getfield 143, 3)) (kk : W p l e R s m args below meth c H locs cells slots Q (F0 m (pc + 3) ls (.long (M 51 1) :: rest))) : W p l e R s m args below meth c H locs cells slots Q (F0 m pc ls (.ref (b + 51) :: rest)) :=
  va_get (D := G.1) (ci := 2) (v := .long (M 51 1)) (C := R_Li) (T := T_Li) (N := 6) hx hb hta hin_Li hown hK hZ 51 zo_Li rfl 1 (by decide) (hta _ wd116) (fun _ h9 => h9) rfl hdg kk
theorem d_Sp_splitOff_0 : decode prog_8_method_6_code 0 = .ok (.aload_n 0, 1) := by decide +kernel
theorem d_Sp_splitOff_1 : decode prog_8_method_6_code 1 = .ok (.getfield 42, 3) := by decide +kernel
theorem d_Sp_splitOff_4 : decode prog_8_method_6_code 4 = .ok (.lconst 0, 1) := by decide +kernel
theorem d_Sp_splitOff_5 : decode prog_8_method_6_code 5 = .ok (.invokestatic 134, 3) := by decide +kernel
theorem d_Sp_splitOff_8 : decode prog_8_method_6_code 8 = .ok (.aload_n 0, 1) := by decide +kernel
theorem d_Sp_splitOff_9 : decode prog_8_method_6_code 9 = .ok (.getfield 42, 3) := by decide +kernel
theorem d_Sp_splitOff_12 : decode prog_8_method_6_code 12 = .ok (.iconst 0, 1) := by decide +kernel
theorem d_Sp_splitOff_13 : decode prog_8_method_6_code 13 = .ok (.aload_n 0, 1) := by decide +kernel
theorem d_Sp_splitOff_14 : decode prog_8_method_6_code 14 = .ok (.getfield 36, 3) := by decide +kernel
theorem d_Sp_splitOff_17 : decode prog_8_method_6_code 17 = .ok (.invokestatic 139, 3) := by decide +kernel
theorem d_Sp_splitOff_20 : decode prog_8_method_6_code 20 = .ok (.lastore, 1) := by decide +kernel
theorem d_Sp_splitOff_21 : decode prog_8_method_6_code 21 = .ok (.iconst 0, 1) := by decide +kernel
theorem d_Sp_splitOff_22 : decode prog_8_method_6_code 22 = .ok (.istore_n 2, 1) := by decide +kernel
theorem d_Sp_splitOff_23 : decode prog_8_method_6_code 23 = .ok (.iload_n 2, 1) := by decide +kernel
theorem d_Sp_splitOff_24 : decode prog_8_method_6_code 24 = .ok (.aload_n 0, 1) := by decide +kernel
theorem d_Sp_splitOff_25 : decode prog_8_method_6_code 25 = .ok (.getfield 21, 3) := by decide +kernel
theorem d_Sp_splitOff_28 : decode prog_8_method_6_code 28 = .ok (.getfield 89, 3) := by decide +kernel
theorem d_Sp_splitOff_31 : decode prog_8_method_6_code 31 = .ok (.if_icmp .ge 41, 3) := by decide +kernel
theorem d_Sp_splitOff_34 : decode prog_8_method_6_code 34 = .ok (.iload_n 1, 1) := by decide +kernel
theorem d_Sp_splitOff_35 : decode prog_8_method_6_code 35 = .ok (.iload_n 2, 1) := by decide +kernel
theorem d_Sp_splitOff_36 : decode prog_8_method_6_code 36 = .ok (.ishr, 1) := by decide +kernel
theorem d_Sp_splitOff_37 : decode prog_8_method_6_code 37 = .ok (.iconst 1, 1) := by decide +kernel
theorem d_Sp_splitOff_38 : decode prog_8_method_6_code 38 = .ok (.iand, 1) := by decide +kernel
theorem d_Sp_splitOff_39 : decode prog_8_method_6_code 39 = .ok (.iconst 1, 1) := by decide +kernel
theorem d_Sp_splitOff_40 : decode prog_8_method_6_code 40 = .ok (.if_icmp .ne 26, 3) := by decide +kernel
theorem d_Sp_splitOff_43 : decode prog_8_method_6_code 43 = .ok (.aload_n 0, 1) := by decide +kernel
theorem d_Sp_splitOff_44 : decode prog_8_method_6_code 44 = .ok (.getfield 42, 3) := by decide +kernel
theorem d_Sp_splitOff_47 : decode prog_8_method_6_code 47 = .ok (.aload_n 0, 1) := by decide +kernel
theorem d_Sp_splitOff_48 : decode prog_8_method_6_code 48 = .ok (.getfield 28, 3) := by decide +kernel
theorem d_Sp_splitOff_51 : decode prog_8_method_6_code 51 = .ok (.getfield 142, 3) := by decide +kernel
theorem d_Sp_splitOff_54 : decode prog_8_method_6_code 54 = .ok (.iload_n 2, 1) := by decide +kernel
theorem d_Sp_splitOff_55 : decode prog_8_method_6_code 55 = .ok (.aaload, 1) := by decide +kernel
theorem d_Sp_splitOff_56 : decode prog_8_method_6_code 56 = .ok (.aload_n 0, 1) := by decide +kernel
theorem d_Sp_splitOff_57 : decode prog_8_method_6_code 57 = .ok (.getfield 28, 3) := by decide +kernel
theorem d_Sp_splitOff_60 : decode prog_8_method_6_code 60 = .ok (.getfield 143, 3) := by decide +kernel
theorem d_Sp_splitOff_63 : decode prog_8_method_6_code 63 = .ok (.invokestatic 147, 3) := by decide +kernel
theorem d_Sp_splitOff_66 : decode prog_8_method_6_code 66 = .ok (.iinc 2 1, 3) := by decide +kernel
theorem d_Sp_splitOff_69 : decode prog_8_method_6_code 69 = .ok (.goto (-46), 3) := by decide +kernel
theorem d_Sp_splitOff_72 : decode prog_8_method_6_code 72 = .ok (.iconst 0, 1) := by decide +kernel
theorem d_Sp_splitOff_73 : decode prog_8_method_6_code 73 = .ok (.istore_n 2, 1) := by decide +kernel
theorem d_Sp_splitOff_74 : decode prog_8_method_6_code 74 = .ok (.iload_n 2, 1) := by decide +kernel
theorem d_Sp_splitOff_75 : decode prog_8_method_6_code 75 = .ok (.bipush 8, 2) := by decide +kernel
theorem d_Sp_splitOff_77 : decode prog_8_method_6_code 77 = .ok (.if_icmp .ge 31, 3) := by decide +kernel
theorem d_Sp_splitOff_80 : decode prog_8_method_6_code 80 = .ok (.aload_n 0, 1) := by decide +kernel
theorem d_Sp_splitOff_81 : decode prog_8_method_6_code 81 = .ok (.getfield 42, 3) := by decide +kernel
theorem d_Sp_splitOff_84 : decode prog_8_method_6_code 84 = .ok (.iload_n 2, 1) := by decide +kernel
theorem d_Sp_splitOff_85 : decode prog_8_method_6_code 85 = .ok (.aload_n 0, 1) := by decide +kernel
theorem d_Sp_splitOff_86 : decode prog_8_method_6_code 86 = .ok (.getfield 42, 3) := by decide +kernel
theorem d_Sp_splitOff_89 : decode prog_8_method_6_code 89 = .ok (.iload_n 2, 1) := by decide +kernel
theorem d_Sp_splitOff_90 : decode prog_8_method_6_code 90 = .ok (.laload, 1) := by decide +kernel
theorem d_Sp_splitOff_91 : decode prog_8_method_6_code 91 = .ok (.aload_n 0, 1) := by decide +kernel
theorem d_Sp_splitOff_92 : decode prog_8_method_6_code 92 = .ok (.getfield 28, 3) := by decide +kernel
theorem d_Sp_splitOff_95 : decode prog_8_method_6_code 95 = .ok (.getfield 143, 3) := by decide +kernel
theorem d_Sp_splitOff_98 : decode prog_8_method_6_code 98 = .ok (.invokestatic 150, 3) := by decide +kernel
theorem d_Sp_splitOff_101 : decode prog_8_method_6_code 101 = .ok (.lastore, 1) := by decide +kernel
theorem d_Sp_splitOff_102 : decode prog_8_method_6_code 102 = .ok (.iinc 2 1, 3) := by decide +kernel
theorem d_Sp_splitOff_105 : decode prog_8_method_6_code 105 = .ok (.goto (-31), 3) := by decide +kernel
theorem d_Sp_splitOff_108 : decode prog_8_method_6_code 108 = .ok (.aload_n 0, 1) := by decide +kernel
theorem d_Sp_splitOff_109 : decode prog_8_method_6_code 109 = .ok (.getfield 42, 3) := by decide +kernel
theorem d_Sp_splitOff_112 : decode prog_8_method_6_code 112 = .ok (.invokestatic 57, 3) := by decide +kernel
theorem d_Sp_splitOff_115 : decode prog_8_method_6_code 115 = .ok (.pop2, 1) := by decide +kernel
theorem d_Sp_splitOff_116 : decode prog_8_method_6_code 116 = .ok (.aload_n 0, 1) := by decide +kernel
theorem d_Sp_splitOff_117 : decode prog_8_method_6_code 117 = .ok (.getfield 36, 3) := by decide +kernel
theorem d_Sp_splitOff_120 : decode prog_8_method_6_code 120 = .ok (.aload_n 0, 1) := by decide +kernel
theorem d_Sp_splitOff_121 : decode prog_8_method_6_code 121 = .ok (.getfield 42, 3) := by decide +kernel
theorem d_Sp_splitOff_124 : decode prog_8_method_6_code 124 = .ok (.aload_n 0, 1) := by decide +kernel
theorem d_Sp_splitOff_125 : decode prog_8_method_6_code 125 = .ok (.getfield 45, 3) := by decide +kernel
theorem d_Sp_splitOff_128 : decode prog_8_method_6_code 128 = .ok (.aload_n 0, 1) := by decide +kernel
theorem d_Sp_splitOff_129 : decode prog_8_method_6_code 129 = .ok (.getfield 48, 3) := by decide +kernel
theorem d_Sp_splitOff_132 : decode prog_8_method_6_code 132 = .ok (.invokestatic 78, 3) := by decide +kernel
theorem d_Sp_splitOff_135 : decode prog_8_method_6_code 135 = .ok (.ifCond .ne 5, 3) := by decide +kernel
theorem d_Sp_splitOff_138 : decode prog_8_method_6_code 138 = .ok (.iconst 0, 1) := by decide +kernel
theorem d_Sp_splitOff_139 : decode prog_8_method_6_code 139 = .ok (.ireturn, 1) := by decide +kernel
theorem d_Sp_splitOff_140 : decode prog_8_method_6_code 140 = .ok (.aload_n 0, 1) := by decide +kernel
theorem d_Sp_splitOff_141 : decode prog_8_method_6_code 141 = .ok (.getfield 45, 3) := by decide +kernel
theorem d_Sp_splitOff_144 : decode prog_8_method_6_code 144 = .ok (.aload_n 0, 1) := by decide +kernel
theorem d_Sp_splitOff_145 : decode prog_8_method_6_code 145 = .ok (.getfield 36, 3) := by decide +kernel
theorem d_Sp_splitOff_148 : decode prog_8_method_6_code 148 = .ok (.invokestatic 51, 3) := by decide +kernel
theorem d_Sp_splitOff_151 : decode prog_8_method_6_code 151 = .ok (.iconst 1, 1) := by decide +kernel
theorem d_Sp_splitOff_152 : decode prog_8_method_6_code 152 = .ok (.ireturn, 1) := by decide +kernel
def B_Sp_splitOff_74 (P : Int32 → zM → Prop) (N : zN) (k74 : Int32 → zM → Prop) (v2 : Int32) (M : zM) : Prop := ((8 : Int32) ≤ v2 → w_Ro_makePrimitive 76 M (fun r11 M12 => w_Ro_findQuotient 74 76 77 78 M12 (fun r14 M15 => (¬ r14 = 0 → w_Ro_copyInto 77 74 M15 (fun M18 => narrow .boolean (.int (1 : Int32)) = .int (1 : Int32) ∧ P (1 : Int32) M18)) ∧ (r14 = 0 → narrow .boolean (.int (0 : Int32)) = .int (0 : Int32) ∧ P (0 : Int32) M15)))) ∧ (¬ (8 : Int32) ≤ v2 → vp_in v2 (zlong 76) ∧ w_Re_nearest (M 76 v2.toNatClampNeg) (M 51 1)  (fun r20 => vp_in v2 (zlong 76) ∧ ∀ M23 : zM, M23 = zput M 76 v2.toNatClampNeg r20 → k74 (v2 + (1 : Int32)) M23))
def L_Sp_splitOff_74 (P : Int32 → zM → Prop) (N : zN) (n : Nat) : Int32 → zM → Prop := Nat.rec (fun _ _ => False) (fun _ k => B_Sp_splitOff_74 P N k) n
def B_Sp_splitOff_23 (P : Int32 → zM → Prop) (a1 : Int32) (N : zN) (k23 : Int32 → zM → Prop) (v2 : Int32) (M : zM) : Prop := ((N 17 1) ≤ v2 → ∃ n, L_Sp_splitOff_74 P N n (0 : Int32) M) ∧ (¬ (N 17 1) ≤ v2 → (¬ ((a1 >>> (v2 &&& 31)) &&& (1 : Int32)) = (1 : Int32) → k23 (v2 + (1 : Int32)) M) ∧ (((a1 >>> (v2 &&& 31)) &&& (1 : Int32)) = (1 : Int32) → vp_in v2 (zgn 52) ∧ w_Re_multiplyBy 76 (52 + 1 + v2.toNatClampNeg) (M 51 1) M (fun M9 => k23 (v2 + (1 : Int32)) M9)))
def L_Sp_splitOff_23 (P : Int32 → zM → Prop) (a1 : Int32) (N : zN) (n : Nat) : Int32 → zM → Prop := Nat.rec (fun _ _ => False) (fun _ k => B_Sp_splitOff_23 P a1 N k) n
def w_Sp_splitOff (a1 : Int32) (M : zM) (N : zN) (P : Int32 → zM → Prop) : Prop := w_Ar_fillJ 76 (0 : Int64) M (fun M2 => w_Ro_leadingOf 74 M2 (fun r4 => vp_in (0 : Int32) (zlong 76) ∧ ∀ M7 : zM, M7 = zput M2 76 (0 : Int32).toNatClampNeg r4 → ∃ n, L_Sp_splitOff_23 P a1 N n (0 : Int32) M7))
def ws_Sp_splitOff : List Cond := .code y_Sp_splitOff prog_8_method_6_code 3 (Option.some Jvm.ClassFile.FieldType.boolean) :: zall
def rm_Sp_splitOff : Room := { frames := 3, cells := 0, slots := 0, locals := 87 }
theorem hd_Sp_splitOff : y_Sp_splitOff.cls ≠ "java/lang/invoke/MethodHandle" ∧ y_Sp_splitOff.cls ≠ "java/lang/invoke/VarHandle" ∧ (parseMethodDescriptor y_Sp_splitOff.desc).map (fun d => d.parameters.length) = some 1 := by decide +kernel
set_option maxHeartbeats 4000000 in
set_option maxRecDepth 100000 in
theorem c_Sp_splitOff (l : Launch) (G : zG) (b : Nat) (a1 : Int32) (M : zM) (N : zN) {P : Int32 → zM → Prop} (hw : w_Sp_splitOff a1 M N P) : Met l y_Sp_splitOff ws_Sp_splitOff rm_Sp_splitOff (zPc G b M N [.ref (b + 9), .int a1]) (zQi G b (fun r M' N' => P r M' ∧ N' = N)) 0 0 (zA b) := by
  refine Met.ofW (cc := prog_8_method_6_code) (maxL := 3) (ret := (Option.some Jvm.ClassFile.FieldType.boolean)) (by decide) rfl ?_
  intro p e s m args below meth c s₁ B hml hv
  obtain ⟨rfl, hZ, hK, hT⟩ := hv
  have hx := B.exec
  have hb := B.bytes
  have hr := B.returns
  have hts := atoms_spec (ws := ws_Sp_splitOff) B.pre
  have hta : ∀ w ∈ zall, w.before ([.ref (b + 9), .int a1] : List Value).toArray s = true := fun w h => hts w (List.mem_cons_of_mem _ h)
  have hown : s.vm.findClass R_Sp = some m.cls := findClass_of_methodNamed B.named
  have hlocks := B.notSynchronized
  have hS : va_S (zA b) s.heap s.heap [] := va_S.rf
  have hl := lv_entry ([.ref (b + 9), .int a1]) (n := 3) (Nat.le_of_ble_eq_true rfl)
  rw [lg_entry_eq]
  generalize (lg_sl ([.ref (b + 9), .int a1]) ++ List.replicate (3 - (lg_sl ([.ref (b + 9), .int a1])).length) Slot.unset).toArray = ls at hl ⊢
  have hl : lv_has ls 3 [(0, .ref (b + 9)), (1, .int a1)] := hl
  have lp74 : ∀ (n : Nat) (v2 : Int32) (M : zM) (H : Heap) (ls : Array Slot) (locs : List Loc), va_P G.1 zCl (zws G b M N) H → va_S (zA b) s.heap H locs → lv_has ls 3 [(0, .ref (b + 9)), (2, .int v2)] → L_Sp_splitOff_74 P N n v2 M → W p l e (headSpec ws_Sp_splitOff rm_Sp_splitOff).room s m ([.ref (b + 9), .int a1] : List Value).toArray below meth c H locs 0 0 (MQ below (zQi G b (fun r M' N' => P r M' ∧ N' = N)) ([.ref (b + 9), .int a1] : List Value).toArray s 0 0 (zA b)) (F0 m 74 ls []) := by
    intro  n
    induction n with
    | zero => intro v2 M H ls locs hZ hS hl hw; exact False.elim hw
    | succ n74 ih74 =>
      intro v2 M H ls locs hZ hS hl hw
      have hw : B_Sp_splitOff_74 P N (L_Sp_splitOff_74 P N n74) v2 M := hw
      unfold B_Sp_splitOff_74 at hw
      refine lv_iload_n (pc := 74) hx hb d_Sp_splitOff_74 rfl (lv_at hl 1 rfl) ?_
      refine lv_bipush (pc := 75) (v := 8) hx hb d_Sp_splitOff_75 (by decide) ?_
      refine lv_icmp_ge (pc := 77) (tgt := 108) hx hb d_Sp_splitOff_77 (by decide) (fun hc => ?_) (fun hc => ?_)
      · have hw := hw.1 hc
        refine lv_aload_n (pc := 108) hx hb d_Sp_splitOff_108 rfl (lv_at hl 0 rfl) ?_
        refine zg_Sp_42 (pc := 109) hx hb hta hown hK hZ d_Sp_splitOff_109 ?_
        refine z_calll (pc := 112) (va_runS (As := [.ref (b + 76)]) (rest := []) ⟨hx, hb, hml, hown, hts⟩ (c_Ro_makePrimitive l G b 76 M N hw) (va_cwS 1 hts (z_good (zgS wd514 wd442 wd13 wd443)) rfl rfl rfl hd_Ro_makePrimitive ⟨Nat.le_of_ble_eq_true rfl, Nat.le_of_ble_eq_true rfl⟩) (z_preS hZ hK hT hS) rfl rfl hl.1 rfl (lv_room (Nat.le_of_ble_eq_true rfl)) d_Sp_splitOff_112 ⟨Nat.le_of_ble_eq_true rfl, Nat.le_of_ble_eq_true rfl⟩) hS (fun r11 M12 N13 H locs hw hZ hS => ?_)
        obtain ⟨hw, eN13⟩ := hw
        rw [eN13] at hZ
        refine lv_pop2_2 (pc := 115) hx hb d_Sp_splitOff_115 rfl ?_
        refine lv_aload_n (pc := 116) hx hb d_Sp_splitOff_116 rfl (lv_at hl 0 rfl) ?_
        refine zg_Sp_36 (pc := 117) hx hb hta hown hK hZ d_Sp_splitOff_117 ?_
        refine lv_aload_n (pc := 120) hx hb d_Sp_splitOff_120 rfl (lv_at hl 0 rfl) ?_
        refine zg_Sp_42 (pc := 121) hx hb hta hown hK hZ d_Sp_splitOff_121 ?_
        refine lv_aload_n (pc := 124) hx hb d_Sp_splitOff_124 rfl (lv_at hl 0 rfl) ?_
        refine zg_Sp_45 (pc := 125) hx hb hta hown hK hZ d_Sp_splitOff_125 ?_
        refine lv_aload_n (pc := 128) hx hb d_Sp_splitOff_128 rfl (lv_at hl 0 rfl) ?_
        refine zg_Sp_48 (pc := 129) hx hb hta hown hK hZ d_Sp_splitOff_129 ?_
        refine z_calli (pc := 132) (va_runS (As := [.ref (b + 74), .ref (b + 76), .ref (b + 77), .ref (b + 78)]) (rest := []) ⟨hx, hb, hml, hown, hts⟩ (c_Ro_findQuotient l G b 74 76 77 78 M12 N hw) (va_cwS 4 hts (z_good (zgS wd522 wd404 wd13 wd405)) rfl rfl rfl hd_Ro_findQuotient ⟨Nat.le_of_ble_eq_true rfl, Nat.le_of_ble_eq_true rfl⟩) (z_preS hZ hK hT hS) rfl rfl hl.1 rfl (lv_room (Nat.le_of_ble_eq_true rfl)) d_Sp_splitOff_132 ⟨Nat.le_of_ble_eq_true rfl, Nat.le_of_ble_eq_true rfl⟩) hS (fun r14 M15 N16 H locs hw hZ hS => ?_)
        obtain ⟨hw, eN16⟩ := hw
        rw [eN16] at hZ
        refine lv_if_ne (pc := 135) (tgt := 140) hx hb d_Sp_splitOff_135 (by decide) (fun hc => ?_) (fun hc => ?_)
        · have hw := hw.1 hc
          refine lv_aload_n (pc := 140) hx hb d_Sp_splitOff_140 rfl (lv_at hl 0 rfl) ?_
          refine zg_Sp_45 (pc := 141) hx hb hta hown hK hZ d_Sp_splitOff_141 ?_
          refine lv_aload_n (pc := 144) hx hb d_Sp_splitOff_144 rfl (lv_at hl 0 rfl) ?_
          refine zg_Sp_36 (pc := 145) hx hb hta hown hK hZ d_Sp_splitOff_145 ?_
          refine z_callv (pc := 148) (va_runS (As := [.ref (b + 77), .ref (b + 74)]) (rest := []) ⟨hx, hb, hml, hown, hts⟩ (c_Ro_copyInto l G b 77 74 M15 N hw) (va_cwS 2 hts (z_good (zgS wd513 wd363 wd13 wd364)) rfl rfl rfl hd_Ro_copyInto ⟨Nat.le_of_ble_eq_true rfl, Nat.le_of_ble_eq_true rfl⟩) (z_preS hZ hK hT hS) rfl rfl hl.1 rfl (lv_room (Nat.le_of_ble_eq_true rfl)) d_Sp_splitOff_148 ⟨Nat.le_of_ble_eq_true rfl, Nat.le_of_ble_eq_true rfl⟩) hS (fun M18 N19 H locs hw hZ hS => ?_)
          obtain ⟨hw, eN19⟩ := hw
          rw [eN19] at hZ
          refine lv_iconst (pc := 151) (v := 1) hx hb d_Sp_splitOff_151 (by decide) ?_
          exact z_zret hx hb hr hlocks hK hT hZ hS ⟨hw.1, ⟨hw.2, rfl⟩⟩ d_Sp_splitOff_152
        · have hw := hw.2 hc
          refine lv_iconst (pc := 138) (v := 0) hx hb d_Sp_splitOff_138 (by decide) ?_
          exact z_zret hx hb hr hlocks hK hT hZ hS ⟨hw.1, ⟨hw.2, rfl⟩⟩ d_Sp_splitOff_139
      · have hw := hw.2 hc
        refine lv_aload_n (pc := 80) hx hb d_Sp_splitOff_80 rfl (lv_at hl 0 rfl) ?_
        refine zg_Sp_42 (pc := 81) hx hb hta hown hK hZ d_Sp_splitOff_81 ?_
        refine lv_iload_n (pc := 84) hx hb d_Sp_splitOff_84 rfl (lv_at hl 1 rfl) ?_
        refine lv_aload_n (pc := 85) hx hb d_Sp_splitOff_85 rfl (lv_at hl 0 rfl) ?_
        refine zg_Sp_42 (pc := 86) hx hb hta hown hK hZ d_Sp_splitOff_86 ?_
        refine lv_iload_n (pc := 89) hx hb d_Sp_splitOff_89 rfl (lv_at hl 1 rfl) ?_
        obtain ⟨hc, hw⟩ := hw
        refine z_lald (pc := 90) hx hb hK hZ hc d_Sp_splitOff_90 ?_
        refine lv_aload_n (pc := 91) hx hb d_Sp_splitOff_91 rfl (lv_at hl 0 rfl) ?_
        refine zg_Sp_28 (pc := 92) hx hb hta hown hK hZ d_Sp_splitOff_92 ?_
        refine zg_Sp_143 (pc := 95) hx hb hta hown hK hZ d_Sp_splitOff_95 ?_
        refine z_calll (pc := 98) (va_runS (As := [.long (M 76 v2.toNatClampNeg), .long (M 51 1)]) (rest := [.int v2, .ref (b + 76)]) ⟨hx, hb, hml, hown, hts⟩ (c_Re_nearest l G b (M 76 v2.toNatClampNeg) (M 51 1) M N hw) (va_cwS 2 hts (z_good (zgS wd623 wd484 wd18 wd485)) rfl rfl rfl hd_Re_nearest ⟨Nat.le_of_ble_eq_true rfl, Nat.le_of_ble_eq_true rfl⟩) (z_preS hZ hK hT hS) rfl rfl hl.1 rfl (lv_room (Nat.le_of_ble_eq_true rfl)) d_Sp_splitOff_98 ⟨Nat.le_of_ble_eq_true rfl, Nat.le_of_ble_eq_true rfl⟩) hS (fun r20 M21 N22 H locs hw hZ hS => ?_)
        obtain ⟨hw, eM21, eN22⟩ := hw
        rw [eM21, eN22] at hZ
        obtain ⟨hc, hw⟩ := hw
        refine z_last (pc := 101) hx hb hK hZ hS hc d_Sp_splitOff_101 (fun M23 H locs hM23 hZ hS => ?_)
        have hw := hw M23 hM23
        refine lv_iinc (pc := 102) (k := 1) (v := v2 + (1 : Int32)) (lv' := [(2, .int (v2 + (1 : Int32))), (0, .ref (b + 9))]) hx hb d_Sp_splitOff_102 hl rfl (by rfl) (by decide) rfl (fun ls hl => ?_)
        refine lv_goto (pc := 105) (tgt := 74) hx hb d_Sp_splitOff_105 (by decide) ?_
        exact ih74 (v2 + (1 : Int32)) M23 _ _ _ hZ hS (lv_sub hl [1, 0] rfl) hw
  have lp23 : ∀ (n : Nat) (v2 : Int32) (M : zM) (H : Heap) (ls : Array Slot) (locs : List Loc), va_P G.1 zCl (zws G b M N) H → va_S (zA b) s.heap H locs → lv_has ls 3 [(0, .ref (b + 9)), (1, .int a1), (2, .int v2)] → L_Sp_splitOff_23 P a1 N n v2 M → W p l e (headSpec ws_Sp_splitOff rm_Sp_splitOff).room s m ([.ref (b + 9), .int a1] : List Value).toArray below meth c H locs 0 0 (MQ below (zQi G b (fun r M' N' => P r M' ∧ N' = N)) ([.ref (b + 9), .int a1] : List Value).toArray s 0 0 (zA b)) (F0 m 23 ls []) := by
    intro  n
    induction n with
    | zero => intro v2 M H ls locs hZ hS hl hw; exact False.elim hw
    | succ n23 ih23 =>
      intro v2 M H ls locs hZ hS hl hw
      have hw : B_Sp_splitOff_23 P a1 N (L_Sp_splitOff_23 P a1 N n23) v2 M := hw
      unfold B_Sp_splitOff_23 at hw
      refine lv_iload_n (pc := 23) hx hb d_Sp_splitOff_23 rfl (lv_at hl 2 rfl) ?_
      refine lv_aload_n (pc := 24) hx hb d_Sp_splitOff_24 rfl (lv_at hl 0 rfl) ?_
      refine zg_Sp_21 (pc := 25) hx hb hta hown hK hZ d_Sp_splitOff_25 ?_
      refine zg_Sp_89 (pc := 28) hx hb hta hown hK hZ d_Sp_splitOff_28 ?_
      refine lv_icmp_ge (pc := 31) (tgt := 72) hx hb d_Sp_splitOff_31 (by decide) (fun hc => ?_) (fun hc => ?_)
      · have hw := hw.1 hc
        refine lv_iconst (pc := 72) (v := 0) hx hb d_Sp_splitOff_72 (by decide) ?_
        refine lv_istore_n (pc := 73) (lv' := [(2, .int (0 : Int32)), (0, .ref (b + 9)), (1, .int a1)]) hx hb d_Sp_splitOff_73 rfl hl (by decide) rfl (fun ls hl => ?_)
        obtain ⟨n, hw⟩ := hw
        exact lp74  n (0 : Int32) M _ _ _ hZ hS (lv_sub hl [1, 0] rfl) hw
      · have hw := hw.2 hc
        refine lv_iload_n (pc := 34) hx hb d_Sp_splitOff_34 rfl (lv_at hl 1 rfl) ?_
        refine lv_iload_n (pc := 35) hx hb d_Sp_splitOff_35 rfl (lv_at hl 2 rfl) ?_
        refine lv_ishr (pc := 36) hx hb d_Sp_splitOff_36 ?_
        refine lv_iconst (pc := 37) (v := 1) hx hb d_Sp_splitOff_37 (by decide) ?_
        refine lv_iand (pc := 38) hx hb d_Sp_splitOff_38 ?_
        refine lv_iconst (pc := 39) (v := 1) hx hb d_Sp_splitOff_39 (by decide) ?_
        refine lv_icmp_ne (pc := 40) (tgt := 66) hx hb d_Sp_splitOff_40 (by decide) (fun hc => ?_) (fun hc => ?_)
        · have hw := hw.1 hc
          refine lv_iinc (pc := 66) (k := 2) (v := v2 + (1 : Int32)) (lv' := [(2, .int (v2 + (1 : Int32))), (0, .ref (b + 9)), (1, .int a1)]) hx hb d_Sp_splitOff_66 hl rfl (by rfl) (by decide) rfl (fun ls hl => ?_)
          refine lv_goto (pc := 69) (tgt := 23) hx hb d_Sp_splitOff_69 (by decide) ?_
          exact ih23 (v2 + (1 : Int32)) M _ _ _ hZ hS (lv_sub hl [1, 2, 0] rfl) hw
        · have hw := hw.2 hc
          refine lv_aload_n (pc := 43) hx hb d_Sp_splitOff_43 rfl (lv_at hl 0 rfl) ?_
          refine zg_Sp_42 (pc := 44) hx hb hta hown hK hZ d_Sp_splitOff_44 ?_
          refine lv_aload_n (pc := 47) hx hb d_Sp_splitOff_47 rfl (lv_at hl 0 rfl) ?_
          refine zg_Sp_28 (pc := 48) hx hb hta hown hK hZ d_Sp_splitOff_48 ?_
          refine zg_Sp_142 (pc := 51) hx hb hta hown hK hZ d_Sp_splitOff_51 ?_
          refine lv_iload_n (pc := 54) hx hb d_Sp_splitOff_54 rfl (lv_at hl 2 rfl) ?_
          obtain ⟨hc, hw⟩ := hw
          refine z_aald (pc := 55) hx hb hK hZ hc d_Sp_splitOff_55 ?_
          refine lv_aload_n (pc := 56) hx hb d_Sp_splitOff_56 rfl (lv_at hl 0 rfl) ?_
          refine zg_Sp_28 (pc := 57) hx hb hta hown hK hZ d_Sp_splitOff_57 ?_
          refine zg_Sp_143 (pc := 60) hx hb hta hown hK hZ d_Sp_splitOff_60 ?_
          refine z_callv (pc := 63) (va_runS (As := [.ref (b + 76), .ref (b + (52 + 1 + v2.toNatClampNeg)), .long (M 51 1)]) (rest := []) ⟨hx, hb, hml, hown, hts⟩ (c_Re_multiplyBy l G b 76 (52 + 1 + v2.toNatClampNeg) (M 51 1) M N hw) (va_cwS 3 hts (z_good (zgS wd622 wd606 wd18 wd607)) rfl rfl rfl hd_Re_multiplyBy ⟨Nat.le_of_ble_eq_true rfl, Nat.le_of_ble_eq_true rfl⟩) (z_preS hZ hK hT hS) rfl rfl hl.1 rfl (lv_room (Nat.le_of_ble_eq_true rfl)) d_Sp_splitOff_63 ⟨Nat.le_of_ble_eq_true rfl, Nat.le_of_ble_eq_true rfl⟩) hS (fun M9 N10 H locs hw hZ hS => ?_)
          obtain ⟨hw, eN10⟩ := hw
          rw [eN10] at hZ
          refine lv_iinc (pc := 66) (k := 2) (v := v2 + (1 : Int32)) (lv' := [(2, .int (v2 + (1 : Int32))), (0, .ref (b + 9)), (1, .int a1)]) hx hb d_Sp_splitOff_66 hl rfl (by rfl) (by decide) rfl (fun ls hl => ?_)
          refine lv_goto (pc := 69) (tgt := 23) hx hb d_Sp_splitOff_69 (by decide) ?_
          exact ih23 (v2 + (1 : Int32)) M9 _ _ _ hZ hS (lv_sub hl [1, 2, 0] rfl) hw
  unfold w_Sp_splitOff at hw
  refine lv_aload_n (pc := 0) hx hb d_Sp_splitOff_0 rfl (lv_at hl 0 rfl) ?_
  refine zg_Sp_42 (pc := 1) hx hb hta hown hK hZ d_Sp_splitOff_1 ?_
  refine lv_lconst (pc := 4) (v := 0) hx hb d_Sp_splitOff_4 (by decide) ?_
  refine z_callv (pc := 5) (va_runS (As := [.ref (b + 76), .long (0 : Int64)]) (rest := []) ⟨hx, hb, hml, hown, hts⟩ (c_Ar_fillJ l G b 76 (0 : Int64) M N hw) (va_cwS 2 hts (z_good (zgS wd620 wd337 wd14 wd338)) rfl rfl rfl hd_Ar_fillJ ⟨Nat.le_of_ble_eq_true rfl, Nat.le_of_ble_eq_true rfl⟩) (z_preS hZ hK hT hS) rfl rfl hl.1 rfl (lv_room (Nat.le_of_ble_eq_true rfl)) d_Sp_splitOff_5 ⟨Nat.le_of_ble_eq_true rfl, Nat.le_of_ble_eq_true rfl⟩) hS (fun M2 N3 H locs hw hZ hS => ?_)
  obtain ⟨hw, eN3⟩ := hw
  rw [eN3] at hZ
  refine lv_aload_n (pc := 8) hx hb d_Sp_splitOff_8 rfl (lv_at hl 0 rfl) ?_
  refine zg_Sp_42 (pc := 9) hx hb hta hown hK hZ d_Sp_splitOff_9 ?_
  refine lv_iconst (pc := 12) (v := 0) hx hb d_Sp_splitOff_12 (by decide) ?_
  refine lv_aload_n (pc := 13) hx hb d_Sp_splitOff_13 rfl (lv_at hl 0 rfl) ?_
  refine zg_Sp_36 (pc := 14) hx hb hta hown hK hZ d_Sp_splitOff_14 ?_
  refine z_calll (pc := 17) (va_runS (As := [.ref (b + 74)]) (rest := [.int (0 : Int32), .ref (b + 76)]) ⟨hx, hb, hml, hown, hts⟩ (c_Ro_leadingOf l G b 74 M2 N hw) (va_cwS 1 hts (z_good (zgS wd621 wd451 wd13 wd452)) rfl rfl rfl hd_Ro_leadingOf ⟨Nat.le_of_ble_eq_true rfl, Nat.le_of_ble_eq_true rfl⟩) (z_preS hZ hK hT hS) rfl rfl hl.1 rfl (lv_room (Nat.le_of_ble_eq_true rfl)) d_Sp_splitOff_17 ⟨Nat.le_of_ble_eq_true rfl, Nat.le_of_ble_eq_true rfl⟩) hS (fun r4 M5 N6 H locs hw hZ hS => ?_)
  obtain ⟨hw, eM5, eN6⟩ := hw
  rw [eM5, eN6] at hZ
  obtain ⟨hc, hw⟩ := hw
  refine z_last (pc := 20) hx hb hK hZ hS hc d_Sp_splitOff_20 (fun M7 H locs hM7 hZ hS => ?_)
  have hw := hw M7 hM7
  refine lv_iconst (pc := 21) (v := 0) hx hb d_Sp_splitOff_21 (by decide) ?_
  refine lv_istore_n (pc := 22) (lv' := [(2, .int (0 : Int32)), (0, .ref (b + 9)), (1, .int a1)]) hx hb d_Sp_splitOff_22 rfl hl (by decide) rfl (fun ls hl => ?_)
  obtain ⟨n, hw⟩ := hw
  exact lp23  n (0 : Int32) M7 _ _ _ hZ hS (lv_sub hl [1, 2, 0] rfl) hw
theorem zg_Sp_32 {p : Program} {l : Launch} {e : Env} {R : Room} {s : State} {m : MethodId} {args : Array Value} {below : List Frame} {meth : Method} {c : Code} {H : Heap} {locs : List Loc} {cells slots : Nat} {Q : State → Prop} {cc : ByteArray} {pc : Nat} {ls : Array Slot} {rest : List Value} {G : zG} {b : Nat} {M : zM} {N : zN} (hx : p.tables.exec = Jvm.exec) (hb : c.code = cc) (hta : ∀ w ∈ zall, w.before args s = true) (hown : s.vm.findClass R_Sp = some m.cls) (hK : va_K G.1 zCl (zty G) s) (hZ : va_P G.1 zCl (zws G b M N) H) (hdg : decode cc pc = .ok (.getfield 32, 3)) (kk : W p l e R s m args below meth c H locs cells slots Q (F0 m (pc + 3) ls (.ref (b + 73) :: rest))) : W p l e R s m args below meth c H locs cells slots Q (F0 m pc ls (.ref (b + 9) :: rest)) :=
  va_get (D := G.1) (ci := 4) (v := .ref (b + 73)) (C := R_Sp) (T := T_Sp) (N := 9) hx hb hta hin_Sp hown hK hZ 9 zo_Sp rfl 3 (by decide) (hta _ wd139) (fun _ h9 => h9) rfl hdg kk
theorem d_Sp_timesInWhole_0 : decode prog_8_method_7_code 0 = .ok (.aload_n 0, 1) := by decide +kernel
theorem d_Sp_timesInWhole_1 : decode prog_8_method_7_code 1 = .ok (.getfield 32, 3) := by decide +kernel
theorem d_Sp_timesInWhole_4 : decode prog_8_method_7_code 4 = .ok (.aload_n 0, 1) := by decide +kernel
theorem d_Sp_timesInWhole_5 : decode prog_8_method_7_code 5 = .ok (.getfield 39, 3) := by decide +kernel
theorem d_Sp_timesInWhole_8 : decode prog_8_method_7_code 8 = .ok (.invokestatic 51, 3) := by decide +kernel
theorem d_Sp_timesInWhole_11 : decode prog_8_method_7_code 11 = .ok (.iconst 0, 1) := by decide +kernel
theorem d_Sp_timesInWhole_12 : decode prog_8_method_7_code 12 = .ok (.istore_n 2, 1) := by decide +kernel
theorem d_Sp_timesInWhole_13 : decode prog_8_method_7_code 13 = .ok (.iload_n 2, 1) := by decide +kernel
theorem d_Sp_timesInWhole_14 : decode prog_8_method_7_code 14 = .ok (.bipush 8, 2) := by decide +kernel
theorem d_Sp_timesInWhole_16 : decode prog_8_method_7_code 16 = .ok (.if_icmp .ge 39, 3) := by decide +kernel
theorem d_Sp_timesInWhole_19 : decode prog_8_method_7_code 19 = .ok (.aload_n 0, 1) := by decide +kernel
theorem d_Sp_timesInWhole_20 : decode prog_8_method_7_code 20 = .ok (.getfield 39, 3) := by decide +kernel
theorem d_Sp_timesInWhole_23 : decode prog_8_method_7_code 23 = .ok (.aload_n 1, 1) := by decide +kernel
theorem d_Sp_timesInWhole_24 : decode prog_8_method_7_code 24 = .ok (.aload_n 0, 1) := by decide +kernel
theorem d_Sp_timesInWhole_25 : decode prog_8_method_7_code 25 = .ok (.getfield 45, 3) := by decide +kernel
theorem d_Sp_timesInWhole_28 : decode prog_8_method_7_code 28 = .ok (.aload_n 0, 1) := by decide +kernel
theorem d_Sp_timesInWhole_29 : decode prog_8_method_7_code 29 = .ok (.getfield 48, 3) := by decide +kernel
theorem d_Sp_timesInWhole_32 : decode prog_8_method_7_code 32 = .ok (.invokestatic 78, 3) := by decide +kernel
theorem d_Sp_timesInWhole_35 : decode prog_8_method_7_code 35 = .ok (.ifCond .eq 20, 3) := by decide +kernel
theorem d_Sp_timesInWhole_38 : decode prog_8_method_7_code 38 = .ok (.aload_n 0, 1) := by decide +kernel
theorem d_Sp_timesInWhole_39 : decode prog_8_method_7_code 39 = .ok (.getfield 45, 3) := by decide +kernel
theorem d_Sp_timesInWhole_42 : decode prog_8_method_7_code 42 = .ok (.aload_n 0, 1) := by decide +kernel
theorem d_Sp_timesInWhole_43 : decode prog_8_method_7_code 43 = .ok (.getfield 39, 3) := by decide +kernel
theorem d_Sp_timesInWhole_46 : decode prog_8_method_7_code 46 = .ok (.invokestatic 51, 3) := by decide +kernel
theorem d_Sp_timesInWhole_49 : decode prog_8_method_7_code 49 = .ok (.iinc 2 1, 3) := by decide +kernel
theorem d_Sp_timesInWhole_52 : decode prog_8_method_7_code 52 = .ok (.goto (-39), 3) := by decide +kernel
theorem d_Sp_timesInWhole_55 : decode prog_8_method_7_code 55 = .ok (.iload_n 2, 1) := by decide +kernel
theorem d_Sp_timesInWhole_56 : decode prog_8_method_7_code 56 = .ok (.ireturn, 1) := by decide +kernel
def B_Sp_timesInWhole_13 (P : Int32 → zM → Prop) (a1 : Nat) (k13 : Int32 → zM → Prop) (v2 : Int32) (M : zM) : Prop := ((8 : Int32) ≤ v2 → P v2 M) ∧ (¬ (8 : Int32) ≤ v2 → w_Ro_findQuotient 75 a1 77 78 M (fun r4 M5 => (r4 = 0 → P v2 M5) ∧ (¬ r4 = 0 → w_Ro_copyInto 77 75 M5 (fun M8 => k13 (v2 + (1 : Int32)) M8))))
def L_Sp_timesInWhole_13 (P : Int32 → zM → Prop) (a1 : Nat) (n : Nat) : Int32 → zM → Prop := Nat.rec (fun _ _ => False) (fun _ k => B_Sp_timesInWhole_13 P a1 k) n
def w_Sp_timesInWhole (a1 : Nat) (M : zM) (P : Int32 → zM → Prop) : Prop := w_Ro_copyInto 73 75 M (fun M2 => ∃ n, L_Sp_timesInWhole_13 P a1 n (0 : Int32) M2)
def ws_Sp_timesInWhole : List Cond := .code y_Sp_timesInWhole prog_8_method_7_code 3 (Option.some Jvm.ClassFile.FieldType.int) :: zall
def rm_Sp_timesInWhole : Room := { frames := 3, cells := 0, slots := 0, locals := 87 }
theorem hd_Sp_timesInWhole : y_Sp_timesInWhole.cls ≠ "java/lang/invoke/MethodHandle" ∧ y_Sp_timesInWhole.cls ≠ "java/lang/invoke/VarHandle" ∧ (parseMethodDescriptor y_Sp_timesInWhole.desc).map (fun d => d.parameters.length) = some 1 := by decide +kernel
set_option maxHeartbeats 4000000 in
set_option maxRecDepth 100000 in
theorem c_Sp_timesInWhole (l : Launch) (G : zG) (b : Nat) (a1 : Nat) (M : zM) (N : zN) {P : Int32 → zM → Prop} (hw : w_Sp_timesInWhole a1 M P) : Met l y_Sp_timesInWhole ws_Sp_timesInWhole rm_Sp_timesInWhole (zPc G b M N [.ref (b + 9), .ref (b + a1)]) (zQi G b (fun r M' N' => P r M' ∧ N' = N)) 0 0 (zA b) := by
  refine Met.ofW (cc := prog_8_method_7_code) (maxL := 3) (ret := (Option.some Jvm.ClassFile.FieldType.int)) (by decide) rfl ?_
  intro p e s m args below meth c s₁ B hml hv
  obtain ⟨rfl, hZ, hK, hT⟩ := hv
  have hx := B.exec
  have hb := B.bytes
  have hr := B.returns
  have hts := atoms_spec (ws := ws_Sp_timesInWhole) B.pre
  have hta : ∀ w ∈ zall, w.before ([.ref (b + 9), .ref (b + a1)] : List Value).toArray s = true := fun w h => hts w (List.mem_cons_of_mem _ h)
  have hown : s.vm.findClass R_Sp = some m.cls := findClass_of_methodNamed B.named
  have hlocks := B.notSynchronized
  have hS : va_S (zA b) s.heap s.heap [] := va_S.rf
  have hl := lv_entry ([.ref (b + 9), .ref (b + a1)]) (n := 3) (Nat.le_of_ble_eq_true rfl)
  rw [lg_entry_eq]
  generalize (lg_sl ([.ref (b + 9), .ref (b + a1)]) ++ List.replicate (3 - (lg_sl ([.ref (b + 9), .ref (b + a1)])).length) Slot.unset).toArray = ls at hl ⊢
  have hl : lv_has ls 3 [(0, .ref (b + 9)), (1, .ref (b + a1))] := hl
  have lp13 : ∀ (n : Nat) (v2 : Int32) (M : zM) (H : Heap) (ls : Array Slot) (locs : List Loc), va_P G.1 zCl (zws G b M N) H → va_S (zA b) s.heap H locs → lv_has ls 3 [(0, .ref (b + 9)), (1, .ref (b + a1)), (2, .int v2)] → L_Sp_timesInWhole_13 P a1 n v2 M → W p l e (headSpec ws_Sp_timesInWhole rm_Sp_timesInWhole).room s m ([.ref (b + 9), .ref (b + a1)] : List Value).toArray below meth c H locs 0 0 (MQ below (zQi G b (fun r M' N' => P r M' ∧ N' = N)) ([.ref (b + 9), .ref (b + a1)] : List Value).toArray s 0 0 (zA b)) (F0 m 13 ls []) := by
    intro  n
    induction n with
    | zero => intro v2 M H ls locs hZ hS hl hw; exact False.elim hw
    | succ n13 ih13 =>
      intro v2 M H ls locs hZ hS hl hw
      have hw : B_Sp_timesInWhole_13 P a1 (L_Sp_timesInWhole_13 P a1 n13) v2 M := hw
      unfold B_Sp_timesInWhole_13 at hw
      refine lv_iload_n (pc := 13) hx hb d_Sp_timesInWhole_13 rfl (lv_at hl 2 rfl) ?_
      refine lv_bipush (pc := 14) (v := 8) hx hb d_Sp_timesInWhole_14 (by decide) ?_
      refine lv_icmp_ge (pc := 16) (tgt := 55) hx hb d_Sp_timesInWhole_16 (by decide) (fun hc => ?_) (fun hc => ?_)
      · have hw := hw.1 hc
        refine lv_iload_n (pc := 55) hx hb d_Sp_timesInWhole_55 rfl (lv_at hl 2 rfl) ?_
        exact z_iret hx hb hr hlocks hK hT hZ hS ⟨hw, rfl⟩ d_Sp_timesInWhole_56
      · have hw := hw.2 hc
        refine lv_aload_n (pc := 19) hx hb d_Sp_timesInWhole_19 rfl (lv_at hl 0 rfl) ?_
        refine zg_Sp_39 (pc := 20) hx hb hta hown hK hZ d_Sp_timesInWhole_20 ?_
        refine lv_aload_n (pc := 23) hx hb d_Sp_timesInWhole_23 rfl (lv_at hl 1 rfl) ?_
        refine lv_aload_n (pc := 24) hx hb d_Sp_timesInWhole_24 rfl (lv_at hl 0 rfl) ?_
        refine zg_Sp_45 (pc := 25) hx hb hta hown hK hZ d_Sp_timesInWhole_25 ?_
        refine lv_aload_n (pc := 28) hx hb d_Sp_timesInWhole_28 rfl (lv_at hl 0 rfl) ?_
        refine zg_Sp_48 (pc := 29) hx hb hta hown hK hZ d_Sp_timesInWhole_29 ?_
        refine z_calli (pc := 32) (va_runS (As := [.ref (b + 75), .ref (b + a1), .ref (b + 77), .ref (b + 78)]) (rest := []) ⟨hx, hb, hml, hown, hts⟩ (c_Ro_findQuotient l G b 75 a1 77 78 M N hw) (va_cwS 4 hts (z_good (zgS wd522 wd404 wd13 wd405)) rfl rfl rfl hd_Ro_findQuotient ⟨Nat.le_of_ble_eq_true rfl, Nat.le_of_ble_eq_true rfl⟩) (z_preS hZ hK hT hS) rfl rfl hl.1 rfl (lv_room (Nat.le_of_ble_eq_true rfl)) d_Sp_timesInWhole_32 ⟨Nat.le_of_ble_eq_true rfl, Nat.le_of_ble_eq_true rfl⟩) hS (fun r4 M5 N6 H locs hw hZ hS => ?_)
        obtain ⟨hw, eN6⟩ := hw
        rw [eN6] at hZ
        refine lv_if_eq (pc := 35) (tgt := 55) hx hb d_Sp_timesInWhole_35 (by decide) (fun hc => ?_) (fun hc => ?_)
        · have hw := hw.1 hc
          refine lv_iload_n (pc := 55) hx hb d_Sp_timesInWhole_55 rfl (lv_at hl 2 rfl) ?_
          exact z_iret hx hb hr hlocks hK hT hZ hS ⟨hw, rfl⟩ d_Sp_timesInWhole_56
        · have hw := hw.2 hc
          refine lv_aload_n (pc := 38) hx hb d_Sp_timesInWhole_38 rfl (lv_at hl 0 rfl) ?_
          refine zg_Sp_45 (pc := 39) hx hb hta hown hK hZ d_Sp_timesInWhole_39 ?_
          refine lv_aload_n (pc := 42) hx hb d_Sp_timesInWhole_42 rfl (lv_at hl 0 rfl) ?_
          refine zg_Sp_39 (pc := 43) hx hb hta hown hK hZ d_Sp_timesInWhole_43 ?_
          refine z_callv (pc := 46) (va_runS (As := [.ref (b + 77), .ref (b + 75)]) (rest := []) ⟨hx, hb, hml, hown, hts⟩ (c_Ro_copyInto l G b 77 75 M5 N hw) (va_cwS 2 hts (z_good (zgS wd513 wd363 wd13 wd364)) rfl rfl rfl hd_Ro_copyInto ⟨Nat.le_of_ble_eq_true rfl, Nat.le_of_ble_eq_true rfl⟩) (z_preS hZ hK hT hS) rfl rfl hl.1 rfl (lv_room (Nat.le_of_ble_eq_true rfl)) d_Sp_timesInWhole_46 ⟨Nat.le_of_ble_eq_true rfl, Nat.le_of_ble_eq_true rfl⟩) hS (fun M8 N9 H locs hw hZ hS => ?_)
          obtain ⟨hw, eN9⟩ := hw
          rw [eN9] at hZ
          refine lv_iinc (pc := 49) (k := 2) (v := v2 + (1 : Int32)) (lv' := [(2, .int (v2 + (1 : Int32))), (0, .ref (b + 9)), (1, .ref (b + a1))]) hx hb d_Sp_timesInWhole_49 hl rfl (by rfl) (by decide) rfl (fun ls hl => ?_)
          refine lv_goto (pc := 52) (tgt := 13) hx hb d_Sp_timesInWhole_52 (by decide) ?_
          exact ih13 (v2 + (1 : Int32)) M8 _ _ _ hZ hS (lv_sub hl [1, 2, 0] rfl) hw
  unfold w_Sp_timesInWhole at hw
  refine lv_aload_n (pc := 0) hx hb d_Sp_timesInWhole_0 rfl (lv_at hl 0 rfl) ?_
  refine zg_Sp_32 (pc := 1) hx hb hta hown hK hZ d_Sp_timesInWhole_1 ?_
  refine lv_aload_n (pc := 4) hx hb d_Sp_timesInWhole_4 rfl (lv_at hl 0 rfl) ?_
  refine zg_Sp_39 (pc := 5) hx hb hta hown hK hZ d_Sp_timesInWhole_5 ?_
  refine z_callv (pc := 8) (va_runS (As := [.ref (b + 73), .ref (b + 75)]) (rest := []) ⟨hx, hb, hml, hown, hts⟩ (c_Ro_copyInto l G b 73 75 M N hw) (va_cwS 2 hts (z_good (zgS wd513 wd363 wd13 wd364)) rfl rfl rfl hd_Ro_copyInto ⟨Nat.le_of_ble_eq_true rfl, Nat.le_of_ble_eq_true rfl⟩) (z_preS hZ hK hT hS) rfl rfl hl.1 rfl (lv_room (Nat.le_of_ble_eq_true rfl)) d_Sp_timesInWhole_8 ⟨Nat.le_of_ble_eq_true rfl, Nat.le_of_ble_eq_true rfl⟩) hS (fun M2 N3 H locs hw hZ hS => ?_)
  obtain ⟨hw, eN3⟩ := hw
  rw [eN3] at hZ
  refine lv_iconst (pc := 11) (v := 0) hx hb d_Sp_timesInWhole_11 (by decide) ?_
  refine lv_istore_n (pc := 12) (lv' := [(2, .int (0 : Int32)), (0, .ref (b + 9)), (1, .ref (b + a1))]) hx hb d_Sp_timesInWhole_12 rfl hl (by decide) rfl (fun ls hl => ?_)
  obtain ⟨n, hw⟩ := hw
  exact lp13  n (0 : Int32) M2 _ _ _ hZ hS (lv_sub hl [1, 2, 0] rfl) hw
theorem d_Lo_compare_0 : decode prog_16_method_42_code 0 = .ok (.lload_n 0, 1) := by decide +kernel
theorem d_Lo_compare_1 : decode prog_16_method_42_code 1 = .ok (.lload_n 2, 1) := by decide +kernel
theorem d_Lo_compare_2 : decode prog_16_method_42_code 2 = .ok (.lcmp, 1) := by decide +kernel
theorem d_Lo_compare_3 : decode prog_16_method_42_code 3 = .ok (.ifCond .ge 7, 3) := by decide +kernel
theorem d_Lo_compare_6 : decode prog_16_method_42_code 6 = .ok (.iconst (-1), 1) := by decide +kernel
theorem d_Lo_compare_7 : decode prog_16_method_42_code 7 = .ok (.goto 14, 3) := by decide +kernel
theorem d_Lo_compare_10 : decode prog_16_method_42_code 10 = .ok (.lload_n 0, 1) := by decide +kernel
theorem d_Lo_compare_11 : decode prog_16_method_42_code 11 = .ok (.lload_n 2, 1) := by decide +kernel
theorem d_Lo_compare_12 : decode prog_16_method_42_code 12 = .ok (.lcmp, 1) := by decide +kernel
theorem d_Lo_compare_13 : decode prog_16_method_42_code 13 = .ok (.ifCond .ne 7, 3) := by decide +kernel
theorem d_Lo_compare_16 : decode prog_16_method_42_code 16 = .ok (.iconst 0, 1) := by decide +kernel
theorem d_Lo_compare_17 : decode prog_16_method_42_code 17 = .ok (.goto 4, 3) := by decide +kernel
theorem d_Lo_compare_20 : decode prog_16_method_42_code 20 = .ok (.iconst 1, 1) := by decide +kernel
theorem d_Lo_compare_21 : decode prog_16_method_42_code 21 = .ok (.ireturn, 1) := by decide +kernel
def w_Lo_compare (a0 : Int64) (a2 : Int64) (P : Int32 → Prop) : Prop := (a2 ≤ a0 → (¬ a0 = a2 → P (1 : Int32)) ∧ (a0 = a2 → P (0 : Int32))) ∧ (¬ a2 ≤ a0 → P (-1 : Int32))
def ws_Lo_compare : List Cond := .code y_Lo_compare prog_16_method_42_code 4 (Option.some Jvm.ClassFile.FieldType.int) :: zall
def rm_Lo_compare : Room := { frames := 0, cells := 0, slots := 0, locals := 0 }
theorem hd_Lo_compare : y_Lo_compare.cls ≠ "java/lang/invoke/MethodHandle" ∧ y_Lo_compare.cls ≠ "java/lang/invoke/VarHandle" ∧ (parseMethodDescriptor y_Lo_compare.desc).map (fun d => d.parameters.length) = some 2 := by decide +kernel
set_option maxHeartbeats 4000000 in
set_option maxRecDepth 100000 in
theorem c_Lo_compare (l : Launch) (G : zG) (b : Nat) (a0 : Int64) (a2 : Int64) (M : zM) (N : zN) {P : Int32 → Prop} (hw : w_Lo_compare a0 a2  P) : Met l y_Lo_compare ws_Lo_compare rm_Lo_compare (zPc G b M N [.long a0, .long a2]) (zQi G b (fun r M' N' => P r ∧ M' = M ∧ N' = N)) 0 0 (zA b) := by
  refine Met.ofW (cc := prog_16_method_42_code) (maxL := 4) (ret := (Option.some Jvm.ClassFile.FieldType.int)) (by decide) rfl ?_
  intro p e s m args below meth c s₁ B hml hv
  obtain ⟨rfl, hZ, hK, hT⟩ := hv
  have hx := B.exec
  have hb := B.bytes
  have hr := B.returns
  have hts := atoms_spec (ws := ws_Lo_compare) B.pre
  have hta : ∀ w ∈ zall, w.before ([.long a0, .long a2] : List Value).toArray s = true := fun w h => hts w (List.mem_cons_of_mem _ h)
  have hown : s.vm.findClass R_Lo = some m.cls := findClass_of_methodNamed B.named
  have hlocks := B.notSynchronized
  have hS : va_S (zA b) s.heap s.heap [] := va_S.rf
  have hl := lv_entry ([.long a0, .long a2]) (n := 4) (Nat.le_of_ble_eq_true rfl)
  rw [lg_entry_eq]
  generalize (lg_sl ([.long a0, .long a2]) ++ List.replicate (4 - (lg_sl ([.long a0, .long a2])).length) Slot.unset).toArray = ls at hl ⊢
  have hl : lv_has ls 4 [(0, .long a0), (2, .long a2)] := hl
  unfold w_Lo_compare at hw
  refine lv_lload_n (pc := 0) hx hb d_Lo_compare_0 rfl (lv_at hl 0 rfl) ?_
  refine lv_lload_n (pc := 1) hx hb d_Lo_compare_1 rfl (lv_at hl 1 rfl) ?_
  refine z_lc_ge (pc := 2) (tgt := 10) hx hb d_Lo_compare_2 d_Lo_compare_3 (by decide) (fun hc => ?_) (fun hc => ?_)
  · have hw := hw.1 hc
    refine lv_lload_n (pc := 10) hx hb d_Lo_compare_10 rfl (lv_at hl 0 rfl) ?_
    refine lv_lload_n (pc := 11) hx hb d_Lo_compare_11 rfl (lv_at hl 1 rfl) ?_
    refine z_lc_ne (pc := 12) (tgt := 20) hx hb d_Lo_compare_12 d_Lo_compare_13 (by decide) (fun hc => ?_) (fun hc => ?_)
    · have hw := hw.1 hc
      refine lv_iconst (pc := 20) (v := 1) hx hb d_Lo_compare_20 (by decide) ?_
      exact z_iret hx hb hr hlocks hK hT hZ hS ⟨hw, rfl, rfl⟩ d_Lo_compare_21
    · have hw := hw.2 hc
      refine lv_iconst (pc := 16) (v := 0) hx hb d_Lo_compare_16 (by decide) ?_
      refine lv_goto (pc := 17) (tgt := 21) hx hb d_Lo_compare_17 (by decide) ?_
      exact z_iret hx hb hr hlocks hK hT hZ hS ⟨hw, rfl, rfl⟩ d_Lo_compare_21
  · have hw := hw.2 hc
    refine lv_iconst (pc := 6) (v := -1) hx hb d_Lo_compare_6 (by decide) ?_
    refine lv_goto (pc := 7) (tgt := 21) hx hb d_Lo_compare_7 (by decide) ?_
    exact z_iret hx hb hr hlocks hK hT hZ hS ⟨hw, rfl, rfl⟩ d_Lo_compare_21
theorem d_Fa_standsBefore_0 : decode prog_3_method_4_code 0 = .ok (.aload_n 1, 1) := by decide +kernel
theorem d_Fa_standsBefore_1 : decode prog_3_method_4_code 1 = .ok (.invokestatic 38, 3) := by decide +kernel
theorem d_Fa_standsBefore_4 : decode prog_3_method_4_code 4 = .ok (.aload_n 0, 1) := by decide +kernel
theorem d_Fa_standsBefore_5 : decode prog_3_method_4_code 5 = .ok (.invokestatic 38, 3) := by decide +kernel
theorem d_Fa_standsBefore_8 : decode prog_3_method_4_code 8 = .ok (.isub, 1) := by decide +kernel
theorem d_Fa_standsBefore_9 : decode prog_3_method_4_code 9 = .ok (.istore_n 2, 1) := by decide +kernel
theorem d_Fa_standsBefore_10 : decode prog_3_method_4_code 10 = .ok (.bipush 7, 2) := by decide +kernel
theorem d_Fa_standsBefore_12 : decode prog_3_method_4_code 12 = .ok (.istore_n 3, 1) := by decide +kernel
theorem d_Fa_standsBefore_13 : decode prog_3_method_4_code 13 = .ok (.iload_n 3, 1) := by decide +kernel
theorem d_Fa_standsBefore_14 : decode prog_3_method_4_code 14 = .ok (.ifCond .lt 23, 3) := by decide +kernel
theorem d_Fa_standsBefore_17 : decode prog_3_method_4_code 17 = .ok (.iload_n 2, 1) := by decide +kernel
theorem d_Fa_standsBefore_18 : decode prog_3_method_4_code 18 = .ok (.ifCond .ne 19, 3) := by decide +kernel
theorem d_Fa_standsBefore_21 : decode prog_3_method_4_code 21 = .ok (.aload_n 1, 1) := by decide +kernel
theorem d_Fa_standsBefore_22 : decode prog_3_method_4_code 22 = .ok (.iload_n 3, 1) := by decide +kernel
theorem d_Fa_standsBefore_23 : decode prog_3_method_4_code 23 = .ok (.laload, 1) := by decide +kernel
theorem d_Fa_standsBefore_24 : decode prog_3_method_4_code 24 = .ok (.aload_n 0, 1) := by decide +kernel
theorem d_Fa_standsBefore_25 : decode prog_3_method_4_code 25 = .ok (.iload_n 3, 1) := by decide +kernel
theorem d_Fa_standsBefore_26 : decode prog_3_method_4_code 26 = .ok (.laload, 1) := by decide +kernel
theorem d_Fa_standsBefore_27 : decode prog_3_method_4_code 27 = .ok (.invokestatic 42, 3) := by decide +kernel
theorem d_Fa_standsBefore_30 : decode prog_3_method_4_code 30 = .ok (.istore_n 2, 1) := by decide +kernel
theorem d_Fa_standsBefore_31 : decode prog_3_method_4_code 31 = .ok (.iinc 3 (-1), 3) := by decide +kernel
theorem d_Fa_standsBefore_34 : decode prog_3_method_4_code 34 = .ok (.goto (-21), 3) := by decide +kernel
theorem d_Fa_standsBefore_37 : decode prog_3_method_4_code 37 = .ok (.iload_n 2, 1) := by decide +kernel
theorem d_Fa_standsBefore_38 : decode prog_3_method_4_code 38 = .ok (.ifCond .le 7, 3) := by decide +kernel
theorem d_Fa_standsBefore_41 : decode prog_3_method_4_code 41 = .ok (.iconst 1, 1) := by decide +kernel
theorem d_Fa_standsBefore_42 : decode prog_3_method_4_code 42 = .ok (.goto 4, 3) := by decide +kernel
theorem d_Fa_standsBefore_45 : decode prog_3_method_4_code 45 = .ok (.iconst 0, 1) := by decide +kernel
theorem d_Fa_standsBefore_46 : decode prog_3_method_4_code 46 = .ok (.ireturn, 1) := by decide +kernel
def J_Fa_standsBefore_37 (P : Int32 → Prop) (v2 : Int32) (M : zM) : Prop := (v2 ≤ 0 → narrow .boolean (.int (0 : Int32)) = .int (0 : Int32) ∧ P (0 : Int32)) ∧ (¬ v2 ≤ 0 → narrow .boolean (.int (1 : Int32)) = .int (1 : Int32) ∧ P (1 : Int32))
def B_Fa_standsBefore_13 (P : Int32 → Prop) (a0 : Nat) (a1 : Nat) (M : zM) (k13 : Int32 → Int32 → Prop) (v2 : Int32) (v3 : Int32) : Prop := (v3 < 0 → J_Fa_standsBefore_37 P v2 M) ∧ (¬ v3 < 0 → (¬ v2 = 0 → J_Fa_standsBefore_37 P v2 M) ∧ (v2 = 0 → vp_in v3 (zlong a1) ∧ vp_in v3 (zlong a0) ∧ w_Lo_compare (M a1 v3.toNatClampNeg) (M a0 v3.toNatClampNeg)  (fun r8 => k13 r8 (v3 + (-1 : Int32)))))
def L_Fa_standsBefore_13 (P : Int32 → Prop) (a0 : Nat) (a1 : Nat) (M : zM) (n : Nat) : Int32 → Int32 → Prop := Nat.rec (fun _ _ => False) (fun _ k => B_Fa_standsBefore_13 P a0 a1 M k) n
def w_Fa_standsBefore (a0 : Nat) (a1 : Nat) (M : zM) (P : Int32 → Prop) : Prop := w_Ro_degreeOf a1 M (fun r1 => w_Ro_degreeOf a0 M (fun r4 => ∀ x7 : Int32, x7 = r1 - r4 → ∃ n, L_Fa_standsBefore_13 P a0 a1 M n x7 (7 : Int32)))
def ws_Fa_standsBefore : List Cond := .code y_Fa_standsBefore prog_3_method_4_code 4 (Option.some Jvm.ClassFile.FieldType.boolean) :: zall
def rm_Fa_standsBefore : Room := { frames := 1, cells := 0, slots := 0, locals := 23 }
theorem hd_Fa_standsBefore : y_Fa_standsBefore.cls ≠ "java/lang/invoke/MethodHandle" ∧ y_Fa_standsBefore.cls ≠ "java/lang/invoke/VarHandle" ∧ (parseMethodDescriptor y_Fa_standsBefore.desc).map (fun d => d.parameters.length) = some 2 := by decide +kernel
set_option maxHeartbeats 4000000 in
set_option maxRecDepth 100000 in
theorem c_Fa_standsBefore (l : Launch) (G : zG) (b : Nat) (a0 : Nat) (a1 : Nat) (M : zM) (N : zN) {P : Int32 → Prop} (hw : w_Fa_standsBefore a0 a1 M P) : Met l y_Fa_standsBefore ws_Fa_standsBefore rm_Fa_standsBefore (zPc G b M N [.ref (b + a0), .ref (b + a1)]) (zQi G b (fun r M' N' => P r ∧ M' = M ∧ N' = N)) 0 0 (zA b) := by
  refine Met.ofW (cc := prog_3_method_4_code) (maxL := 4) (ret := (Option.some Jvm.ClassFile.FieldType.boolean)) (by decide) rfl ?_
  intro p e s m args below meth c s₁ B hml hv
  obtain ⟨rfl, hZ, hK, hT⟩ := hv
  have hx := B.exec
  have hb := B.bytes
  have hr := B.returns
  have hts := atoms_spec (ws := ws_Fa_standsBefore) B.pre
  have hta : ∀ w ∈ zall, w.before ([.ref (b + a0), .ref (b + a1)] : List Value).toArray s = true := fun w h => hts w (List.mem_cons_of_mem _ h)
  have hown : s.vm.findClass R_Fa = some m.cls := findClass_of_methodNamed B.named
  have hlocks := B.notSynchronized
  have hS : va_S (zA b) s.heap s.heap [] := va_S.rf
  have hl := lv_entry ([.ref (b + a0), .ref (b + a1)]) (n := 4) (Nat.le_of_ble_eq_true rfl)
  rw [lg_entry_eq]
  generalize (lg_sl ([.ref (b + a0), .ref (b + a1)]) ++ List.replicate (4 - (lg_sl ([.ref (b + a0), .ref (b + a1)])).length) Slot.unset).toArray = ls at hl ⊢
  have hl : lv_has ls 4 [(0, .ref (b + a0)), (1, .ref (b + a1))] := hl
  have j37 : ∀ (v2 : Int32) (H : Heap) (ls : Array Slot) (locs : List Loc), va_P G.1 zCl (zws G b M N) H → va_S (zA b) s.heap H locs → lv_has ls 4 [(2, .int v2)] → J_Fa_standsBefore_37 P v2 M → W p l e (headSpec ws_Fa_standsBefore rm_Fa_standsBefore).room s m ([.ref (b + a0), .ref (b + a1)] : List Value).toArray below meth c H locs 0 0 (MQ below (zQi G b (fun r M' N' => P r ∧ M' = M ∧ N' = N)) ([.ref (b + a0), .ref (b + a1)] : List Value).toArray s 0 0 (zA b)) (F0 m 37 ls []) := by
    intro v2 H ls locs hZ hS hl hw
    unfold J_Fa_standsBefore_37 at hw
    refine lv_iload_n (pc := 37) hx hb d_Fa_standsBefore_37 rfl (lv_at hl 0 rfl) ?_
    refine lv_if_le (pc := 38) (tgt := 45) hx hb d_Fa_standsBefore_38 (by decide) (fun hc => ?_) (fun hc => ?_)
    · have hw := hw.1 hc
      refine lv_iconst (pc := 45) (v := 0) hx hb d_Fa_standsBefore_45 (by decide) ?_
      exact z_zret hx hb hr hlocks hK hT hZ hS ⟨hw.1, ⟨hw.2, rfl, rfl⟩⟩ d_Fa_standsBefore_46
    · have hw := hw.2 hc
      refine lv_iconst (pc := 41) (v := 1) hx hb d_Fa_standsBefore_41 (by decide) ?_
      refine lv_goto (pc := 42) (tgt := 46) hx hb d_Fa_standsBefore_42 (by decide) ?_
      exact z_zret hx hb hr hlocks hK hT hZ hS ⟨hw.1, ⟨hw.2, rfl, rfl⟩⟩ d_Fa_standsBefore_46
  have lp13 : ∀ (n : Nat) (v2 : Int32) (v3 : Int32) (H : Heap) (ls : Array Slot) (locs : List Loc), va_P G.1 zCl (zws G b M N) H → va_S (zA b) s.heap H locs → lv_has ls 4 [(0, .ref (b + a0)), (1, .ref (b + a1)), (2, .int v2), (3, .int v3)] → L_Fa_standsBefore_13 P a0 a1 M n v2 v3 → W p l e (headSpec ws_Fa_standsBefore rm_Fa_standsBefore).room s m ([.ref (b + a0), .ref (b + a1)] : List Value).toArray below meth c H locs 0 0 (MQ below (zQi G b (fun r M' N' => P r ∧ M' = M ∧ N' = N)) ([.ref (b + a0), .ref (b + a1)] : List Value).toArray s 0 0 (zA b)) (F0 m 13 ls []) := by
    intro  n
    induction n with
    | zero => intro v2 v3 H ls locs hZ hS hl hw; exact False.elim hw
    | succ n13 ih13 =>
      intro v2 v3 H ls locs hZ hS hl hw
      have hw : B_Fa_standsBefore_13 P a0 a1 M (L_Fa_standsBefore_13 P a0 a1 M n13) v2 v3 := hw
      unfold B_Fa_standsBefore_13 at hw
      refine lv_iload_n (pc := 13) hx hb d_Fa_standsBefore_13 rfl (lv_at hl 3 rfl) ?_
      refine lv_if_lt (pc := 14) (tgt := 37) hx hb d_Fa_standsBefore_14 (by decide) (fun hc => ?_) (fun hc => ?_)
      · have hw := hw.1 hc
        exact j37 v2 _ _ _ hZ hS (lv_sub hl [2] rfl) hw
      · have hw := hw.2 hc
        refine lv_iload_n (pc := 17) hx hb d_Fa_standsBefore_17 rfl (lv_at hl 2 rfl) ?_
        refine lv_if_ne (pc := 18) (tgt := 37) hx hb d_Fa_standsBefore_18 (by decide) (fun hc => ?_) (fun hc => ?_)
        · have hw := hw.1 hc
          exact j37 v2 _ _ _ hZ hS (lv_sub hl [2] rfl) hw
        · have hw := hw.2 hc
          refine lv_aload_n (pc := 21) hx hb d_Fa_standsBefore_21 rfl (lv_at hl 1 rfl) ?_
          refine lv_iload_n (pc := 22) hx hb d_Fa_standsBefore_22 rfl (lv_at hl 3 rfl) ?_
          obtain ⟨hc, hw⟩ := hw
          refine z_lald (pc := 23) hx hb hK hZ hc d_Fa_standsBefore_23 ?_
          refine lv_aload_n (pc := 24) hx hb d_Fa_standsBefore_24 rfl (lv_at hl 0 rfl) ?_
          refine lv_iload_n (pc := 25) hx hb d_Fa_standsBefore_25 rfl (lv_at hl 3 rfl) ?_
          obtain ⟨hc, hw⟩ := hw
          refine z_lald (pc := 26) hx hb hK hZ hc d_Fa_standsBefore_26 ?_
          refine z_calli (pc := 27) (va_runS (As := [.long (M a1 v3.toNatClampNeg), .long (M a0 v3.toNatClampNeg)]) (rest := []) ⟨hx, hb, hml, hown, hts⟩ (c_Lo_compare l G b (M a1 v3.toNatClampNeg) (M a0 v3.toNatClampNeg) M N hw) (va_cwS 2 hts (z_good (zgS wd636 wd637 wd19 wd638)) rfl rfl rfl hd_Lo_compare ⟨Nat.le_of_ble_eq_true rfl, Nat.le_of_ble_eq_true rfl⟩) (z_preS hZ hK hT hS) rfl rfl hl.1 rfl (lv_room (Nat.le_of_ble_eq_true rfl)) d_Fa_standsBefore_27 ⟨Nat.le_of_ble_eq_true rfl, Nat.le_of_ble_eq_true rfl⟩) hS (fun r8 M9 N10 H locs hw hZ hS => ?_)
          obtain ⟨hw, eM9, eN10⟩ := hw
          rw [eM9, eN10] at hZ
          refine lv_istore_n (pc := 30) (lv' := [(2, .int r8), (0, .ref (b + a0)), (1, .ref (b + a1)), (3, .int v3)]) hx hb d_Fa_standsBefore_30 rfl hl (by decide) rfl (fun ls hl => ?_)
          refine lv_iinc (pc := 31) (k := 3) (v := v3 + (-1 : Int32)) (lv' := [(3, .int (v3 + (-1 : Int32))), (2, .int r8), (0, .ref (b + a0)), (1, .ref (b + a1))]) hx hb d_Fa_standsBefore_31 hl rfl (by rfl) (by decide) rfl (fun ls hl => ?_)
          refine lv_goto (pc := 34) (tgt := 13) hx hb d_Fa_standsBefore_34 (by decide) ?_
          exact ih13 r8 (v3 + (-1 : Int32)) _ _ _ hZ hS (lv_sub hl [2, 3, 1, 0] rfl) hw
  unfold w_Fa_standsBefore at hw
  refine lv_aload_n (pc := 0) hx hb d_Fa_standsBefore_0 rfl (lv_at hl 1 rfl) ?_
  refine z_calli (pc := 1) (va_runS (As := [.ref (b + a1)]) (rest := []) ⟨hx, hb, hml, hown, hts⟩ (c_Ro_degreeOf l G b a1 M N hw) (va_cwS 1 hts (z_good (zgS wd635 wd312 wd13 wd313)) rfl rfl rfl hd_Ro_degreeOf ⟨Nat.le_of_ble_eq_true rfl, Nat.le_of_ble_eq_true rfl⟩) (z_preS hZ hK hT hS) rfl rfl hl.1 rfl (lv_room (Nat.le_of_ble_eq_true rfl)) d_Fa_standsBefore_1 ⟨Nat.le_of_ble_eq_true rfl, Nat.le_of_ble_eq_true rfl⟩) hS (fun r1 M2 N3 H locs hw hZ hS => ?_)
  obtain ⟨hw, eM2, eN3⟩ := hw
  rw [eM2, eN3] at hZ
  refine lv_aload_n (pc := 4) hx hb d_Fa_standsBefore_4 rfl (lv_at hl 0 rfl) ?_
  refine z_calli (pc := 5) (va_runS (As := [.ref (b + a0)]) (rest := [.int r1]) ⟨hx, hb, hml, hown, hts⟩ (c_Ro_degreeOf l G b a0 M N hw) (va_cwS 1 hts (z_good (zgS wd635 wd312 wd13 wd313)) rfl rfl rfl hd_Ro_degreeOf ⟨Nat.le_of_ble_eq_true rfl, Nat.le_of_ble_eq_true rfl⟩) (z_preS hZ hK hT hS) rfl rfl hl.1 rfl (lv_room (Nat.le_of_ble_eq_true rfl)) d_Fa_standsBefore_5 ⟨Nat.le_of_ble_eq_true rfl, Nat.le_of_ble_eq_true rfl⟩) hS (fun r4 M5 N6 H locs hw hZ hS => ?_)
  obtain ⟨hw, eM5, eN6⟩ := hw
  rw [eM5, eN6] at hZ
  refine lv_isub (pc := 8) hx hb d_Fa_standsBefore_8 ?_
  refine lv_topi (fun x7 hx7 => ?_)
  have hw := hw x7 hx7
  refine lv_istore_n (pc := 9) (lv' := [(2, .int x7), (0, .ref (b + a0)), (1, .ref (b + a1))]) hx hb d_Fa_standsBefore_9 rfl hl (by decide) rfl (fun ls hl => ?_)
  refine lv_bipush (pc := 10) (v := 7) hx hb d_Fa_standsBefore_10 (by decide) ?_
  refine lv_istore_n (pc := 12) (lv' := [(3, .int (7 : Int32)), (2, .int x7), (0, .ref (b + a0)), (1, .ref (b + a1))]) hx hb d_Fa_standsBefore_12 rfl hl (by decide) rfl (fun ls hl => ?_)
  obtain ⟨n, hw⟩ := hw
  exact lp13  n x7 (7 : Int32) _ _ _ hZ hS (lv_sub hl [2, 3, 1, 0] rfl) hw
theorem zg_Fa_20 {p : Program} {l : Launch} {e : Env} {R : Room} {s : State} {m : MethodId} {args : Array Value} {below : List Frame} {meth : Method} {c : Code} {H : Heap} {locs : List Loc} {cells slots : Nat} {Q : State → Prop} {cc : ByteArray} {pc : Nat} {ls : Array Slot} {rest : List Value} {G : zG} {b : Nat} {M : zM} {N : zN} {k : Nat} (hx : p.tables.exec = Jvm.exec) (hb : c.code = cc) (hta : ∀ w ∈ zall, w.before args s = true) (hown : s.vm.findClass R_Fa = some m.cls) (hK : va_K G.1 zCl (zty G) s) (hZ : va_P G.1 zCl (zws G b M N) H) (hk : zfac k) (hdg : decode cc pc = .ok (.getfield 20, 3)) (kk : W p l e R s m args below meth c H locs cells slots Q (F0 m (pc + 3) ls (.int (N k 2) :: rest))) : W p l e R s m args below meth c H locs cells slots Q (F0 m pc ls (.ref (b + k) :: rest)) :=
  va_get (D := G.1) (ci := 1) (v := .int (N k 2)) (C := R_Fa) (T := T_Fa) (N := 4) hx hb hta hin_Fa hown hK hZ k (zo_Fa hk) rfl 2 (by decide) (hta _ wd175) (fun _ h9 => h9) rfl hdg kk
theorem zg_Fa_13 {p : Program} {l : Launch} {e : Env} {R : Room} {s : State} {m : MethodId} {args : Array Value} {below : List Frame} {meth : Method} {c : Code} {H : Heap} {locs : List Loc} {cells slots : Nat} {Q : State → Prop} {cc : ByteArray} {pc : Nat} {ls : Array Slot} {rest : List Value} {G : zG} {b : Nat} {M : zM} {N : zN} {k : Nat} (hx : p.tables.exec = Jvm.exec) (hb : c.code = cc) (hta : ∀ w ∈ zall, w.before args s = true) (hown : s.vm.findClass R_Fa = some m.cls) (hK : va_K G.1 zCl (zty G) s) (hZ : va_P G.1 zCl (zws G b M N) H) (hk : zfac k) (hdg : decode cc pc = .ok (.getfield 13, 3)) (kk : W p l e R s m args below meth c H locs cells slots Q (F0 m (pc + 3) ls (.ref (b + (k + 1)) :: rest))) : W p l e R s m args below meth c H locs cells slots Q (F0 m pc ls (.ref (b + k) :: rest)) :=
  va_get (D := G.1) (ci := 1) (v := .ref (b + (k + 1))) (C := R_Fa) (T := T_Fa) (N := 4) hx hb hta hin_Fa hown hK hZ k (zo_Fa hk) rfl 0 (by decide) (hta _ wd171) (fun _ h9 => h9) rfl hdg kk
theorem zg_Fa_16 {p : Program} {l : Launch} {e : Env} {R : Room} {s : State} {m : MethodId} {args : Array Value} {below : List Frame} {meth : Method} {c : Code} {H : Heap} {locs : List Loc} {cells slots : Nat} {Q : State → Prop} {cc : ByteArray} {pc : Nat} {ls : Array Slot} {rest : List Value} {G : zG} {b : Nat} {M : zM} {N : zN} {k : Nat} (hx : p.tables.exec = Jvm.exec) (hb : c.code = cc) (hta : ∀ w ∈ zall, w.before args s = true) (hown : s.vm.findClass R_Fa = some m.cls) (hK : va_K G.1 zCl (zty G) s) (hZ : va_P G.1 zCl (zws G b M N) H) (hk : zfac k) (hdg : decode cc pc = .ok (.getfield 16, 3)) (kk : W p l e R s m args below meth c H locs cells slots Q (F0 m (pc + 3) ls (.ref (b + (k + 9)) :: rest))) : W p l e R s m args below meth c H locs cells slots Q (F0 m pc ls (.ref (b + k) :: rest)) :=
  va_get (D := G.1) (ci := 1) (v := .ref (b + (k + 9))) (C := R_Fa) (T := T_Fa) (N := 4) hx hb hta hin_Fa hown hK hZ k (zo_Fa hk) rfl 1 (by decide) (hta _ wd173) (fun _ h9 => h9) rfl hdg kk
theorem d_Fa_insert_0 : decode prog_3_method_3_code 0 = .ok (.aload_n 0, 1) := by decide +kernel
theorem d_Fa_insert_1 : decode prog_3_method_3_code 1 = .ok (.getfield 20, 3) := by decide +kernel
theorem d_Fa_insert_4 : decode prog_3_method_3_code 4 = .ok (.bipush 7, 2) := by decide +kernel
theorem d_Fa_insert_6 : decode prog_3_method_3_code 6 = .ok (.if_icmp .lt 4, 3) := by decide +kernel
theorem d_Fa_insert_9 : decode prog_3_method_3_code 9 = .ok (.return_, 1) := by decide +kernel
theorem d_Fa_insert_10 : decode prog_3_method_3_code 10 = .ok (.aload_n 0, 1) := by decide +kernel
theorem d_Fa_insert_11 : decode prog_3_method_3_code 11 = .ok (.getfield 20, 3) := by decide +kernel
theorem d_Fa_insert_14 : decode prog_3_method_3_code 14 = .ok (.istore_n 3, 1) := by decide +kernel
theorem d_Fa_insert_15 : decode prog_3_method_3_code 15 = .ok (.iload_n 3, 1) := by decide +kernel
theorem d_Fa_insert_16 : decode prog_3_method_3_code 16 = .ok (.ifCond .le 55, 3) := by decide +kernel
theorem d_Fa_insert_19 : decode prog_3_method_3_code 19 = .ok (.aload_n 1, 1) := by decide +kernel
theorem d_Fa_insert_20 : decode prog_3_method_3_code 20 = .ok (.aload_n 0, 1) := by decide +kernel
theorem d_Fa_insert_21 : decode prog_3_method_3_code 21 = .ok (.getfield 13, 3) := by decide +kernel
theorem d_Fa_insert_24 : decode prog_3_method_3_code 24 = .ok (.iload_n 3, 1) := by decide +kernel
theorem d_Fa_insert_25 : decode prog_3_method_3_code 25 = .ok (.iconst 1, 1) := by decide +kernel
theorem d_Fa_insert_26 : decode prog_3_method_3_code 26 = .ok (.isub, 1) := by decide +kernel
theorem d_Fa_insert_27 : decode prog_3_method_3_code 27 = .ok (.aaload, 1) := by decide +kernel
theorem d_Fa_insert_28 : decode prog_3_method_3_code 28 = .ok (.invokestatic 28, 3) := by decide +kernel
theorem d_Fa_insert_31 : decode prog_3_method_3_code 31 = .ok (.ifCond .eq 40, 3) := by decide +kernel
theorem d_Fa_insert_34 : decode prog_3_method_3_code 34 = .ok (.aload_n 0, 1) := by decide +kernel
theorem d_Fa_insert_35 : decode prog_3_method_3_code 35 = .ok (.getfield 13, 3) := by decide +kernel
theorem d_Fa_insert_38 : decode prog_3_method_3_code 38 = .ok (.iload_n 3, 1) := by decide +kernel
theorem d_Fa_insert_39 : decode prog_3_method_3_code 39 = .ok (.iconst 1, 1) := by decide +kernel
theorem d_Fa_insert_40 : decode prog_3_method_3_code 40 = .ok (.isub, 1) := by decide +kernel
theorem d_Fa_insert_41 : decode prog_3_method_3_code 41 = .ok (.aaload, 1) := by decide +kernel
theorem d_Fa_insert_42 : decode prog_3_method_3_code 42 = .ok (.aload_n 0, 1) := by decide +kernel
theorem d_Fa_insert_43 : decode prog_3_method_3_code 43 = .ok (.getfield 13, 3) := by decide +kernel
theorem d_Fa_insert_46 : decode prog_3_method_3_code 46 = .ok (.iload_n 3, 1) := by decide +kernel
theorem d_Fa_insert_47 : decode prog_3_method_3_code 47 = .ok (.aaload, 1) := by decide +kernel
theorem d_Fa_insert_48 : decode prog_3_method_3_code 48 = .ok (.invokestatic 32, 3) := by decide +kernel
theorem d_Fa_insert_51 : decode prog_3_method_3_code 51 = .ok (.aload_n 0, 1) := by decide +kernel
theorem d_Fa_insert_52 : decode prog_3_method_3_code 52 = .ok (.getfield 16, 3) := by decide +kernel
theorem d_Fa_insert_55 : decode prog_3_method_3_code 55 = .ok (.iload_n 3, 1) := by decide +kernel
theorem d_Fa_insert_56 : decode prog_3_method_3_code 56 = .ok (.aload_n 0, 1) := by decide +kernel
theorem d_Fa_insert_57 : decode prog_3_method_3_code 57 = .ok (.getfield 16, 3) := by decide +kernel
theorem d_Fa_insert_60 : decode prog_3_method_3_code 60 = .ok (.iload_n 3, 1) := by decide +kernel
theorem d_Fa_insert_61 : decode prog_3_method_3_code 61 = .ok (.iconst 1, 1) := by decide +kernel
theorem d_Fa_insert_62 : decode prog_3_method_3_code 62 = .ok (.isub, 1) := by decide +kernel
theorem d_Fa_insert_63 : decode prog_3_method_3_code 63 = .ok (.iaload, 1) := by decide +kernel
theorem d_Fa_insert_64 : decode prog_3_method_3_code 64 = .ok (.iastore, 1) := by decide +kernel
theorem d_Fa_insert_65 : decode prog_3_method_3_code 65 = .ok (.iinc 3 (-1), 3) := by decide +kernel
theorem d_Fa_insert_68 : decode prog_3_method_3_code 68 = .ok (.goto (-53), 3) := by decide +kernel
theorem d_Fa_insert_71 : decode prog_3_method_3_code 71 = .ok (.aload_n 1, 1) := by decide +kernel
theorem d_Fa_insert_72 : decode prog_3_method_3_code 72 = .ok (.aload_n 0, 1) := by decide +kernel
theorem d_Fa_insert_73 : decode prog_3_method_3_code 73 = .ok (.getfield 13, 3) := by decide +kernel
theorem d_Fa_insert_76 : decode prog_3_method_3_code 76 = .ok (.iload_n 3, 1) := by decide +kernel
theorem d_Fa_insert_77 : decode prog_3_method_3_code 77 = .ok (.aaload, 1) := by decide +kernel
theorem d_Fa_insert_78 : decode prog_3_method_3_code 78 = .ok (.invokestatic 32, 3) := by decide +kernel
theorem d_Fa_insert_81 : decode prog_3_method_3_code 81 = .ok (.aload_n 0, 1) := by decide +kernel
theorem d_Fa_insert_82 : decode prog_3_method_3_code 82 = .ok (.getfield 16, 3) := by decide +kernel
theorem d_Fa_insert_85 : decode prog_3_method_3_code 85 = .ok (.iload_n 3, 1) := by decide +kernel
theorem d_Fa_insert_86 : decode prog_3_method_3_code 86 = .ok (.iload_n 2, 1) := by decide +kernel
theorem d_Fa_insert_87 : decode prog_3_method_3_code 87 = .ok (.iastore, 1) := by decide +kernel
theorem d_Fa_insert_88 : decode prog_3_method_3_code 88 = .ok (.aload_n 0, 1) := by decide +kernel
theorem d_Fa_insert_89 : decode prog_3_method_3_code 89 = .ok (.dup, 1) := by decide +kernel
theorem d_Fa_insert_90 : decode prog_3_method_3_code 90 = .ok (.getfield 20, 3) := by decide +kernel
theorem d_Fa_insert_93 : decode prog_3_method_3_code 93 = .ok (.iconst 1, 1) := by decide +kernel
theorem d_Fa_insert_94 : decode prog_3_method_3_code 94 = .ok (.iadd, 1) := by decide +kernel
theorem d_Fa_insert_95 : decode prog_3_method_3_code 95 = .ok (.putfield 20, 3) := by decide +kernel
theorem d_Fa_insert_98 : decode prog_3_method_3_code 98 = .ok (.return_, 1) := by decide +kernel
def J_Fa_insert_71 (P : zM → zN → Prop) (a0 : Nat) (a1 : Nat) (a2 : Int32) (v3 : Int32) (M : zM) (N : zN) : Prop := zfac a0 ∧ vp_in v3 (zgn (a0 + 1)) ∧ w_Ro_copyInto a1 ((a0 + 1) + 1 + v3.toNatClampNeg) M (fun M10 => zfac a0 ∧ vp_in v3 (zint (a0 + 9)) ∧ ∀ N12 : zN, N12 = zpui N (a0 + 9) v3.toNatClampNeg a2 → zfac a0 ∧ zfac a0 ∧ ∀ N13 : zN, N13 = zpui N12 a0 2 ((N12 a0 2) + (1 : Int32)) → P M10 N13)
def B_Fa_insert_15 (P : zM → zN → Prop) (a0 : Nat) (a1 : Nat) (a2 : Int32) (k15 : Int32 → zM → zN → Prop) (v3 : Int32) (M : zM) (N : zN) : Prop := (v3 ≤ 0 → J_Fa_insert_71 P a0 a1 a2 v3 M N) ∧ (¬ v3 ≤ 0 → zfac a0 ∧ vp_in (v3 - (1 : Int32)) (zgn (a0 + 1)) ∧ w_Fa_standsBefore a1 ((a0 + 1) + 1 + (v3 - (1 : Int32)).toNatClampNeg) M (fun r2 => (r2 = 0 → J_Fa_insert_71 P a0 a1 a2 v3 M N) ∧ (¬ r2 = 0 → zfac a0 ∧ vp_in (v3 - (1 : Int32)) (zgn (a0 + 1)) ∧ zfac a0 ∧ vp_in v3 (zgn (a0 + 1)) ∧ w_Ro_copyInto ((a0 + 1) + 1 + (v3 - (1 : Int32)).toNatClampNeg) ((a0 + 1) + 1 + v3.toNatClampNeg) M (fun M6 => zfac a0 ∧ zfac a0 ∧ vp_in (v3 - (1 : Int32)) (zint (a0 + 9)) ∧ vp_in v3 (zint (a0 + 9)) ∧ ∀ N8 : zN, N8 = zpui N (a0 + 9) v3.toNatClampNeg (N (a0 + 9) (v3 - (1 : Int32)).toNatClampNeg) → k15 (v3 + (-1 : Int32)) M6 N8))))
def L_Fa_insert_15 (P : zM → zN → Prop) (a0 : Nat) (a1 : Nat) (a2 : Int32) (n : Nat) : Int32 → zM → zN → Prop := Nat.rec (fun _ _ _ => False) (fun _ k => B_Fa_insert_15 P a0 a1 a2 k) n
def w_Fa_insert (a0 : Nat) (a1 : Nat) (a2 : Int32) (M : zM) (N : zN) (P : zM → zN → Prop) : Prop := zfac a0 ∧ ((N a0 2) < (7 : Int32) → zfac a0 ∧ ∀ x1 : Int32, x1 = N a0 2 → ∃ n, L_Fa_insert_15 P a0 a1 a2 n x1 M N) ∧ (¬ (N a0 2) < (7 : Int32) → P M N)
def ws_Fa_insert : List Cond := .code y_Fa_insert prog_3_method_3_code 4 (Option.none : Option Jvm.ClassFile.FieldType) :: zall
def rm_Fa_insert : Room := { frames := 2, cells := 0, slots := 0, locals := 59 }
theorem hd_Fa_insert : y_Fa_insert.cls ≠ "java/lang/invoke/MethodHandle" ∧ y_Fa_insert.cls ≠ "java/lang/invoke/VarHandle" ∧ (parseMethodDescriptor y_Fa_insert.desc).map (fun d => d.parameters.length) = some 2 := by decide +kernel
set_option maxHeartbeats 4000000 in
set_option maxRecDepth 100000 in
theorem c_Fa_insert (l : Launch) (G : zG) (b : Nat) (a0 : Nat) (a1 : Nat) (a2 : Int32) (M : zM) (N : zN) {P : zM → zN → Prop} (hw : w_Fa_insert a0 a1 a2 M N P) : Met l y_Fa_insert ws_Fa_insert rm_Fa_insert (zPc G b M N [.ref (b + a0), .ref (b + a1), .int a2]) (zQv G b (fun M' N' => P M' N')) 0 0 (zA b) := by
  refine Met.ofW (cc := prog_3_method_3_code) (maxL := 4) (ret := (Option.none : Option Jvm.ClassFile.FieldType)) (by decide) rfl ?_
  intro p e s m args below meth c s₁ B hml hv
  obtain ⟨rfl, hZ, hK, hT⟩ := hv
  have hx := B.exec
  have hb := B.bytes
  have hr := B.returns
  have hts := atoms_spec (ws := ws_Fa_insert) B.pre
  have hta : ∀ w ∈ zall, w.before ([.ref (b + a0), .ref (b + a1), .int a2] : List Value).toArray s = true := fun w h => hts w (List.mem_cons_of_mem _ h)
  have hown : s.vm.findClass R_Fa = some m.cls := findClass_of_methodNamed B.named
  have hlocks := B.notSynchronized
  have hS : va_S (zA b) s.heap s.heap [] := va_S.rf
  have hl := lv_entry ([.ref (b + a0), .ref (b + a1), .int a2]) (n := 4) (Nat.le_of_ble_eq_true rfl)
  rw [lg_entry_eq]
  generalize (lg_sl ([.ref (b + a0), .ref (b + a1), .int a2]) ++ List.replicate (4 - (lg_sl ([.ref (b + a0), .ref (b + a1), .int a2])).length) Slot.unset).toArray = ls at hl ⊢
  have hl : lv_has ls 4 [(0, .ref (b + a0)), (1, .ref (b + a1)), (2, .int a2)] := hl
  have j71 : ∀ (v3 : Int32) (M : zM) (N : zN) (H : Heap) (ls : Array Slot) (locs : List Loc), va_P G.1 zCl (zws G b M N) H → va_S (zA b) s.heap H locs → lv_has ls 4 [(0, .ref (b + a0)), (1, .ref (b + a1)), (2, .int a2), (3, .int v3)] → J_Fa_insert_71 P a0 a1 a2 v3 M N → W p l e (headSpec ws_Fa_insert rm_Fa_insert).room s m ([.ref (b + a0), .ref (b + a1), .int a2] : List Value).toArray below meth c H locs 0 0 (MQ below (zQv G b (fun M' N' => P M' N')) ([.ref (b + a0), .ref (b + a1), .int a2] : List Value).toArray s 0 0 (zA b)) (F0 m 71 ls []) := by
    intro v3 M N H ls locs hZ hS hl hw
    unfold J_Fa_insert_71 at hw
    refine lv_aload_n (pc := 71) hx hb d_Fa_insert_71 rfl (lv_at hl 1 rfl) ?_
    refine lv_aload_n (pc := 72) hx hb d_Fa_insert_72 rfl (lv_at hl 0 rfl) ?_
    obtain ⟨hc, hw⟩ := hw
    refine zg_Fa_13 (pc := 73) hx hb hta hown hK hZ hc d_Fa_insert_73 ?_
    refine lv_iload_n (pc := 76) hx hb d_Fa_insert_76 rfl (lv_at hl 3 rfl) ?_
    obtain ⟨hc, hw⟩ := hw
    refine z_aald (pc := 77) hx hb hK hZ hc d_Fa_insert_77 ?_
    refine z_callv (pc := 78) (va_runS (As := [.ref (b + a1), .ref (b + ((a0 + 1) + 1 + v3.toNatClampNeg))]) (rest := []) ⟨hx, hb, hml, hown, hts⟩ (c_Ro_copyInto l G b a1 ((a0 + 1) + 1 + v3.toNatClampNeg) M N hw) (va_cwS 2 hts (z_good (zgS wd639 wd363 wd13 wd364)) rfl rfl rfl hd_Ro_copyInto ⟨Nat.le_of_ble_eq_true rfl, Nat.le_of_ble_eq_true rfl⟩) (z_preS hZ hK hT hS) rfl rfl hl.1 rfl (lv_room (Nat.le_of_ble_eq_true rfl)) d_Fa_insert_78 ⟨Nat.le_of_ble_eq_true rfl, Nat.le_of_ble_eq_true rfl⟩) hS (fun M10 N11 H locs hw hZ hS => ?_)
    obtain ⟨hw, eN11⟩ := hw
    rw [eN11] at hZ
    refine lv_aload_n (pc := 81) hx hb d_Fa_insert_81 rfl (lv_at hl 0 rfl) ?_
    obtain ⟨hc, hw⟩ := hw
    refine zg_Fa_16 (pc := 82) hx hb hta hown hK hZ hc d_Fa_insert_82 ?_
    refine lv_iload_n (pc := 85) hx hb d_Fa_insert_85 rfl (lv_at hl 3 rfl) ?_
    refine lv_iload_n (pc := 86) hx hb d_Fa_insert_86 rfl (lv_at hl 2 rfl) ?_
    obtain ⟨hc, hw⟩ := hw
    refine z_iast (pc := 87) hx hb hK hZ hS hc d_Fa_insert_87 (fun N12 H locs hN12 hZ hS => ?_)
    have hw := hw N12 hN12
    refine lv_aload_n (pc := 88) hx hb d_Fa_insert_88 rfl (lv_at hl 0 rfl) ?_
    refine lv_dup (pc := 89) hx hb d_Fa_insert_89 rfl ?_
    obtain ⟨hc, hw⟩ := hw
    refine zg_Fa_20 (pc := 90) hx hb hta hown hK hZ hc d_Fa_insert_90 ?_
    refine lv_iconst (pc := 93) (v := 1) hx hb d_Fa_insert_93 (by decide) ?_
    refine lv_iadd (pc := 94) hx hb d_Fa_insert_94 ?_
    obtain ⟨hc, hw⟩ := hw
    refine zp_Fa_20 (pc := 95) hx hb hta hown hK hZ hS hc d_Fa_insert_95 (fun N13 H locs hN13 hZ hS => ?_)
    have hw := hw N13 hN13
    exact z_vret hx hb hr hlocks hK hT hZ hS hw d_Fa_insert_98
  have lp15 : ∀ (n : Nat) (v3 : Int32) (M : zM) (N : zN) (H : Heap) (ls : Array Slot) (locs : List Loc), va_P G.1 zCl (zws G b M N) H → va_S (zA b) s.heap H locs → lv_has ls 4 [(0, .ref (b + a0)), (1, .ref (b + a1)), (2, .int a2), (3, .int v3)] → L_Fa_insert_15 P a0 a1 a2 n v3 M N → W p l e (headSpec ws_Fa_insert rm_Fa_insert).room s m ([.ref (b + a0), .ref (b + a1), .int a2] : List Value).toArray below meth c H locs 0 0 (MQ below (zQv G b (fun M' N' => P M' N')) ([.ref (b + a0), .ref (b + a1), .int a2] : List Value).toArray s 0 0 (zA b)) (F0 m 15 ls []) := by
    intro  n
    induction n with
    | zero => intro v3 M N H ls locs hZ hS hl hw; exact False.elim hw
    | succ n15 ih15 =>
      intro v3 M N H ls locs hZ hS hl hw
      have hw : B_Fa_insert_15 P a0 a1 a2 (L_Fa_insert_15 P a0 a1 a2 n15) v3 M N := hw
      unfold B_Fa_insert_15 at hw
      refine lv_iload_n (pc := 15) hx hb d_Fa_insert_15 rfl (lv_at hl 3 rfl) ?_
      refine lv_if_le (pc := 16) (tgt := 71) hx hb d_Fa_insert_16 (by decide) (fun hc => ?_) (fun hc => ?_)
      · have hw := hw.1 hc
        exact j71 v3 M N _ _ _ hZ hS hl hw
      · have hw := hw.2 hc
        refine lv_aload_n (pc := 19) hx hb d_Fa_insert_19 rfl (lv_at hl 1 rfl) ?_
        refine lv_aload_n (pc := 20) hx hb d_Fa_insert_20 rfl (lv_at hl 0 rfl) ?_
        obtain ⟨hc, hw⟩ := hw
        refine zg_Fa_13 (pc := 21) hx hb hta hown hK hZ hc d_Fa_insert_21 ?_
        refine lv_iload_n (pc := 24) hx hb d_Fa_insert_24 rfl (lv_at hl 3 rfl) ?_
        refine lv_iconst (pc := 25) (v := 1) hx hb d_Fa_insert_25 (by decide) ?_
        refine lv_isub (pc := 26) hx hb d_Fa_insert_26 ?_
        obtain ⟨hc, hw⟩ := hw
        refine z_aald (pc := 27) hx hb hK hZ hc d_Fa_insert_27 ?_
        refine z_calli (pc := 28) (va_runS (As := [.ref (b + a1), .ref (b + ((a0 + 1) + 1 + (v3 - (1 : Int32)).toNatClampNeg))]) (rest := []) ⟨hx, hb, hml, hown, hts⟩ (c_Fa_standsBefore l G b a1 ((a0 + 1) + 1 + (v3 - (1 : Int32)).toNatClampNeg) M N hw) (va_cwS 2 hts (z_good (zgS wd632 wd633 wd6 wd634)) rfl rfl rfl hd_Fa_standsBefore ⟨Nat.le_of_ble_eq_true rfl, Nat.le_of_ble_eq_true rfl⟩) (z_preS hZ hK hT hS) rfl rfl hl.1 rfl (lv_room (Nat.le_of_ble_eq_true rfl)) d_Fa_insert_28 ⟨Nat.le_of_ble_eq_true rfl, Nat.le_of_ble_eq_true rfl⟩) hS (fun r2 M3 N4 H locs hw hZ hS => ?_)
        obtain ⟨hw, eM3, eN4⟩ := hw
        rw [eM3, eN4] at hZ
        refine lv_if_eq (pc := 31) (tgt := 71) hx hb d_Fa_insert_31 (by decide) (fun hc => ?_) (fun hc => ?_)
        · have hw := hw.1 hc
          exact j71 v3 M N _ _ _ hZ hS hl hw
        · have hw := hw.2 hc
          refine lv_aload_n (pc := 34) hx hb d_Fa_insert_34 rfl (lv_at hl 0 rfl) ?_
          obtain ⟨hc, hw⟩ := hw
          refine zg_Fa_13 (pc := 35) hx hb hta hown hK hZ hc d_Fa_insert_35 ?_
          refine lv_iload_n (pc := 38) hx hb d_Fa_insert_38 rfl (lv_at hl 3 rfl) ?_
          refine lv_iconst (pc := 39) (v := 1) hx hb d_Fa_insert_39 (by decide) ?_
          refine lv_isub (pc := 40) hx hb d_Fa_insert_40 ?_
          obtain ⟨hc, hw⟩ := hw
          refine z_aald (pc := 41) hx hb hK hZ hc d_Fa_insert_41 ?_
          refine lv_aload_n (pc := 42) hx hb d_Fa_insert_42 rfl (lv_at hl 0 rfl) ?_
          obtain ⟨hc, hw⟩ := hw
          refine zg_Fa_13 (pc := 43) hx hb hta hown hK hZ hc d_Fa_insert_43 ?_
          refine lv_iload_n (pc := 46) hx hb d_Fa_insert_46 rfl (lv_at hl 3 rfl) ?_
          obtain ⟨hc, hw⟩ := hw
          refine z_aald (pc := 47) hx hb hK hZ hc d_Fa_insert_47 ?_
          refine z_callv (pc := 48) (va_runS (As := [.ref (b + ((a0 + 1) + 1 + (v3 - (1 : Int32)).toNatClampNeg)), .ref (b + ((a0 + 1) + 1 + v3.toNatClampNeg))]) (rest := []) ⟨hx, hb, hml, hown, hts⟩ (c_Ro_copyInto l G b ((a0 + 1) + 1 + (v3 - (1 : Int32)).toNatClampNeg) ((a0 + 1) + 1 + v3.toNatClampNeg) M N hw) (va_cwS 2 hts (z_good (zgS wd639 wd363 wd13 wd364)) rfl rfl rfl hd_Ro_copyInto ⟨Nat.le_of_ble_eq_true rfl, Nat.le_of_ble_eq_true rfl⟩) (z_preS hZ hK hT hS) rfl rfl hl.1 rfl (lv_room (Nat.le_of_ble_eq_true rfl)) d_Fa_insert_48 ⟨Nat.le_of_ble_eq_true rfl, Nat.le_of_ble_eq_true rfl⟩) hS (fun M6 N7 H locs hw hZ hS => ?_)
          obtain ⟨hw, eN7⟩ := hw
          rw [eN7] at hZ
          refine lv_aload_n (pc := 51) hx hb d_Fa_insert_51 rfl (lv_at hl 0 rfl) ?_
          obtain ⟨hc, hw⟩ := hw
          refine zg_Fa_16 (pc := 52) hx hb hta hown hK hZ hc d_Fa_insert_52 ?_
          refine lv_iload_n (pc := 55) hx hb d_Fa_insert_55 rfl (lv_at hl 3 rfl) ?_
          refine lv_aload_n (pc := 56) hx hb d_Fa_insert_56 rfl (lv_at hl 0 rfl) ?_
          obtain ⟨hc, hw⟩ := hw
          refine zg_Fa_16 (pc := 57) hx hb hta hown hK hZ hc d_Fa_insert_57 ?_
          refine lv_iload_n (pc := 60) hx hb d_Fa_insert_60 rfl (lv_at hl 3 rfl) ?_
          refine lv_iconst (pc := 61) (v := 1) hx hb d_Fa_insert_61 (by decide) ?_
          refine lv_isub (pc := 62) hx hb d_Fa_insert_62 ?_
          obtain ⟨hc, hw⟩ := hw
          refine z_iald (pc := 63) hx hb hK hZ hc d_Fa_insert_63 ?_
          obtain ⟨hc, hw⟩ := hw
          refine z_iast (pc := 64) hx hb hK hZ hS hc d_Fa_insert_64 (fun N8 H locs hN8 hZ hS => ?_)
          have hw := hw N8 hN8
          refine lv_iinc (pc := 65) (k := 3) (v := v3 + (-1 : Int32)) (lv' := [(3, .int (v3 + (-1 : Int32))), (0, .ref (b + a0)), (1, .ref (b + a1)), (2, .int a2)]) hx hb d_Fa_insert_65 hl rfl (by rfl) (by decide) rfl (fun ls hl => ?_)
          refine lv_goto (pc := 68) (tgt := 15) hx hb d_Fa_insert_68 (by decide) ?_
          exact ih15 (v3 + (-1 : Int32)) M6 N8 _ _ _ hZ hS (lv_sub hl [1, 2, 3, 0] rfl) hw
  unfold w_Fa_insert at hw
  refine lv_aload_n (pc := 0) hx hb d_Fa_insert_0 rfl (lv_at hl 0 rfl) ?_
  obtain ⟨hc, hw⟩ := hw
  refine zg_Fa_20 (pc := 1) hx hb hta hown hK hZ hc d_Fa_insert_1 ?_
  refine lv_bipush (pc := 4) (v := 7) hx hb d_Fa_insert_4 (by decide) ?_
  refine lv_icmp_lt (pc := 6) (tgt := 10) hx hb d_Fa_insert_6 (by decide) (fun hc => ?_) (fun hc => ?_)
  · have hw := hw.1 hc
    refine lv_aload_n (pc := 10) hx hb d_Fa_insert_10 rfl (lv_at hl 0 rfl) ?_
    obtain ⟨hc, hw⟩ := hw
    refine zg_Fa_20 (pc := 11) hx hb hta hown hK hZ hc d_Fa_insert_11 ?_
    refine lv_topi (fun x1 hx1 => ?_)
    have hw := hw x1 hx1
    refine lv_istore_n (pc := 14) (lv' := [(3, .int x1), (0, .ref (b + a0)), (1, .ref (b + a1)), (2, .int a2)]) hx hb d_Fa_insert_14 rfl hl (by decide) rfl (fun ls hl => ?_)
    obtain ⟨n, hw⟩ := hw
    exact lp15  n x1 M N _ _ _ hZ hS (lv_sub hl [1, 2, 3, 0] rfl) hw
  · have hw := hw.2 hc
    exact z_vret hx hb hr hlocks hK hT hZ hS hw d_Fa_insert_9
theorem wsel16 : Cond.selects R_Sp y_Sp_timesInWhole y_Sp_timesInWhole ∈ zall := List.mem_filter.mpr ⟨List.mem_append_left _ (List.mem_of_getElem? (i := 16) rfl), by decide +kernel⟩
theorem wsel14 : Cond.selects R_Sp y_Sp_degreeOfSet y_Sp_degreeOfSet ∈ zall := List.mem_filter.mpr ⟨List.mem_append_left _ (List.mem_of_getElem? (i := 14) rfl), by decide +kernel⟩
theorem wsel15 : Cond.selects R_Sp y_Sp_splitOff y_Sp_splitOff ∈ zall := List.mem_filter.mpr ⟨List.mem_append_left _ (List.mem_of_getElem? (i := 15) rfl), by decide +kernel⟩
theorem d_Sp_combine_0 : decode prog_8_method_4_code 0 = .ok (.iconst 1, 1) := by decide +kernel
theorem d_Sp_combine_1 : decode prog_8_method_4_code 1 = .ok (.aload_n 0, 1) := by decide +kernel
theorem d_Sp_combine_2 : decode prog_8_method_4_code 2 = .ok (.getfield 21, 3) := by decide +kernel
theorem d_Sp_combine_5 : decode prog_8_method_4_code 5 = .ok (.getfield 89, 3) := by decide +kernel
theorem d_Sp_combine_8 : decode prog_8_method_4_code 8 = .ok (.ishl, 1) := by decide +kernel
theorem d_Sp_combine_9 : decode prog_8_method_4_code 9 = .ok (.istore_n 2, 1) := by decide +kernel
theorem d_Sp_combine_10 : decode prog_8_method_4_code 10 = .ok (.iconst 0, 1) := by decide +kernel
theorem d_Sp_combine_11 : decode prog_8_method_4_code 11 = .ok (.istore_n 3, 1) := by decide +kernel
theorem d_Sp_combine_12 : decode prog_8_method_4_code 12 = .ok (.iconst 1, 1) := by decide +kernel
theorem d_Sp_combine_13 : decode prog_8_method_4_code 13 = .ok (.istore 4, 2) := by decide +kernel
theorem d_Sp_combine_15 : decode prog_8_method_4_code 15 = .ok (.iload 4, 2) := by decide +kernel
theorem d_Sp_combine_17 : decode prog_8_method_4_code 17 = .ok (.iload_n 2, 1) := by decide +kernel
theorem d_Sp_combine_18 : decode prog_8_method_4_code 18 = .ok (.if_icmp .ge 64, 3) := by decide +kernel
theorem d_Sp_combine_21 : decode prog_8_method_4_code 21 = .ok (.iload 4, 2) := by decide +kernel
theorem d_Sp_combine_23 : decode prog_8_method_4_code 23 = .ok (.iload_n 3, 1) := by decide +kernel
theorem d_Sp_combine_24 : decode prog_8_method_4_code 24 = .ok (.iand, 1) := by decide +kernel
theorem d_Sp_combine_25 : decode prog_8_method_4_code 25 = .ok (.ifCond .ne 51, 3) := by decide +kernel
theorem d_Sp_combine_28 : decode prog_8_method_4_code 28 = .ok (.iconst 2, 1) := by decide +kernel
theorem d_Sp_combine_29 : decode prog_8_method_4_code 29 = .ok (.aload_n 0, 1) := by decide +kernel
theorem d_Sp_combine_30 : decode prog_8_method_4_code 30 = .ok (.iload 4, 2) := by decide +kernel
theorem d_Sp_combine_32 : decode prog_8_method_4_code 32 = .ok (.invokevirtual 115, 3) := by decide +kernel
theorem d_Sp_combine_35 : decode prog_8_method_4_code 35 = .ok (.imul, 1) := by decide +kernel
theorem d_Sp_combine_36 : decode prog_8_method_4_code 36 = .ok (.aload_n 0, 1) := by decide +kernel
theorem d_Sp_combine_37 : decode prog_8_method_4_code 37 = .ok (.getfield 36, 3) := by decide +kernel
theorem d_Sp_combine_40 : decode prog_8_method_4_code 40 = .ok (.invokestatic 67, 3) := by decide +kernel
theorem d_Sp_combine_43 : decode prog_8_method_4_code 43 = .ok (.if_icmp .gt 33, 3) := by decide +kernel
theorem d_Sp_combine_46 : decode prog_8_method_4_code 46 = .ok (.aload_n 0, 1) := by decide +kernel
theorem d_Sp_combine_47 : decode prog_8_method_4_code 47 = .ok (.iload 4, 2) := by decide +kernel
theorem d_Sp_combine_49 : decode prog_8_method_4_code 49 = .ok (.invokevirtual 119, 3) := by decide +kernel
theorem d_Sp_combine_52 : decode prog_8_method_4_code 52 = .ok (.ifCond .eq 24, 3) := by decide +kernel
theorem d_Sp_combine_55 : decode prog_8_method_4_code 55 = .ok (.aload_n 1, 1) := by decide +kernel
theorem d_Sp_combine_56 : decode prog_8_method_4_code 56 = .ok (.aload_n 0, 1) := by decide +kernel
theorem d_Sp_combine_57 : decode prog_8_method_4_code 57 = .ok (.getfield 42, 3) := by decide +kernel
theorem d_Sp_combine_60 : decode prog_8_method_4_code 60 = .ok (.aload_n 0, 1) := by decide +kernel
theorem d_Sp_combine_61 : decode prog_8_method_4_code 61 = .ok (.aload_n 0, 1) := by decide +kernel
theorem d_Sp_combine_62 : decode prog_8_method_4_code 62 = .ok (.getfield 42, 3) := by decide +kernel
theorem d_Sp_combine_65 : decode prog_8_method_4_code 65 = .ok (.invokevirtual 123, 3) := by decide +kernel
theorem d_Sp_combine_68 : decode prog_8_method_4_code 68 = .ok (.invokevirtual 126, 3) := by decide +kernel
theorem d_Sp_combine_71 : decode prog_8_method_4_code 71 = .ok (.iload_n 3, 1) := by decide +kernel
theorem d_Sp_combine_72 : decode prog_8_method_4_code 72 = .ok (.iload 4, 2) := by decide +kernel
theorem d_Sp_combine_74 : decode prog_8_method_4_code 74 = .ok (.ior, 1) := by decide +kernel
theorem d_Sp_combine_75 : decode prog_8_method_4_code 75 = .ok (.istore_n 3, 1) := by decide +kernel
theorem d_Sp_combine_76 : decode prog_8_method_4_code 76 = .ok (.iinc 4 1, 3) := by decide +kernel
theorem d_Sp_combine_79 : decode prog_8_method_4_code 79 = .ok (.goto (-64), 3) := by decide +kernel
theorem d_Sp_combine_82 : decode prog_8_method_4_code 82 = .ok (.aload_n 1, 1) := by decide +kernel
theorem d_Sp_combine_83 : decode prog_8_method_4_code 83 = .ok (.aload_n 0, 1) := by decide +kernel
theorem d_Sp_combine_84 : decode prog_8_method_4_code 84 = .ok (.getfield 36, 3) := by decide +kernel
theorem d_Sp_combine_87 : decode prog_8_method_4_code 87 = .ok (.aload_n 0, 1) := by decide +kernel
theorem d_Sp_combine_88 : decode prog_8_method_4_code 88 = .ok (.aload_n 0, 1) := by decide +kernel
theorem d_Sp_combine_89 : decode prog_8_method_4_code 89 = .ok (.getfield 36, 3) := by decide +kernel
theorem d_Sp_combine_92 : decode prog_8_method_4_code 92 = .ok (.invokevirtual 123, 3) := by decide +kernel
theorem d_Sp_combine_95 : decode prog_8_method_4_code 95 = .ok (.invokevirtual 126, 3) := by decide +kernel
theorem d_Sp_combine_98 : decode prog_8_method_4_code 98 = .ok (.return_, 1) := by decide +kernel
def B_Sp_combine_15 (P : zM → zN → Prop) (a1 : Nat) (v2 : Int32) (k15 : Int32 → Int32 → zM → zN → Prop) (v3 : Int32) (v4 : Int32) (M : zM) (N : zN) : Prop := (v2 ≤ v4 → w_Sp_timesInWhole 74 M (fun r2 M3 => zfac a1 ∧ w_Fa_insert a1 74 r2 M3 N (fun M6 N7 => P M6 N7))) ∧ (¬ v2 ≤ v4 → (¬ (v4 &&& v3) = 0 → k15 v3 (v4 + (1 : Int32)) M N) ∧ ((v4 &&& v3) = 0 → w_Sp_degreeOfSet v4 M N (fun r8 => w_Ro_degreeOf 74 M (fun r11 => (r11 < ((2 : Int32) * r8) → k15 v3 (v4 + (1 : Int32)) M N) ∧ (¬ r11 < ((2 : Int32) * r8) → w_Sp_splitOff v4 M N (fun r14 M15 => (r14 = 0 → k15 v3 (v4 + (1 : Int32)) M15 N) ∧ (¬ r14 = 0 → w_Sp_timesInWhole 76 M15 (fun r17 M18 => zfac a1 ∧ w_Fa_insert a1 76 r17 M18 N (fun M21 N22 => ∀ x23 : Int32, x23 = v3 ||| v4 → k15 x23 (v4 + (1 : Int32)) M21 N22)))))))))
def L_Sp_combine_15 (P : zM → zN → Prop) (a1 : Nat) (v2 : Int32) (n : Nat) : Int32 → Int32 → zM → zN → Prop := Nat.rec (fun _ _ _ _ => False) (fun _ k => B_Sp_combine_15 P a1 v2 k) n
def w_Sp_combine (a1 : Nat) (M : zM) (N : zN) (P : zM → zN → Prop) : Prop := ∀ x1 : Int32, x1 = (1 : Int32) <<< ((N 17 1) &&& 31) → ∃ n, L_Sp_combine_15 P a1 x1 n (0 : Int32) (1 : Int32) M N
def ws_Sp_combine : List Cond := .code y_Sp_combine prog_8_method_4_code 5 (Option.none : Option Jvm.ClassFile.FieldType) :: zall
def rm_Sp_combine : Room := { frames := 4, cells := 0, slots := 0, locals := 109 }
theorem hd_Sp_combine : y_Sp_combine.cls ≠ "java/lang/invoke/MethodHandle" ∧ y_Sp_combine.cls ≠ "java/lang/invoke/VarHandle" ∧ (parseMethodDescriptor y_Sp_combine.desc).map (fun d => d.parameters.length) = some 1 := by decide +kernel
set_option maxHeartbeats 4000000 in
set_option maxRecDepth 100000 in
theorem c_Sp_combine (l : Launch) (G : zG) (b : Nat) (a1 : Nat) (M : zM) (N : zN) {P : zM → zN → Prop} (hw : w_Sp_combine a1 M N P) : Met l y_Sp_combine ws_Sp_combine rm_Sp_combine (zPc G b M N [.ref (b + 9), .ref (b + a1)]) (zQv G b (fun M' N' => P M' N')) 0 0 (zA b) := by
  refine Met.ofW (cc := prog_8_method_4_code) (maxL := 5) (ret := (Option.none : Option Jvm.ClassFile.FieldType)) (by decide) rfl ?_
  intro p e s m args below meth c s₁ B hml hv
  obtain ⟨rfl, hZ, hK, hT⟩ := hv
  have hx := B.exec
  have hb := B.bytes
  have hr := B.returns
  have hts := atoms_spec (ws := ws_Sp_combine) B.pre
  have hta : ∀ w ∈ zall, w.before ([.ref (b + 9), .ref (b + a1)] : List Value).toArray s = true := fun w h => hts w (List.mem_cons_of_mem _ h)
  have hown : s.vm.findClass R_Sp = some m.cls := findClass_of_methodNamed B.named
  have hlocks := B.notSynchronized
  have hS : va_S (zA b) s.heap s.heap [] := va_S.rf
  have hl := lv_entry ([.ref (b + 9), .ref (b + a1)]) (n := 5) (Nat.le_of_ble_eq_true rfl)
  rw [lg_entry_eq]
  generalize (lg_sl ([.ref (b + 9), .ref (b + a1)]) ++ List.replicate (5 - (lg_sl ([.ref (b + 9), .ref (b + a1)])).length) Slot.unset).toArray = ls at hl ⊢
  have hl : lv_has ls 5 [(0, .ref (b + 9)), (1, .ref (b + a1))] := hl
  have lp15 : ∀ (v2 : Int32) (n : Nat) (v3 : Int32) (v4 : Int32) (M : zM) (N : zN) (H : Heap) (ls : Array Slot) (locs : List Loc), va_P G.1 zCl (zws G b M N) H → va_S (zA b) s.heap H locs → lv_has ls 5 [(0, .ref (b + 9)), (1, .ref (b + a1)), (2, .int v2), (3, .int v3), (4, .int v4)] → L_Sp_combine_15 P a1 v2 n v3 v4 M N → W p l e (headSpec ws_Sp_combine rm_Sp_combine).room s m ([.ref (b + 9), .ref (b + a1)] : List Value).toArray below meth c H locs 0 0 (MQ below (zQv G b (fun M' N' => P M' N')) ([.ref (b + 9), .ref (b + a1)] : List Value).toArray s 0 0 (zA b)) (F0 m 15 ls []) := by
    intro v2 n
    induction n with
    | zero => intro v3 v4 M N H ls locs hZ hS hl hw; exact False.elim hw
    | succ n15 ih15 =>
      intro v3 v4 M N H ls locs hZ hS hl hw
      have hw : B_Sp_combine_15 P a1 v2 (L_Sp_combine_15 P a1 v2 n15) v3 v4 M N := hw
      unfold B_Sp_combine_15 at hw
      refine lv_iload (pc := 15) hx hb d_Sp_combine_15 (lv_at hl 4 rfl) ?_
      refine lv_iload_n (pc := 17) hx hb d_Sp_combine_17 rfl (lv_at hl 2 rfl) ?_
      refine lv_icmp_ge (pc := 18) (tgt := 82) hx hb d_Sp_combine_18 (by decide) (fun hc => ?_) (fun hc => ?_)
      · have hw := hw.1 hc
        refine lv_aload_n (pc := 82) hx hb d_Sp_combine_82 rfl (lv_at hl 1 rfl) ?_
        refine lv_aload_n (pc := 83) hx hb d_Sp_combine_83 rfl (lv_at hl 0 rfl) ?_
        refine zg_Sp_36 (pc := 84) hx hb hta hown hK hZ d_Sp_combine_84 ?_
        refine lv_aload_n (pc := 87) hx hb d_Sp_combine_87 rfl (lv_at hl 0 rfl) ?_
        refine lv_aload_n (pc := 88) hx hb d_Sp_combine_88 rfl (lv_at hl 0 rfl) ?_
        refine zg_Sp_36 (pc := 89) hx hb hta hown hK hZ d_Sp_combine_89 ?_
        refine z_calli (pc := 92) (va_runV (C := R_Sp) (b := b + 9) (As := [.ref (b + 74)]) (rest := [.ref (b + 74), .ref (b + a1)]) ⟨hx, hb, hml, hown, hts⟩ (c_Sp_timesInWhole l G b 74 M N hw) (cwV 1 hts (z_good (zgV wd624 wd626 wsel16 wd2 wd627)) rfl rfl rfl ⟨rfl, hd_Sp_timesInWhole⟩ ⟨Nat.le_of_ble_eq_true rfl, Nat.le_of_ble_eq_true rfl⟩) (z_preV zo_Sp rfl rfl hZ hK hT hS) rfl rfl hl.1 rfl (lv_room (Nat.le_of_ble_eq_true rfl)) d_Sp_combine_92 ⟨Nat.le_of_ble_eq_true rfl, Nat.le_of_ble_eq_true rfl⟩) hS (fun r2 M3 N4 H locs hw hZ hS => ?_)
        obtain ⟨hw, eN4⟩ := hw
        rw [eN4] at hZ
        obtain ⟨hc, hw⟩ := hw
        refine z_callv (pc := 95) (va_runV (C := R_Fa) (b := b + a1) (As := [.ref (b + 74), .int r2]) (rest := []) ⟨hx, hb, hml, hown, hts⟩ (c_Fa_insert l G b a1 74 r2 M3 N hw) (cwV 2 hts (z_good (zgV wd628 wd629 wd630 wd6 wd631)) rfl rfl rfl ⟨rfl, hd_Fa_insert⟩ ⟨Nat.le_of_ble_eq_true rfl, Nat.le_of_ble_eq_true rfl⟩) (z_preV (zo_Fa hc) rfl rfl hZ hK hT hS) rfl rfl hl.1 rfl (lv_room (Nat.le_of_ble_eq_true rfl)) d_Sp_combine_95 ⟨Nat.le_of_ble_eq_true rfl, Nat.le_of_ble_eq_true rfl⟩) hS (fun M6 N7 H locs hw hZ hS => ?_)
        exact z_vret hx hb hr hlocks hK hT hZ hS hw d_Sp_combine_98
      · have hw := hw.2 hc
        refine lv_iload (pc := 21) hx hb d_Sp_combine_21 (lv_at hl 4 rfl) ?_
        refine lv_iload_n (pc := 23) hx hb d_Sp_combine_23 rfl (lv_at hl 3 rfl) ?_
        refine lv_iand (pc := 24) hx hb d_Sp_combine_24 ?_
        refine lv_if_ne (pc := 25) (tgt := 76) hx hb d_Sp_combine_25 (by decide) (fun hc => ?_) (fun hc => ?_)
        · have hw := hw.1 hc
          refine lv_iinc (pc := 76) (k := 4) (v := v4 + (1 : Int32)) (lv' := [(4, .int (v4 + (1 : Int32))), (0, .ref (b + 9)), (1, .ref (b + a1)), (2, .int v2), (3, .int v3)]) hx hb d_Sp_combine_76 hl rfl (by rfl) (by decide) rfl (fun ls hl => ?_)
          refine lv_goto (pc := 79) (tgt := 15) hx hb d_Sp_combine_79 (by decide) ?_
          exact ih15 v3 (v4 + (1 : Int32)) M N _ _ _ hZ hS (lv_sub hl [1, 2, 3, 4, 0] rfl) hw
        · have hw := hw.2 hc
          refine lv_iconst (pc := 28) (v := 2) hx hb d_Sp_combine_28 (by decide) ?_
          refine lv_aload_n (pc := 29) hx hb d_Sp_combine_29 rfl (lv_at hl 0 rfl) ?_
          refine lv_iload (pc := 30) hx hb d_Sp_combine_30 (lv_at hl 4 rfl) ?_
          refine z_calli (pc := 32) (va_runV (C := R_Sp) (b := b + 9) (As := [.int v4]) (rest := [.int (2 : Int32)]) ⟨hx, hb, hml, hown, hts⟩ (c_Sp_degreeOfSet l G b v4 M N hw) (cwV 1 hts (z_good (zgV wd612 wd614 wsel14 wd2 wd615)) rfl rfl rfl ⟨rfl, hd_Sp_degreeOfSet⟩ ⟨Nat.le_of_ble_eq_true rfl, Nat.le_of_ble_eq_true rfl⟩) (z_preV zo_Sp rfl rfl hZ hK hT hS) rfl rfl hl.1 rfl (lv_room (Nat.le_of_ble_eq_true rfl)) d_Sp_combine_32 ⟨Nat.le_of_ble_eq_true rfl, Nat.le_of_ble_eq_true rfl⟩) hS (fun r8 M9 N10 H locs hw hZ hS => ?_)
          obtain ⟨hw, eM9, eN10⟩ := hw
          rw [eM9, eN10] at hZ
          refine lv_imul (pc := 35) hx hb d_Sp_combine_35 ?_
          refine lv_aload_n (pc := 36) hx hb d_Sp_combine_36 rfl (lv_at hl 0 rfl) ?_
          refine zg_Sp_36 (pc := 37) hx hb hta hown hK hZ d_Sp_combine_37 ?_
          refine z_calli (pc := 40) (va_runS (As := [.ref (b + 74)]) (rest := [.int ((2 : Int32) * r8)]) ⟨hx, hb, hml, hown, hts⟩ (c_Ro_degreeOf l G b 74 M N hw) (va_cwS 1 hts (z_good (zgS wd519 wd312 wd13 wd313)) rfl rfl rfl hd_Ro_degreeOf ⟨Nat.le_of_ble_eq_true rfl, Nat.le_of_ble_eq_true rfl⟩) (z_preS hZ hK hT hS) rfl rfl hl.1 rfl (lv_room (Nat.le_of_ble_eq_true rfl)) d_Sp_combine_40 ⟨Nat.le_of_ble_eq_true rfl, Nat.le_of_ble_eq_true rfl⟩) hS (fun r11 M12 N13 H locs hw hZ hS => ?_)
          obtain ⟨hw, eM12, eN13⟩ := hw
          rw [eM12, eN13] at hZ
          refine lv_icmp_gt (pc := 43) (tgt := 76) hx hb d_Sp_combine_43 (by decide) (fun hc => ?_) (fun hc => ?_)
          · have hw := hw.1 hc
            refine lv_iinc (pc := 76) (k := 4) (v := v4 + (1 : Int32)) (lv' := [(4, .int (v4 + (1 : Int32))), (0, .ref (b + 9)), (1, .ref (b + a1)), (2, .int v2), (3, .int v3)]) hx hb d_Sp_combine_76 hl rfl (by rfl) (by decide) rfl (fun ls hl => ?_)
            refine lv_goto (pc := 79) (tgt := 15) hx hb d_Sp_combine_79 (by decide) ?_
            exact ih15 v3 (v4 + (1 : Int32)) M N _ _ _ hZ hS (lv_sub hl [1, 2, 3, 4, 0] rfl) hw
          · have hw := hw.2 hc
            refine lv_aload_n (pc := 46) hx hb d_Sp_combine_46 rfl (lv_at hl 0 rfl) ?_
            refine lv_iload (pc := 47) hx hb d_Sp_combine_47 (lv_at hl 4 rfl) ?_
            refine z_calli (pc := 49) (va_runV (C := R_Sp) (b := b + 9) (As := [.int v4]) (rest := []) ⟨hx, hb, hml, hown, hts⟩ (c_Sp_splitOff l G b v4 M N hw) (cwV 1 hts (z_good (zgV wd616 wd618 wsel15 wd2 wd619)) rfl rfl rfl ⟨rfl, hd_Sp_splitOff⟩ ⟨Nat.le_of_ble_eq_true rfl, Nat.le_of_ble_eq_true rfl⟩) (z_preV zo_Sp rfl rfl hZ hK hT hS) rfl rfl hl.1 rfl (lv_room (Nat.le_of_ble_eq_true rfl)) d_Sp_combine_49 ⟨Nat.le_of_ble_eq_true rfl, Nat.le_of_ble_eq_true rfl⟩) hS (fun r14 M15 N16 H locs hw hZ hS => ?_)
            obtain ⟨hw, eN16⟩ := hw
            rw [eN16] at hZ
            refine lv_if_eq (pc := 52) (tgt := 76) hx hb d_Sp_combine_52 (by decide) (fun hc => ?_) (fun hc => ?_)
            · have hw := hw.1 hc
              refine lv_iinc (pc := 76) (k := 4) (v := v4 + (1 : Int32)) (lv' := [(4, .int (v4 + (1 : Int32))), (0, .ref (b + 9)), (1, .ref (b + a1)), (2, .int v2), (3, .int v3)]) hx hb d_Sp_combine_76 hl rfl (by rfl) (by decide) rfl (fun ls hl => ?_)
              refine lv_goto (pc := 79) (tgt := 15) hx hb d_Sp_combine_79 (by decide) ?_
              exact ih15 v3 (v4 + (1 : Int32)) M15 N _ _ _ hZ hS (lv_sub hl [1, 2, 3, 4, 0] rfl) hw
            · have hw := hw.2 hc
              refine lv_aload_n (pc := 55) hx hb d_Sp_combine_55 rfl (lv_at hl 1 rfl) ?_
              refine lv_aload_n (pc := 56) hx hb d_Sp_combine_56 rfl (lv_at hl 0 rfl) ?_
              refine zg_Sp_42 (pc := 57) hx hb hta hown hK hZ d_Sp_combine_57 ?_
              refine lv_aload_n (pc := 60) hx hb d_Sp_combine_60 rfl (lv_at hl 0 rfl) ?_
              refine lv_aload_n (pc := 61) hx hb d_Sp_combine_61 rfl (lv_at hl 0 rfl) ?_
              refine zg_Sp_42 (pc := 62) hx hb hta hown hK hZ d_Sp_combine_62 ?_
              refine z_calli (pc := 65) (va_runV (C := R_Sp) (b := b + 9) (As := [.ref (b + 76)]) (rest := [.ref (b + 76), .ref (b + a1)]) ⟨hx, hb, hml, hown, hts⟩ (c_Sp_timesInWhole l G b 76 M15 N hw) (cwV 1 hts (z_good (zgV wd624 wd626 wsel16 wd2 wd627)) rfl rfl rfl ⟨rfl, hd_Sp_timesInWhole⟩ ⟨Nat.le_of_ble_eq_true rfl, Nat.le_of_ble_eq_true rfl⟩) (z_preV zo_Sp rfl rfl hZ hK hT hS) rfl rfl hl.1 rfl (lv_room (Nat.le_of_ble_eq_true rfl)) d_Sp_combine_65 ⟨Nat.le_of_ble_eq_true rfl, Nat.le_of_ble_eq_true rfl⟩) hS (fun r17 M18 N19 H locs hw hZ hS => ?_)
              obtain ⟨hw, eN19⟩ := hw
              rw [eN19] at hZ
              obtain ⟨hc, hw⟩ := hw
              refine z_callv (pc := 68) (va_runV (C := R_Fa) (b := b + a1) (As := [.ref (b + 76), .int r17]) (rest := []) ⟨hx, hb, hml, hown, hts⟩ (c_Fa_insert l G b a1 76 r17 M18 N hw) (cwV 2 hts (z_good (zgV wd628 wd629 wd630 wd6 wd631)) rfl rfl rfl ⟨rfl, hd_Fa_insert⟩ ⟨Nat.le_of_ble_eq_true rfl, Nat.le_of_ble_eq_true rfl⟩) (z_preV (zo_Fa hc) rfl rfl hZ hK hT hS) rfl rfl hl.1 rfl (lv_room (Nat.le_of_ble_eq_true rfl)) d_Sp_combine_68 ⟨Nat.le_of_ble_eq_true rfl, Nat.le_of_ble_eq_true rfl⟩) hS (fun M21 N22 H locs hw hZ hS => ?_)
              refine lv_iload_n (pc := 71) hx hb d_Sp_combine_71 rfl (lv_at hl 3 rfl) ?_
              refine lv_iload (pc := 72) hx hb d_Sp_combine_72 (lv_at hl 4 rfl) ?_
              refine lv_ior (pc := 74) hx hb d_Sp_combine_74 ?_
              refine lv_topi (fun x23 hx23 => ?_)
              have hw := hw x23 hx23
              refine lv_istore_n (pc := 75) (lv' := [(3, .int x23), (0, .ref (b + 9)), (1, .ref (b + a1)), (2, .int v2), (4, .int v4)]) hx hb d_Sp_combine_75 rfl hl (by decide) rfl (fun ls hl => ?_)
              refine lv_iinc (pc := 76) (k := 4) (v := v4 + (1 : Int32)) (lv' := [(4, .int (v4 + (1 : Int32))), (3, .int x23), (0, .ref (b + 9)), (1, .ref (b + a1)), (2, .int v2)]) hx hb d_Sp_combine_76 hl rfl (by rfl) (by decide) rfl (fun ls hl => ?_)
              refine lv_goto (pc := 79) (tgt := 15) hx hb d_Sp_combine_79 (by decide) ?_
              exact ih15 x23 (v4 + (1 : Int32)) M21 N22 _ _ _ hZ hS (lv_sub hl [2, 3, 4, 1, 0] rfl) hw
  unfold w_Sp_combine at hw
  refine lv_iconst (pc := 0) (v := 1) hx hb d_Sp_combine_0 (by decide) ?_
  refine lv_aload_n (pc := 1) hx hb d_Sp_combine_1 rfl (lv_at hl 0 rfl) ?_
  refine zg_Sp_21 (pc := 2) hx hb hta hown hK hZ d_Sp_combine_2 ?_
  refine zg_Sp_89 (pc := 5) hx hb hta hown hK hZ d_Sp_combine_5 ?_
  refine lv_ishl (pc := 8) hx hb d_Sp_combine_8 ?_
  refine lv_topi (fun x1 hx1 => ?_)
  have hw := hw x1 hx1
  refine lv_istore_n (pc := 9) (lv' := [(2, .int x1), (0, .ref (b + 9)), (1, .ref (b + a1))]) hx hb d_Sp_combine_9 rfl hl (by decide) rfl (fun ls hl => ?_)
  refine lv_iconst (pc := 10) (v := 0) hx hb d_Sp_combine_10 (by decide) ?_
  refine lv_istore_n (pc := 11) (lv' := [(3, .int (0 : Int32)), (2, .int x1), (0, .ref (b + 9)), (1, .ref (b + a1))]) hx hb d_Sp_combine_11 rfl hl (by decide) rfl (fun ls hl => ?_)
  refine lv_iconst (pc := 12) (v := 1) hx hb d_Sp_combine_12 (by decide) ?_
  refine lv_istore (pc := 13) (lv' := [(4, .int (1 : Int32)), (3, .int (0 : Int32)), (2, .int x1), (0, .ref (b + 9)), (1, .ref (b + a1))]) hx hb d_Sp_combine_13 hl (by decide) rfl (fun ls hl => ?_)
  obtain ⟨n, hw⟩ := hw
  exact lp15 x1 n (0 : Int32) (1 : Int32) M N _ _ _ hZ hS (lv_sub hl [3, 4, 2, 1, 0] rfl) hw
theorem zg_Sp_12 {p : Program} {l : Launch} {e : Env} {R : Room} {s : State} {m : MethodId} {args : Array Value} {below : List Frame} {meth : Method} {c : Code} {H : Heap} {locs : List Loc} {cells slots : Nat} {Q : State → Prop} {cc : ByteArray} {pc : Nat} {ls : Array Slot} {rest : List Value} {G : zG} {b : Nat} {M : zM} {N : zN} (hx : p.tables.exec = Jvm.exec) (hb : c.code = cc) (hta : ∀ w ∈ zall, w.before args s = true) (hown : s.vm.findClass R_Sp = some m.cls) (hK : va_K G.1 zCl (zty G) s) (hZ : va_P G.1 zCl (zws G b M N) H) (hdg : decode cc pc = .ok (.getfield 12, 3)) (kk : W p l e R s m args below meth c H locs cells slots Q (F0 m (pc + 3) ls (.ref (b + 10) :: rest))) : W p l e R s m args below meth c H locs cells slots Q (F0 m pc ls (.ref (b + 9) :: rest)) :=
  va_get (D := G.1) (ci := 4) (v := .ref (b + 10)) (C := R_Sp) (T := T_Sp) (N := 9) hx hb hta hin_Sp hown hK hZ 9 zo_Sp rfl 0 (by decide) (hta _ wd134) (fun _ h9 => h9) rfl hdg kk
theorem wsel3 : Cond.selects R_Sp y_Sp_goodPrime y_Sp_goodPrime ∈ zall := List.mem_filter.mpr ⟨List.mem_append_left _ (List.mem_of_getElem? (i := 3) rfl), by decide +kernel⟩
theorem wsel13 : Cond.selects R_Sp y_Sp_combine y_Sp_combine ∈ zall := List.mem_filter.mpr ⟨List.mem_append_left _ (List.mem_of_getElem? (i := 13) rfl), by decide +kernel⟩
theorem d_Sp_takeApart_0 : decode prog_8_method_2_code 0 = .ok (.aload_n 1, 1) := by decide +kernel
theorem d_Sp_takeApart_1 : decode prog_8_method_2_code 1 = .ok (.aload_n 0, 1) := by decide +kernel
theorem d_Sp_takeApart_2 : decode prog_8_method_2_code 2 = .ok (.getfield 32, 3) := by decide +kernel
theorem d_Sp_takeApart_5 : decode prog_8_method_2_code 5 = .ok (.invokestatic 51, 3) := by decide +kernel
theorem d_Sp_takeApart_8 : decode prog_8_method_2_code 8 = .ok (.aload_n 2, 1) := by decide +kernel
theorem d_Sp_takeApart_9 : decode prog_8_method_2_code 9 = .ok (.aload_n 0, 1) := by decide +kernel
theorem d_Sp_takeApart_10 : decode prog_8_method_2_code 10 = .ok (.getfield 32, 3) := by decide +kernel
theorem d_Sp_takeApart_13 : decode prog_8_method_2_code 13 = .ok (.invokestatic 57, 3) := by decide +kernel
theorem d_Sp_takeApart_16 : decode prog_8_method_2_code 16 = .ok (.invokevirtual 61, 3) := by decide +kernel
theorem d_Sp_takeApart_19 : decode prog_8_method_2_code 19 = .ok (.aload_n 0, 1) := by decide +kernel
theorem d_Sp_takeApart_20 : decode prog_8_method_2_code 20 = .ok (.getfield 32, 3) := by decide +kernel
theorem d_Sp_takeApart_23 : decode prog_8_method_2_code 23 = .ok (.invokestatic 67, 3) := by decide +kernel
theorem d_Sp_takeApart_26 : decode prog_8_method_2_code 26 = .ok (.iconst 1, 1) := by decide +kernel
theorem d_Sp_takeApart_27 : decode prog_8_method_2_code 27 = .ok (.if_icmp .ge 4, 3) := by decide +kernel
theorem d_Sp_takeApart_30 : decode prog_8_method_2_code 30 = .ok (.return_, 1) := by decide +kernel
theorem d_Sp_takeApart_31 : decode prog_8_method_2_code 31 = .ok (.aload_n 0, 1) := by decide +kernel
theorem d_Sp_takeApart_32 : decode prog_8_method_2_code 32 = .ok (.getfield 32, 3) := by decide +kernel
theorem d_Sp_takeApart_35 : decode prog_8_method_2_code 35 = .ok (.aload_n 0, 1) := by decide +kernel
theorem d_Sp_takeApart_36 : decode prog_8_method_2_code 36 = .ok (.getfield 39, 3) := by decide +kernel
theorem d_Sp_takeApart_39 : decode prog_8_method_2_code 39 = .ok (.invokestatic 71, 3) := by decide +kernel
theorem d_Sp_takeApart_42 : decode prog_8_method_2_code 42 = .ok (.aload_n 0, 1) := by decide +kernel
theorem d_Sp_takeApart_43 : decode prog_8_method_2_code 43 = .ok (.getfield 32, 3) := by decide +kernel
theorem d_Sp_takeApart_46 : decode prog_8_method_2_code 46 = .ok (.aload_n 0, 1) := by decide +kernel
theorem d_Sp_takeApart_47 : decode prog_8_method_2_code 47 = .ok (.getfield 12, 3) := by decide +kernel
theorem d_Sp_takeApart_50 : decode prog_8_method_2_code 50 = .ok (.aload_n 0, 1) := by decide +kernel
theorem d_Sp_takeApart_51 : decode prog_8_method_2_code 51 = .ok (.getfield 32, 3) := by decide +kernel
theorem d_Sp_takeApart_54 : decode prog_8_method_2_code 54 = .ok (.aload_n 0, 1) := by decide +kernel
theorem d_Sp_takeApart_55 : decode prog_8_method_2_code 55 = .ok (.getfield 39, 3) := by decide +kernel
theorem d_Sp_takeApart_58 : decode prog_8_method_2_code 58 = .ok (.invokevirtual 74, 3) := by decide +kernel
theorem d_Sp_takeApart_61 : decode prog_8_method_2_code 61 = .ok (.aload_n 0, 1) := by decide +kernel
theorem d_Sp_takeApart_62 : decode prog_8_method_2_code 62 = .ok (.getfield 36, 3) := by decide +kernel
theorem d_Sp_takeApart_65 : decode prog_8_method_2_code 65 = .ok (.aload_n 0, 1) := by decide +kernel
theorem d_Sp_takeApart_66 : decode prog_8_method_2_code 66 = .ok (.getfield 48, 3) := by decide +kernel
theorem d_Sp_takeApart_69 : decode prog_8_method_2_code 69 = .ok (.invokestatic 78, 3) := by decide +kernel
theorem d_Sp_takeApart_72 : decode prog_8_method_2_code 72 = .ok (.pop, 1) := by decide +kernel
theorem d_Sp_takeApart_73 : decode prog_8_method_2_code 73 = .ok (.aload_n 0, 1) := by decide +kernel
theorem d_Sp_takeApart_74 : decode prog_8_method_2_code 74 = .ok (.invokevirtual 82, 3) := by decide +kernel
theorem d_Sp_takeApart_77 : decode prog_8_method_2_code 77 = .ok (.lstore_n 3, 1) := by decide +kernel
theorem d_Sp_takeApart_78 : decode prog_8_method_2_code 78 = .ok (.aload_n 0, 1) := by decide +kernel
theorem d_Sp_takeApart_79 : decode prog_8_method_2_code 79 = .ok (.getfield 21, 3) := by decide +kernel
theorem d_Sp_takeApart_82 : decode prog_8_method_2_code 82 = .ok (.aload_n 0, 1) := by decide +kernel
theorem d_Sp_takeApart_83 : decode prog_8_method_2_code 83 = .ok (.getfield 36, 3) := by decide +kernel
theorem d_Sp_takeApart_86 : decode prog_8_method_2_code 86 = .ok (.lload_n 3, 1) := by decide +kernel
theorem d_Sp_takeApart_87 : decode prog_8_method_2_code 87 = .ok (.invokevirtual 86, 3) := by decide +kernel
theorem d_Sp_takeApart_90 : decode prog_8_method_2_code 90 = .ok (.aload_n 0, 1) := by decide +kernel
theorem d_Sp_takeApart_91 : decode prog_8_method_2_code 91 = .ok (.getfield 21, 3) := by decide +kernel
theorem d_Sp_takeApart_94 : decode prog_8_method_2_code 94 = .ok (.getfield 89, 3) := by decide +kernel
theorem d_Sp_takeApart_97 : decode prog_8_method_2_code 97 = .ok (.iconst 1, 1) := by decide +kernel
theorem d_Sp_takeApart_98 : decode prog_8_method_2_code 98 = .ok (.if_icmp .le 19, 3) := by decide +kernel
theorem d_Sp_takeApart_101 : decode prog_8_method_2_code 101 = .ok (.aload_n 0, 1) := by decide +kernel
theorem d_Sp_takeApart_102 : decode prog_8_method_2_code 102 = .ok (.getfield 28, 3) := by decide +kernel
theorem d_Sp_takeApart_105 : decode prog_8_method_2_code 105 = .ok (.aload_n 0, 1) := by decide +kernel
theorem d_Sp_takeApart_106 : decode prog_8_method_2_code 106 = .ok (.getfield 36, 3) := by decide +kernel
theorem d_Sp_takeApart_109 : decode prog_8_method_2_code 109 = .ok (.aload_n 0, 1) := by decide +kernel
theorem d_Sp_takeApart_110 : decode prog_8_method_2_code 110 = .ok (.getfield 21, 3) := by decide +kernel
theorem d_Sp_takeApart_113 : decode prog_8_method_2_code 113 = .ok (.lload_n 3, 1) := by decide +kernel
theorem d_Sp_takeApart_114 : decode prog_8_method_2_code 114 = .ok (.invokevirtual 93, 3) := by decide +kernel
theorem d_Sp_takeApart_117 : decode prog_8_method_2_code 117 = .ok (.aload_n 0, 1) := by decide +kernel
theorem d_Sp_takeApart_118 : decode prog_8_method_2_code 118 = .ok (.aload_n 2, 1) := by decide +kernel
theorem d_Sp_takeApart_119 : decode prog_8_method_2_code 119 = .ok (.invokevirtual 97, 3) := by decide +kernel
theorem d_Sp_takeApart_122 : decode prog_8_method_2_code 122 = .ok (.return_, 1) := by decide +kernel
def J_Sp_takeApart_117 (P : zM → zN → Prop) (a2 : Nat) (M : zM) (N : zN) : Prop := w_Sp_combine a2 M N (fun M32 N33 => P M32 N33)
def w_Sp_takeApart (a1 : Nat) (a2 : Nat) (M : zM) (N : zN) (P : zM → zN → Prop) : Prop := w_Ro_copyInto a1 73 M (fun M2 => w_Ro_makePrimitive 73 M2 (fun r4 M5 => zfac a2 ∧ w_Fa_begin a2 r4 M5 N (fun M8 N9 => w_Ro_degreeOf 73 M8 (fun r10 => ((1 : Int32) ≤ r10 → w_Ro_slopeInto 73 75 M8 (fun M14 => w_CD_find 73 75 M14 (fun r16 M17 => w_Ro_findQuotient 73 r16 74 78 M17 (fun r19 M20 => w_Sp_goodPrime  M20 N9 (fun r22 M23 => w_MP_find 74 r22 M23 N9 (fun M26 N27 => ((N27 17 1) ≤ (1 : Int32) → J_Sp_takeApart_117 P a2 M26 N27) ∧ (¬ (N27 17 1) ≤ (1 : Int32) → w_Li_lift 74 r22 M26 N27 (fun M29 => J_Sp_takeApart_117 P a2 M29 N27)))))))) ∧ (¬ (1 : Int32) ≤ r10 → P M8 N9)))))
def ws_Sp_takeApart : List Cond := .code y_Sp_takeApart prog_8_method_2_code 5 (Option.none : Option Jvm.ClassFile.FieldType) :: zall
def rm_Sp_takeApart : Room := { frames := 5, cells := 0, slots := 0, locals := 143 }
theorem hd_Sp_takeApart : y_Sp_takeApart.cls ≠ "java/lang/invoke/MethodHandle" ∧ y_Sp_takeApart.cls ≠ "java/lang/invoke/VarHandle" ∧ (parseMethodDescriptor y_Sp_takeApart.desc).map (fun d => d.parameters.length) = some 2 := by decide +kernel
set_option maxHeartbeats 4000000 in
set_option maxRecDepth 100000 in
theorem c_Sp_takeApart (l : Launch) (G : zG) (b : Nat) (a1 : Nat) (a2 : Nat) (M : zM) (N : zN) {P : zM → zN → Prop} (hw : w_Sp_takeApart a1 a2 M N P) : Met l y_Sp_takeApart ws_Sp_takeApart rm_Sp_takeApart (zPc G b M N [.ref (b + 9), .ref (b + a1), .ref (b + a2)]) (zQv G b (fun M' N' => P M' N')) 0 0 (zA b) := by
  refine Met.ofW (cc := prog_8_method_2_code) (maxL := 5) (ret := (Option.none : Option Jvm.ClassFile.FieldType)) (by decide) rfl ?_
  intro p e s m args below meth c s₁ B hml hv
  obtain ⟨rfl, hZ, hK, hT⟩ := hv
  have hx := B.exec
  have hb := B.bytes
  have hr := B.returns
  have hts := atoms_spec (ws := ws_Sp_takeApart) B.pre
  have hta : ∀ w ∈ zall, w.before ([.ref (b + 9), .ref (b + a1), .ref (b + a2)] : List Value).toArray s = true := fun w h => hts w (List.mem_cons_of_mem _ h)
  have hown : s.vm.findClass R_Sp = some m.cls := findClass_of_methodNamed B.named
  have hlocks := B.notSynchronized
  have hS : va_S (zA b) s.heap s.heap [] := va_S.rf
  have hl := lv_entry ([.ref (b + 9), .ref (b + a1), .ref (b + a2)]) (n := 5) (Nat.le_of_ble_eq_true rfl)
  rw [lg_entry_eq]
  generalize (lg_sl ([.ref (b + 9), .ref (b + a1), .ref (b + a2)]) ++ List.replicate (5 - (lg_sl ([.ref (b + 9), .ref (b + a1), .ref (b + a2)])).length) Slot.unset).toArray = ls at hl ⊢
  have hl : lv_has ls 5 [(0, .ref (b + 9)), (1, .ref (b + a1)), (2, .ref (b + a2))] := hl
  have j117 : ∀ (M : zM) (N : zN) (H : Heap) (ls : Array Slot) (locs : List Loc), va_P G.1 zCl (zws G b M N) H → va_S (zA b) s.heap H locs → lv_has ls 5 [(0, .ref (b + 9)), (2, .ref (b + a2))] → J_Sp_takeApart_117 P a2 M N → W p l e (headSpec ws_Sp_takeApart rm_Sp_takeApart).room s m ([.ref (b + 9), .ref (b + a1), .ref (b + a2)] : List Value).toArray below meth c H locs 0 0 (MQ below (zQv G b (fun M' N' => P M' N')) ([.ref (b + 9), .ref (b + a1), .ref (b + a2)] : List Value).toArray s 0 0 (zA b)) (F0 m 117 ls []) := by
    intro M N H ls locs hZ hS hl hw
    unfold J_Sp_takeApart_117 at hw
    refine lv_aload_n (pc := 117) hx hb d_Sp_takeApart_117 rfl (lv_at hl 0 rfl) ?_
    refine lv_aload_n (pc := 118) hx hb d_Sp_takeApart_118 rfl (lv_at hl 1 rfl) ?_
    refine z_callv (pc := 119) (va_runV (C := R_Sp) (b := b + 9) (As := [.ref (b + a2)]) (rest := []) ⟨hx, hb, hml, hown, hts⟩ (c_Sp_combine l G b a2 M N hw) (cwV 1 hts (z_good (zgV wd608 wd610 wsel13 wd2 wd611)) rfl rfl rfl ⟨rfl, hd_Sp_combine⟩ ⟨Nat.le_of_ble_eq_true rfl, Nat.le_of_ble_eq_true rfl⟩) (z_preV zo_Sp rfl rfl hZ hK hT hS) rfl rfl hl.1 rfl (lv_room (Nat.le_of_ble_eq_true rfl)) d_Sp_takeApart_119 ⟨Nat.le_of_ble_eq_true rfl, Nat.le_of_ble_eq_true rfl⟩) hS (fun M32 N33 H locs hw hZ hS => ?_)
    exact z_vret hx hb hr hlocks hK hT hZ hS hw d_Sp_takeApart_122
  unfold w_Sp_takeApart at hw
  refine lv_aload_n (pc := 0) hx hb d_Sp_takeApart_0 rfl (lv_at hl 1 rfl) ?_
  refine lv_aload_n (pc := 1) hx hb d_Sp_takeApart_1 rfl (lv_at hl 0 rfl) ?_
  refine zg_Sp_32 (pc := 2) hx hb hta hown hK hZ d_Sp_takeApart_2 ?_
  refine z_callv (pc := 5) (va_runS (As := [.ref (b + a1), .ref (b + 73)]) (rest := []) ⟨hx, hb, hml, hown, hts⟩ (c_Ro_copyInto l G b a1 73 M N hw) (va_cwS 2 hts (z_good (zgS wd513 wd363 wd13 wd364)) rfl rfl rfl hd_Ro_copyInto ⟨Nat.le_of_ble_eq_true rfl, Nat.le_of_ble_eq_true rfl⟩) (z_preS hZ hK hT hS) rfl rfl hl.1 rfl (lv_room (Nat.le_of_ble_eq_true rfl)) d_Sp_takeApart_5 ⟨Nat.le_of_ble_eq_true rfl, Nat.le_of_ble_eq_true rfl⟩) hS (fun M2 N3 H locs hw hZ hS => ?_)
  obtain ⟨hw, eN3⟩ := hw
  rw [eN3] at hZ
  refine lv_aload_n (pc := 8) hx hb d_Sp_takeApart_8 rfl (lv_at hl 2 rfl) ?_
  refine lv_aload_n (pc := 9) hx hb d_Sp_takeApart_9 rfl (lv_at hl 0 rfl) ?_
  refine zg_Sp_32 (pc := 10) hx hb hta hown hK hZ d_Sp_takeApart_10 ?_
  refine z_calll (pc := 13) (va_runS (As := [.ref (b + 73)]) (rest := [.ref (b + a2)]) ⟨hx, hb, hml, hown, hts⟩ (c_Ro_makePrimitive l G b 73 M2 N hw) (va_cwS 1 hts (z_good (zgS wd514 wd442 wd13 wd443)) rfl rfl rfl hd_Ro_makePrimitive ⟨Nat.le_of_ble_eq_true rfl, Nat.le_of_ble_eq_true rfl⟩) (z_preS hZ hK hT hS) rfl rfl hl.1 rfl (lv_room (Nat.le_of_ble_eq_true rfl)) d_Sp_takeApart_13 ⟨Nat.le_of_ble_eq_true rfl, Nat.le_of_ble_eq_true rfl⟩) hS (fun r4 M5 N6 H locs hw hZ hS => ?_)
  obtain ⟨hw, eN6⟩ := hw
  rw [eN6] at hZ
  obtain ⟨hc, hw⟩ := hw
  refine z_callv (pc := 16) (va_runV (C := R_Fa) (b := b + a2) (As := [.long r4]) (rest := []) ⟨hx, hb, hml, hown, hts⟩ (c_Fa_begin l G b a2 r4 M5 N hw) (cwV 1 hts (z_good (zgV wd515 wd516 wd517 wd6 wd518)) rfl rfl rfl ⟨rfl, hd_Fa_begin⟩ ⟨Nat.le_of_ble_eq_true rfl, Nat.le_of_ble_eq_true rfl⟩) (z_preV (zo_Fa hc) rfl rfl hZ hK hT hS) rfl rfl hl.1 rfl (lv_room (Nat.le_of_ble_eq_true rfl)) d_Sp_takeApart_16 ⟨Nat.le_of_ble_eq_true rfl, Nat.le_of_ble_eq_true rfl⟩) hS (fun M8 N9 H locs hw hZ hS => ?_)
  refine lv_aload_n (pc := 19) hx hb d_Sp_takeApart_19 rfl (lv_at hl 0 rfl) ?_
  refine zg_Sp_32 (pc := 20) hx hb hta hown hK hZ d_Sp_takeApart_20 ?_
  refine z_calli (pc := 23) (va_runS (As := [.ref (b + 73)]) (rest := []) ⟨hx, hb, hml, hown, hts⟩ (c_Ro_degreeOf l G b 73 M8 N9 hw) (va_cwS 1 hts (z_good (zgS wd519 wd312 wd13 wd313)) rfl rfl rfl hd_Ro_degreeOf ⟨Nat.le_of_ble_eq_true rfl, Nat.le_of_ble_eq_true rfl⟩) (z_preS hZ hK hT hS) rfl rfl hl.1 rfl (lv_room (Nat.le_of_ble_eq_true rfl)) d_Sp_takeApart_23 ⟨Nat.le_of_ble_eq_true rfl, Nat.le_of_ble_eq_true rfl⟩) hS (fun r10 M11 N12 H locs hw hZ hS => ?_)
  obtain ⟨hw, eM11, eN12⟩ := hw
  rw [eM11, eN12] at hZ
  refine lv_iconst (pc := 26) (v := 1) hx hb d_Sp_takeApart_26 (by decide) ?_
  refine lv_icmp_ge (pc := 27) (tgt := 31) hx hb d_Sp_takeApart_27 (by decide) (fun hc => ?_) (fun hc => ?_)
  · have hw := hw.1 hc
    refine lv_aload_n (pc := 31) hx hb d_Sp_takeApart_31 rfl (lv_at hl 0 rfl) ?_
    refine zg_Sp_32 (pc := 32) hx hb hta hown hK hZ d_Sp_takeApart_32 ?_
    refine lv_aload_n (pc := 35) hx hb d_Sp_takeApart_35 rfl (lv_at hl 0 rfl) ?_
    refine zg_Sp_39 (pc := 36) hx hb hta hown hK hZ d_Sp_takeApart_36 ?_
    refine z_callv (pc := 39) (va_runS (As := [.ref (b + 73), .ref (b + 75)]) (rest := []) ⟨hx, hb, hml, hown, hts⟩ (c_Ro_slopeInto l G b 73 75 M8 N9 hw) (va_cwS 2 hts (z_good (zgS wd520 wd383 wd13 wd384)) rfl rfl rfl hd_Ro_slopeInto ⟨Nat.le_of_ble_eq_true rfl, Nat.le_of_ble_eq_true rfl⟩) (z_preS hZ hK hT hS) rfl rfl hl.1 rfl (lv_room (Nat.le_of_ble_eq_true rfl)) d_Sp_takeApart_39 ⟨Nat.le_of_ble_eq_true rfl, Nat.le_of_ble_eq_true rfl⟩) hS (fun M14 N15 H locs hw hZ hS => ?_)
    obtain ⟨hw, eN15⟩ := hw
    rw [eN15] at hZ
    refine lv_aload_n (pc := 42) hx hb d_Sp_takeApart_42 rfl (lv_at hl 0 rfl) ?_
    refine zg_Sp_32 (pc := 43) hx hb hta hown hK hZ d_Sp_takeApart_43 ?_
    refine lv_aload_n (pc := 46) hx hb d_Sp_takeApart_46 rfl (lv_at hl 0 rfl) ?_
    refine zg_Sp_12 (pc := 47) hx hb hta hown hK hZ d_Sp_takeApart_47 ?_
    refine lv_aload_n (pc := 50) hx hb d_Sp_takeApart_50 rfl (lv_at hl 0 rfl) ?_
    refine zg_Sp_32 (pc := 51) hx hb hta hown hK hZ d_Sp_takeApart_51 ?_
    refine lv_aload_n (pc := 54) hx hb d_Sp_takeApart_54 rfl (lv_at hl 0 rfl) ?_
    refine zg_Sp_39 (pc := 55) hx hb hta hown hK hZ d_Sp_takeApart_55 ?_
    refine z_callr (pc := 58) (va_runV (C := R_CD) (b := b + 10) (As := [.ref (b + 73), .ref (b + 75)]) (rest := [.ref (b + 73)]) ⟨hx, hb, hml, hown, hts⟩ (c_CD_find l G b 73 75 M14 N9 hw) (cwV 2 hts (z_good (zgV wd521 wd437 wd438 wd3 wd439)) rfl rfl rfl ⟨rfl, hd_CD_find⟩ ⟨Nat.le_of_ble_eq_true rfl, Nat.le_of_ble_eq_true rfl⟩) (z_preV zo_CD rfl rfl hZ hK hT hS) rfl rfl hl.1 rfl (lv_room (Nat.le_of_ble_eq_true rfl)) d_Sp_takeApart_58 ⟨Nat.le_of_ble_eq_true rfl, Nat.le_of_ble_eq_true rfl⟩) hS (fun r16 M17 N18 H locs hw hZ hS => ?_)
    obtain ⟨hw, eN18⟩ := hw
    rw [eN18] at hZ
    refine lv_aload_n (pc := 61) hx hb d_Sp_takeApart_61 rfl (lv_at hl 0 rfl) ?_
    refine zg_Sp_36 (pc := 62) hx hb hta hown hK hZ d_Sp_takeApart_62 ?_
    refine lv_aload_n (pc := 65) hx hb d_Sp_takeApart_65 rfl (lv_at hl 0 rfl) ?_
    refine zg_Sp_48 (pc := 66) hx hb hta hown hK hZ d_Sp_takeApart_66 ?_
    refine z_calli (pc := 69) (va_runS (As := [.ref (b + 73), .ref (b + r16), .ref (b + 74), .ref (b + 78)]) (rest := []) ⟨hx, hb, hml, hown, hts⟩ (c_Ro_findQuotient l G b 73 r16 74 78 M17 N9 hw) (va_cwS 4 hts (z_good (zgS wd522 wd404 wd13 wd405)) rfl rfl rfl hd_Ro_findQuotient ⟨Nat.le_of_ble_eq_true rfl, Nat.le_of_ble_eq_true rfl⟩) (z_preS hZ hK hT hS) rfl rfl hl.1 rfl (lv_room (Nat.le_of_ble_eq_true rfl)) d_Sp_takeApart_69 ⟨Nat.le_of_ble_eq_true rfl, Nat.le_of_ble_eq_true rfl⟩) hS (fun r19 M20 N21 H locs hw hZ hS => ?_)
    obtain ⟨hw, eN21⟩ := hw
    rw [eN21] at hZ
    refine lv_pop (pc := 72) hx hb d_Sp_takeApart_72 rfl ?_
    refine lv_aload_n (pc := 73) hx hb d_Sp_takeApart_73 rfl (lv_at hl 0 rfl) ?_
    refine z_calll (pc := 74) (va_runV (C := R_Sp) (b := b + 9) (As := []) (rest := []) ⟨hx, hb, hml, hown, hts⟩ (c_Sp_goodPrime l G b  M20 N9 hw) (cwV 0 hts (z_good (zgV wd523 wd525 wsel3 wd2 wd526)) rfl rfl rfl ⟨rfl, hd_Sp_goodPrime⟩ ⟨Nat.le_of_ble_eq_true rfl, Nat.le_of_ble_eq_true rfl⟩) (z_preV zo_Sp rfl rfl hZ hK hT hS) rfl rfl hl.1 rfl (lv_room (Nat.le_of_ble_eq_true rfl)) d_Sp_takeApart_74 ⟨Nat.le_of_ble_eq_true rfl, Nat.le_of_ble_eq_true rfl⟩) hS (fun r22 M23 N24 H locs hw hZ hS => ?_)
    obtain ⟨hw, eN24⟩ := hw
    rw [eN24] at hZ
    refine lv_lstore_n (pc := 77) (lv' := [(3, .long r22), (0, .ref (b + 9)), (1, .ref (b + a1)), (2, .ref (b + a2))]) hx hb d_Sp_takeApart_77 rfl hl (by decide) rfl (fun ls hl => ?_)
    refine lv_aload_n (pc := 78) hx hb d_Sp_takeApart_78 rfl (lv_at hl 1 rfl) ?_
    refine zg_Sp_21 (pc := 79) hx hb hta hown hK hZ d_Sp_takeApart_79 ?_
    refine lv_aload_n (pc := 82) hx hb d_Sp_takeApart_82 rfl (lv_at hl 1 rfl) ?_
    refine zg_Sp_36 (pc := 83) hx hb hta hown hK hZ d_Sp_takeApart_83 ?_
    refine lv_lload_n (pc := 86) hx hb d_Sp_takeApart_86 rfl (lv_at hl 0 rfl) ?_
    refine z_callv (pc := 87) (va_runV (C := R_MP) (b := b + 17) (As := [.ref (b + 74), .long r22]) (rest := []) ⟨hx, hb, hml, hown, hts⟩ (c_MP_find l G b 74 r22 M23 N9 hw) (cwV 2 hts (z_good (zgV wd531 wd532 wd533 wd4 wd534)) rfl rfl rfl ⟨rfl, hd_MP_find⟩ ⟨Nat.le_of_ble_eq_true rfl, Nat.le_of_ble_eq_true rfl⟩) (z_preV zo_MP rfl rfl hZ hK hT hS) rfl rfl hl.1 rfl (lv_room (Nat.le_of_ble_eq_true rfl)) d_Sp_takeApart_87 ⟨Nat.le_of_ble_eq_true rfl, Nat.le_of_ble_eq_true rfl⟩) hS (fun M26 N27 H locs hw hZ hS => ?_)
    refine lv_aload_n (pc := 90) hx hb d_Sp_takeApart_90 rfl (lv_at hl 1 rfl) ?_
    refine zg_Sp_21 (pc := 91) hx hb hta hown hK hZ d_Sp_takeApart_91 ?_
    refine zg_Sp_89 (pc := 94) hx hb hta hown hK hZ d_Sp_takeApart_94 ?_
    refine lv_iconst (pc := 97) (v := 1) hx hb d_Sp_takeApart_97 (by decide) ?_
    refine lv_icmp_le (pc := 98) (tgt := 117) hx hb d_Sp_takeApart_98 (by decide) (fun hc => ?_) (fun hc => ?_)
    · have hw := hw.1 hc
      exact j117 M26 N27 _ _ _ hZ hS (lv_sub hl [1, 3] rfl) hw
    · have hw := hw.2 hc
      refine lv_aload_n (pc := 101) hx hb d_Sp_takeApart_101 rfl (lv_at hl 1 rfl) ?_
      refine zg_Sp_28 (pc := 102) hx hb hta hown hK hZ d_Sp_takeApart_102 ?_
      refine lv_aload_n (pc := 105) hx hb d_Sp_takeApart_105 rfl (lv_at hl 1 rfl) ?_
      refine zg_Sp_36 (pc := 106) hx hb hta hown hK hZ d_Sp_takeApart_106 ?_
      refine lv_aload_n (pc := 109) hx hb d_Sp_takeApart_109 rfl (lv_at hl 1 rfl) ?_
      refine zg_Sp_21 (pc := 110) hx hb hta hown hK hZ d_Sp_takeApart_110 ?_
      refine lv_lload_n (pc := 113) hx hb d_Sp_takeApart_113 rfl (lv_at hl 0 rfl) ?_
      refine z_callv (pc := 114) (va_runV (C := R_Li) (b := b + 51) (As := [.ref (b + 74), .ref (b + 17), .long r22]) (rest := []) ⟨hx, hb, hml, hown, hts⟩ (c_Li_lift l G b 74 r22 M26 N27 hw) (cwV 3 hts (z_good (zgV wd578 wd579 wd580 wd5 wd581)) rfl rfl rfl ⟨rfl, hd_Li_lift⟩ ⟨Nat.le_of_ble_eq_true rfl, Nat.le_of_ble_eq_true rfl⟩) (z_preV zo_Li rfl rfl hZ hK hT hS) rfl rfl hl.1 rfl (lv_room (Nat.le_of_ble_eq_true rfl)) d_Sp_takeApart_114 ⟨Nat.le_of_ble_eq_true rfl, Nat.le_of_ble_eq_true rfl⟩) hS (fun M29 N30 H locs hw hZ hS => ?_)
      obtain ⟨hw, eN30⟩ := hw
      rw [eN30] at hZ
      exact j117 M29 N27 _ _ _ hZ hS (lv_sub hl [1, 3] rfl) hw
  · have hw := hw.2 hc
    exact z_vret hx hb hr hlocks hK hT hZ hS hw d_Sp_takeApart_30
