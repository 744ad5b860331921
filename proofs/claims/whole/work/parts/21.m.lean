theorem zg_Mo_186 {p : Program} {l : Launch} {e : Env} {R : Room} {s : State} {m : MethodId} {args : Array Value} {below : List Frame} {meth : Method} {c : Code} {H : Heap} {locs : List Loc} {cells slots : Nat} {Q : State → Prop} {cc : ByteArray} {pc : Nat} {ls : Array Slot} {rest : List Value} {G : zG} {b : Nat} {M : zM} {N : zN} (hx : p.tables.exec = Jvm.exec) (hb : c.code = cc) (hta : ∀ w ∈ zall, w.before args s = true) (hown : s.vm.findClass R_Mo = some m.cls) (hK : va_K G.1 zCl (zty G) s) (hZ : va_P G.1 zCl (zws G b M N) H) (hdg : decode cc pc = .ok (.getfield 186, 3)) (kk : W p l e R s m args below meth c H locs cells slots Q (F0 m (pc + 3) ls (.int (N 99 6) :: rest))) : W p l e R s m args below meth c H locs cells slots Q (F0 m pc ls (.ref (b + 99) :: rest)) :=
  va_get (D := G.1) (ci := 6) (v := .int (N 99 6)) (C := R_Mo) (T := T_Mo) (N := 23) hx hb hta hin_Mo hown hK hZ 99 zo_Mo rfl 6 (by decide) (hta _ wd733) (fun _ h9 => h9) rfl hdg kk
theorem zp_Mo_186 {p : Program} {l : Launch} {e : Env} {R : Room} {s : State} {m : MethodId} {args : Array Value} {below : List Frame} {meth : Method} {c : Code} {H : Heap} {locs : List Loc} {cells slots : Nat} {Q : State → Prop} {cc : ByteArray} {pc : Nat} {ls : Array Slot} {rest : List Value} {G : zG} {b : Nat} {M : zM} {N : zN} {H0 : Heap} {x : Int32} (hx : p.tables.exec = Jvm.exec) (hb : c.code = cc) (hta : ∀ w ∈ zall, w.before args s = true) (hown : s.vm.findClass R_Mo = some m.cls) (hK : va_K G.1 zCl (zty G) s) (hZ : va_P G.1 zCl (zws G b M N) H) (hS : va_S (zA b) H0 H locs) (hdg : decode cc pc = .ok (.putfield 186, 3)) (kk : ∀ (N1 : zN) (H1 : Heap) (locs1 : List Loc), N1 = zpui N 99 6 x → va_P G.1 zCl (zws G b M N1) H1 → va_S (zA b) H0 H1 locs1 → W p l e R s m args below meth c H1 locs1 cells slots Q (F0 m (pc + 3) ls rest)) : W p l e R s m args below meth c H locs cells slots Q (F0 m pc ls (.int x :: .ref (b + 99) :: rest)) := by
  refine va_put (D := G.1) (ci := 6) (v := .int x) (ty := .int) (C := R_Mo) (T := T_Mo) (N := 23) hx hb hta hin_Mo ty_Mo tyok_Mo nm_Mo hown hK hZ z_D hS 99 zo_Mo rfl 6 (by decide) (hta _ wd733) (fun _ h9 => h9) rfl (by decide +kernel) rfl rfl (Nat.le_of_ble_eq_true rfl) hdg (fun H1 locs1 h1 _ h3 => ?_)
  have h2 : va_P G.1 zCl ((zws G b M N).set 99 (b + 99, zcell G b (M 99) ((zpui N 99 6 x) 99) 99)) H1 := h1
  rw [z_set (M' := M) (N' := (zpui N 99 6 x)) (k := 99) (by decide) rfl (fun j _ => rfl) (fun j hj => zpui_ne hj)] at h2
  exact kk _ H1 locs1 rfl h2 h3
theorem zg_Mo_20 {p : Program} {l : Launch} {e : Env} {R : Room} {s : State} {m : MethodId} {args : Array Value} {below : List Frame} {meth : Method} {c : Code} {H : Heap} {locs : List Loc} {cells slots : Nat} {Q : State → Prop} {cc : ByteArray} {pc : Nat} {ls : Array Slot} {rest : List Value} {G : zG} {b : Nat} {M : zM} {N : zN} (hx : p.tables.exec = Jvm.exec) (hb : c.code = cc) (hta : ∀ w ∈ zall, w.before args s = true) (hown : s.vm.findClass R_Mo = some m.cls) (hK : va_K G.1 zCl (zty G) s) (hZ : va_P G.1 zCl (zws G b M N) H) (hdg : decode cc pc = .ok (.getfield 20, 3)) (kk : W p l e R s m args below meth c H locs cells slots Q (F0 m (pc + 3) ls (.ref (b + 103) :: rest))) : W p l e R s m args below meth c H locs cells slots Q (F0 m pc ls (.ref (b + 99) :: rest)) :=
  va_get (D := G.1) (ci := 6) (v := .ref (b + 103)) (C := R_Mo) (T := T_Mo) (N := 23) hx hb hta hin_Mo hown hK hZ 99 zo_Mo rfl 7 (by decide) (hta _ wd734) (fun _ h9 => h9) rfl hdg kk
theorem d_Mo_note_0 : decode prog_10_method_40_code 0 = .ok (.iconst 0, 1) := by decide +kernel
theorem d_Mo_note_1 : decode prog_10_method_40_code 1 = .ok (.istore_n 2, 1) := by decide +kernel
theorem d_Mo_note_2 : decode prog_10_method_40_code 2 = .ok (.iload_n 2, 1) := by decide +kernel
theorem d_Mo_note_3 : decode prog_10_method_40_code 3 = .ok (.bipush 8, 2) := by decide +kernel
theorem d_Mo_note_5 : decode prog_10_method_40_code 5 = .ok (.if_icmp .ge 26, 3) := by decide +kernel
theorem d_Mo_note_8 : decode prog_10_method_40_code 8 = .ok (.aload_n 0, 1) := by decide +kernel
theorem d_Mo_note_9 : decode prog_10_method_40_code 9 = .ok (.getfield 20, 3) := by decide +kernel
theorem d_Mo_note_12 : decode prog_10_method_40_code 12 = .ok (.bipush 8, 2) := by decide +kernel
theorem d_Mo_note_14 : decode prog_10_method_40_code 14 = .ok (.aload_n 0, 1) := by decide +kernel
theorem d_Mo_note_15 : decode prog_10_method_40_code 15 = .ok (.getfield 186, 3) := by decide +kernel
theorem d_Mo_note_18 : decode prog_10_method_40_code 18 = .ok (.imul, 1) := by decide +kernel
theorem d_Mo_note_19 : decode prog_10_method_40_code 19 = .ok (.iload_n 2, 1) := by decide +kernel
theorem d_Mo_note_20 : decode prog_10_method_40_code 20 = .ok (.iadd, 1) := by decide +kernel
theorem d_Mo_note_21 : decode prog_10_method_40_code 21 = .ok (.aload_n 1, 1) := by decide +kernel
theorem d_Mo_note_22 : decode prog_10_method_40_code 22 = .ok (.iload_n 2, 1) := by decide +kernel
theorem d_Mo_note_23 : decode prog_10_method_40_code 23 = .ok (.laload, 1) := by decide +kernel
theorem d_Mo_note_24 : decode prog_10_method_40_code 24 = .ok (.lastore, 1) := by decide +kernel
theorem d_Mo_note_25 : decode prog_10_method_40_code 25 = .ok (.iinc 2 1, 3) := by decide +kernel
theorem d_Mo_note_28 : decode prog_10_method_40_code 28 = .ok (.goto (-26), 3) := by decide +kernel
theorem d_Mo_note_31 : decode prog_10_method_40_code 31 = .ok (.aload_n 0, 1) := by decide +kernel
theorem d_Mo_note_32 : decode prog_10_method_40_code 32 = .ok (.dup, 1) := by decide +kernel
theorem d_Mo_note_33 : decode prog_10_method_40_code 33 = .ok (.getfield 186, 3) := by decide +kernel
theorem d_Mo_note_36 : decode prog_10_method_40_code 36 = .ok (.iconst 1, 1) := by decide +kernel
theorem d_Mo_note_37 : decode prog_10_method_40_code 37 = .ok (.iadd, 1) := by decide +kernel
theorem d_Mo_note_38 : decode prog_10_method_40_code 38 = .ok (.putfield 186, 3) := by decide +kernel
theorem d_Mo_note_41 : decode prog_10_method_40_code 41 = .ok (.return_, 1) := by decide +kernel
def B_Mo_note_2 (P : zM → zN → Prop) (a1 : Nat) (N : zN) (k2 : Int32 → zM → Prop) (v2 : Int32) (M : zM) : Prop := ((8 : Int32) ≤ v2 → ∀ N1 : zN, N1 = zpui N 99 6 ((N 99 6) + (1 : Int32)) → P M N1) ∧ (¬ (8 : Int32) ≤ v2 → vp_in v2 (zlong a1) ∧ vp_in (((8 : Int32) * (N 99 6)) + v2) (zlong 103) ∧ ∀ M2 : zM, M2 = zput M 103 (((8 : Int32) * (N 99 6)) + v2).toNatClampNeg (M a1 v2.toNatClampNeg) → k2 (v2 + (1 : Int32)) M2)
def L_Mo_note_2 (P : zM → zN → Prop) (a1 : Nat) (N : zN) (n : Nat) : Int32 → zM → Prop := Nat.rec (fun _ _ => False) (fun _ k => B_Mo_note_2 P a1 N k) n
def w_Mo_note (a1 : Nat) (M : zM) (N : zN) (P : zM → zN → Prop) : Prop := ∃ n, L_Mo_note_2 P a1 N n (0 : Int32) M
def ws_Mo_note : List Cond := .code y_Mo_note prog_10_method_40_code 3 (Option.none : Option Jvm.ClassFile.FieldType) :: zall
def rm_Mo_note : Room := { frames := 0, cells := 0, slots := 0, locals := 0 }
theorem hd_Mo_note : y_Mo_note.cls ≠ "java/lang/invoke/MethodHandle" ∧ y_Mo_note.cls ≠ "java/lang/invoke/VarHandle" ∧ (parseMethodDescriptor y_Mo_note.desc).map (fun d => d.parameters.length) = some 1 := by decide +kernel
set_option maxHeartbeats 4000000 in
set_option maxRecDepth 100000 in
theorem c_Mo_note (l : Launch) (G : zG) (b : Nat) (a1 : Nat) (M : zM) (N : zN) {P : zM → zN → Prop} (hw : w_Mo_note a1 M N P) : Met l y_Mo_note ws_Mo_note rm_Mo_note (zPc G b M N [.ref (b + 99), .ref (b + a1)]) (zQv G b (fun M' N' => P M' N')) 0 0 (zA b) := by
  refine Met.ofW (cc := prog_10_method_40_code) (maxL := 3) (ret := (Option.none : Option Jvm.ClassFile.FieldType)) (by decide) rfl ?_
  intro p e s m args below meth c s₁ B hml hv
  obtain ⟨rfl, hZ, hK, hT⟩ := hv
  have hx := B.exec
  have hb := B.bytes
  have hr := B.returns
  have hts := atoms_spec (ws := ws_Mo_note) B.pre
  have hta : ∀ w ∈ zall, w.before ([.ref (b + 99), .ref (b + a1)] : List Value).toArray s = true := fun w h => hts w (List.mem_cons_of_mem _ h)
  have hown : s.vm.findClass R_Mo = some m.cls := findClass_of_methodNamed B.named
  have hlocks := B.notSynchronized
  have hS : va_S (zA b) s.heap s.heap [] := va_S.rf
  have hl := lv_entry ([.ref (b + 99), .ref (b + a1)]) (n := 3) (Nat.le_of_ble_eq_true rfl)
  rw [lg_entry_eq]
  generalize (lg_sl ([.ref (b + 99), .ref (b + a1)]) ++ List.replicate (3 - (lg_sl ([.ref (b + 99), .ref (b + a1)])).length) Slot.unset).toArray = ls at hl ⊢
  have hl : lv_has ls 3 [(0, .ref (b + 99)), (1, .ref (b + a1))] := hl
  have lp2 : ∀ (N : zN) (n : Nat) (v2 : Int32) (M : zM) (H : Heap) (ls : Array Slot) (locs : List Loc), va_P G.1 zCl (zws G b M N) H → va_S (zA b) s.heap H locs → lv_has ls 3 [(0, .ref (b + 99)), (1, .ref (b + a1)), (2, .int v2)] → L_Mo_note_2 P a1 N n v2 M → W p l e (headSpec ws_Mo_note rm_Mo_note).room s m ([.ref (b + 99), .ref (b + a1)] : List Value).toArray below meth c H locs 0 0 (MQ below (zQv G b (fun M' N' => P M' N')) ([.ref (b + 99), .ref (b + a1)] : List Value).toArray s 0 0 (zA b)) (F0 m 2 ls []) := by
    intro N n
    induction n with
    | zero => intro v2 M H ls locs hZ hS hl hw; exact False.elim hw
    | succ n2 ih2 =>
      intro v2 M H ls locs hZ hS hl hw
      have hw : B_Mo_note_2 P a1 N (L_Mo_note_2 P a1 N n2) v2 M := hw
      unfold B_Mo_note_2 at hw
      refine lv_iload_n (pc := 2) hx hb d_Mo_note_2 rfl (lv_at hl 2 rfl) ?_
      refine lv_bipush (pc := 3) (v := 8) hx hb d_Mo_note_3 (by decide) ?_
      refine lv_icmp_ge (pc := 5) (tgt := 31) hx hb d_Mo_note_5 (by decide) (fun hc => ?_) (fun hc => ?_)
      · have hw := hw.1 hc
        refine lv_aload_n (pc := 31) hx hb d_Mo_note_31 rfl (lv_at hl 0 rfl) ?_
        refine lv_dup (pc := 32) hx hb d_Mo_note_32 rfl ?_
        refine zg_Mo_186 (pc := 33) hx hb hta hown hK hZ d_Mo_note_33 ?_
        refine lv_iconst (pc := 36) (v := 1) hx hb d_Mo_note_36 (by decide) ?_
        refine lv_iadd (pc := 37) hx hb d_Mo_note_37 ?_
        refine zp_Mo_186 (pc := 38) hx hb hta hown hK hZ hS d_Mo_note_38 (fun N1 H locs hN1 hZ hS => ?_)
        have hw := hw N1 hN1
        exact z_vret hx hb hr hlocks hK hT hZ hS hw d_Mo_note_41
      · have hw := hw.2 hc
        refine lv_aload_n (pc := 8) hx hb d_Mo_note_8 rfl (lv_at hl 0 rfl) ?_
        refine zg_Mo_20 (pc := 9) hx hb hta hown hK hZ d_Mo_note_9 ?_
        refine lv_bipush (pc := 12) (v := 8) hx hb d_Mo_note_12 (by decide) ?_
        refine lv_aload_n (pc := 14) hx hb d_Mo_note_14 rfl (lv_at hl 0 rfl) ?_
        refine zg_Mo_186 (pc := 15) hx hb hta hown hK hZ d_Mo_note_15 ?_
        refine lv_imul (pc := 18) hx hb d_Mo_note_18 ?_
        refine lv_iload_n (pc := 19) hx hb d_Mo_note_19 rfl (lv_at hl 2 rfl) ?_
        refine lv_iadd (pc := 20) hx hb d_Mo_note_20 ?_
        refine lv_aload_n (pc := 21) hx hb d_Mo_note_21 rfl (lv_at hl 1 rfl) ?_
        refine lv_iload_n (pc := 22) hx hb d_Mo_note_22 rfl (lv_at hl 2 rfl) ?_
        obtain ⟨hc, hw⟩ := hw
        refine z_lald (pc := 23) hx hb hK hZ hc d_Mo_note_23 ?_
        obtain ⟨hc, hw⟩ := hw
        refine z_last (pc := 24) hx hb hK hZ hS hc d_Mo_note_24 (fun M2 H locs hM2 hZ hS => ?_)
        have hw := hw M2 hM2
        refine lv_iinc (pc := 25) (k := 2) (v := v2 + (1 : Int32)) (lv' := [(2, .int (v2 + (1 : Int32))), (0, .ref (b + 99)), (1, .ref (b + a1))]) hx hb d_Mo_note_25 hl rfl (by rfl) (by decide) rfl (fun ls hl => ?_)
        refine lv_goto (pc := 28) (tgt := 2) hx hb d_Mo_note_28 (by decide) ?_
        exact ih2 (v2 + (1 : Int32)) M2 _ _ _ hZ hS (lv_sub hl [1, 2, 0] rfl) hw
  unfold w_Mo_note at hw
  refine lv_iconst (pc := 0) (v := 0) hx hb d_Mo_note_0 (by decide) ?_
  refine lv_istore_n (pc := 1) (lv' := [(2, .int (0 : Int32)), (0, .ref (b + 99)), (1, .ref (b + a1))]) hx hb d_Mo_note_1 rfl hl (by decide) rfl (fun ls hl => ?_)
  obtain ⟨n, hw⟩ := hw
  exact lp2 N n (0 : Int32) M _ _ _ hZ hS (lv_sub hl [1, 2, 0] rfl) hw
theorem wsel35 : Cond.selects R_Mo y_Mo_note y_Mo_note ∈ zall := List.mem_filter.mpr ⟨List.mem_append_left _ (List.mem_of_getElem? (i := 35) rfl), by decide +kernel⟩
theorem d_Mo_isFactor_0 : decode prog_10_method_41_code 0 = .ok (.aload_n 0, 1) := by decide +kernel
theorem d_Mo_isFactor_1 : decode prog_10_method_41_code 1 = .ok (.lload_n 1, 1) := by decide +kernel
theorem d_Mo_isFactor_2 : decode prog_10_method_41_code 2 = .ok (.aload_n 0, 1) := by decide +kernel
theorem d_Mo_isFactor_3 : decode prog_10_method_41_code 3 = .ok (.getfield 59, 3) := by decide +kernel
theorem d_Mo_isFactor_6 : decode prog_10_method_41_code 6 = .ok (.iload_n 3, 1) := by decide +kernel
theorem d_Mo_isFactor_7 : decode prog_10_method_41_code 7 = .ok (.lload 4, 2) := by decide +kernel
theorem d_Mo_isFactor_9 : decode prog_10_method_41_code 9 = .ok (.invokevirtual 149, 3) := by decide +kernel
theorem d_Mo_isFactor_12 : decode prog_10_method_41_code 12 = .ok (.aload_n 0, 1) := by decide +kernel
theorem d_Mo_isFactor_13 : decode prog_10_method_41_code 13 = .ok (.getfield 62, 3) := by decide +kernel
theorem d_Mo_isFactor_16 : decode prog_10_method_41_code 16 = .ok (.invokestatic 133, 3) := by decide +kernel
theorem d_Mo_isFactor_19 : decode prog_10_method_41_code 19 = .ok (.lconst 1, 1) := by decide +kernel
theorem d_Mo_isFactor_20 : decode prog_10_method_41_code 20 = .ok (.lcmp, 1) := by decide +kernel
theorem d_Mo_isFactor_21 : decode prog_10_method_41_code 21 = .ok (.ifCond .ne 18, 3) := by decide +kernel
theorem d_Mo_isFactor_24 : decode prog_10_method_41_code 24 = .ok (.aload_n 0, 1) := by decide +kernel
theorem d_Mo_isFactor_25 : decode prog_10_method_41_code 25 = .ok (.aload_n 0, 1) := by decide +kernel
theorem d_Mo_isFactor_26 : decode prog_10_method_41_code 26 = .ok (.getfield 62, 3) := by decide +kernel
theorem d_Mo_isFactor_29 : decode prog_10_method_41_code 29 = .ok (.aload_n 0, 1) := by decide +kernel
theorem d_Mo_isFactor_30 : decode prog_10_method_41_code 30 = .ok (.getfield 26, 3) := by decide +kernel
theorem d_Mo_isFactor_33 : decode prog_10_method_41_code 33 = .ok (.invokevirtual 129, 3) := by decide +kernel
theorem d_Mo_isFactor_36 : decode prog_10_method_41_code 36 = .ok (.ifCond .ne 5, 3) := by decide +kernel
theorem d_Mo_isFactor_39 : decode prog_10_method_41_code 39 = .ok (.iconst 0, 1) := by decide +kernel
theorem d_Mo_isFactor_40 : decode prog_10_method_41_code 40 = .ok (.ireturn, 1) := by decide +kernel
theorem d_Mo_isFactor_41 : decode prog_10_method_41_code 41 = .ok (.aload_n 0, 1) := by decide +kernel
theorem d_Mo_isFactor_42 : decode prog_10_method_41_code 42 = .ok (.aload_n 0, 1) := by decide +kernel
theorem d_Mo_isFactor_43 : decode prog_10_method_41_code 43 = .ok (.getfield 62, 3) := by decide +kernel
theorem d_Mo_isFactor_46 : decode prog_10_method_41_code 46 = .ok (.invokevirtual 189, 3) := by decide +kernel
theorem d_Mo_isFactor_49 : decode prog_10_method_41_code 49 = .ok (.aload_n 0, 1) := by decide +kernel
theorem d_Mo_isFactor_50 : decode prog_10_method_41_code 50 = .ok (.getfield 41, 3) := by decide +kernel
theorem d_Mo_isFactor_53 : decode prog_10_method_41_code 53 = .ok (.aload_n 0, 1) := by decide +kernel
theorem d_Mo_isFactor_54 : decode prog_10_method_41_code 54 = .ok (.getfield 26, 3) := by decide +kernel
theorem d_Mo_isFactor_57 : decode prog_10_method_41_code 57 = .ok (.invokestatic 124, 3) := by decide +kernel
theorem d_Mo_isFactor_60 : decode prog_10_method_41_code 60 = .ok (.iconst 1, 1) := by decide +kernel
theorem d_Mo_isFactor_61 : decode prog_10_method_41_code 61 = .ok (.ireturn, 1) := by decide +kernel
def w_Mo_isFactor (a1 : Int64) (a3 : Int32) (a4 : Int64) (M : zM) (N : zN) (P : Int32 → zM → zN → Prop) : Prop := w_Mo_guess a1 116 a3 a4 M (fun M2 => w_Mo_contentOf 117 M2 (fun r4 => (¬ r4 = (1 : Int64) → narrow .boolean (.int (0 : Int32)) = .int (0 : Int32) ∧ P (0 : Int32) M2 N) ∧ (r4 = (1 : Int64) → w_Mo_divides 117 105 M2 (fun r7 M8 => (¬ r7 = 0 → w_Mo_note 117 M8 N (fun M11 N12 => w_Mo_copy 110 105 M11 (fun M14 => narrow .boolean (.int (1 : Int32)) = .int (1 : Int32) ∧ P (1 : Int32) M14 N12))) ∧ (r7 = 0 → narrow .boolean (.int (0 : Int32)) = .int (0 : Int32) ∧ P (0 : Int32) M8 N)))))
def ws_Mo_isFactor : List Cond := .code y_Mo_isFactor prog_10_method_41_code 6 (Option.some Jvm.ClassFile.FieldType.boolean) :: zall
def rm_Mo_isFactor : Room := { frames := 3, cells := 0, slots := 0, locals := 73 }
theorem hd_Mo_isFactor : y_Mo_isFactor.cls ≠ "java/lang/invoke/MethodHandle" ∧ y_Mo_isFactor.cls ≠ "java/lang/invoke/VarHandle" ∧ (parseMethodDescriptor y_Mo_isFactor.desc).map (fun d => d.parameters.length) = some 3 := by decide +kernel
set_option maxHeartbeats 4000000 in
set_option maxRecDepth 100000 in
theorem c_Mo_isFactor (l : Launch) (G : zG) (b : Nat) (a1 : Int64) (a3 : Int32) (a4 : Int64) (M : zM) (N : zN) {P : Int32 → zM → zN → Prop} (hw : w_Mo_isFactor a1 a3 a4 M N P) : Met l y_Mo_isFactor ws_Mo_isFactor rm_Mo_isFactor (zPc G b M N [.ref (b + 99), .long a1, .int a3, .long a4]) (zQi G b (fun r M' N' => P r M' N')) 0 0 (zA b) := by
  refine Met.ofW (cc := prog_10_method_41_code) (maxL := 6) (ret := (Option.some Jvm.ClassFile.FieldType.boolean)) (by decide) rfl ?_
  intro p e s m args below meth c s₁ B hml hv
  obtain ⟨rfl, hZ, hK, hT⟩ := hv
  have hx := B.exec
  have hb := B.bytes
  have hr := B.returns
  have hts := atoms_spec (ws := ws_Mo_isFactor) B.pre
  have hta : ∀ w ∈ zall, w.before ([.ref (b + 99), .long a1, .int a3, .long a4] : List Value).toArray s = true := fun w h => hts w (List.mem_cons_of_mem _ h)
  have hown : s.vm.findClass R_Mo = some m.cls := findClass_of_methodNamed B.named
  have hlocks := B.notSynchronized
  have hS : va_S (zA b) s.heap s.heap [] := va_S.rf
  have hl := lv_entry ([.ref (b + 99), .long a1, .int a3, .long a4]) (n := 6) (Nat.le_of_ble_eq_true rfl)
  rw [lg_entry_eq]
  generalize (lg_sl ([.ref (b + 99), .long a1, .int a3, .long a4]) ++ List.replicate (6 - (lg_sl ([.ref (b + 99), .long a1, .int a3, .long a4])).length) Slot.unset).toArray = ls at hl ⊢
  have hl : lv_has ls 6 [(0, .ref (b + 99)), (1, .long a1), (3, .int a3), (4, .long a4)] := hl
  unfold w_Mo_isFactor at hw
  refine lv_aload_n (pc := 0) hx hb d_Mo_isFactor_0 rfl (lv_at hl 0 rfl) ?_
  refine lv_lload_n (pc := 1) hx hb d_Mo_isFactor_1 rfl (lv_at hl 1 rfl) ?_
  refine lv_aload_n (pc := 2) hx hb d_Mo_isFactor_2 rfl (lv_at hl 0 rfl) ?_
  refine zg_Mo_59 (pc := 3) hx hb hta hown hK hZ d_Mo_isFactor_3 ?_
  refine lv_iload_n (pc := 6) hx hb d_Mo_isFactor_6 rfl (lv_at hl 2 rfl) ?_
  refine lv_lload (pc := 7) hx hb d_Mo_isFactor_7 (lv_at hl 3 rfl) ?_
  refine z_callv (pc := 9) (va_runV (C := R_Mo) (b := b + 99) (As := [.long a1, .ref (b + 116), .int a3, .long a4]) (rest := []) ⟨hx, hb, hml, hown, hts⟩ (c_Mo_guess l G b a1 116 a3 a4 M N hw) (cwV 4 hts (z_good (zgV wd916 wd918 wsel25 wd7 wd919)) rfl rfl rfl ⟨rfl, hd_Mo_guess⟩ ⟨Nat.le_of_ble_eq_true rfl, Nat.le_of_ble_eq_true rfl⟩) (z_preV zo_Mo rfl rfl hZ hK hT hS) rfl rfl hl.1 rfl (lv_room (Nat.le_of_ble_eq_true rfl)) d_Mo_isFactor_9 ⟨Nat.le_of_ble_eq_true rfl, Nat.le_of_ble_eq_true rfl⟩) hS (fun M2 N3 H locs hw hZ hS => ?_)
  obtain ⟨hw, eN3⟩ := hw
  rw [eN3] at hZ
  refine lv_aload_n (pc := 12) hx hb d_Mo_isFactor_12 rfl (lv_at hl 0 rfl) ?_
  refine zg_Mo_62 (pc := 13) hx hb hta hown hK hZ d_Mo_isFactor_13 ?_
  refine z_calll (pc := 16) (va_runS (As := [.ref (b + 117)]) (rest := []) ⟨hx, hb, hml, hown, hts⟩ (c_Mo_contentOf l G b 117 M2 N hw) (va_cwS 1 hts (z_good (zgS wd880 wd881 wd7 wd882)) rfl rfl rfl hd_Mo_contentOf ⟨Nat.le_of_ble_eq_true rfl, Nat.le_of_ble_eq_true rfl⟩) (z_preS hZ hK hT hS) rfl rfl hl.1 rfl (lv_room (Nat.le_of_ble_eq_true rfl)) d_Mo_isFactor_16 ⟨Nat.le_of_ble_eq_true rfl, Nat.le_of_ble_eq_true rfl⟩) hS (fun r4 M5 N6 H locs hw hZ hS => ?_)
  obtain ⟨hw, eM5, eN6⟩ := hw
  rw [eM5, eN6] at hZ
  refine lv_lconst (pc := 19) (v := 1) hx hb d_Mo_isFactor_19 (by decide) ?_
  refine z_lc_ne (pc := 20) (tgt := 39) hx hb d_Mo_isFactor_20 d_Mo_isFactor_21 (by decide) (fun hc => ?_) (fun hc => ?_)
  · have hw := hw.1 hc
    refine lv_iconst (pc := 39) (v := 0) hx hb d_Mo_isFactor_39 (by decide) ?_
    exact z_zret hx hb hr hlocks hK hT hZ hS hw d_Mo_isFactor_40
  · have hw := hw.2 hc
    refine lv_aload_n (pc := 24) hx hb d_Mo_isFactor_24 rfl (lv_at hl 0 rfl) ?_
    refine lv_aload_n (pc := 25) hx hb d_Mo_isFactor_25 rfl (lv_at hl 0 rfl) ?_
    refine zg_Mo_62 (pc := 26) hx hb hta hown hK hZ d_Mo_isFactor_26 ?_
    refine lv_aload_n (pc := 29) hx hb d_Mo_isFactor_29 rfl (lv_at hl 0 rfl) ?_
    refine zg_Mo_26 (pc := 30) hx hb hta hown hK hZ d_Mo_isFactor_30 ?_
    refine z_calli (pc := 33) (va_runV (C := R_Mo) (b := b + 99) (As := [.ref (b + 117), .ref (b + 105)]) (rest := []) ⟨hx, hb, hml, hown, hts⟩ (c_Mo_divides l G b 117 105 M2 N hw) (cwV 2 hts (z_good (zgV wd861 wd863 wsel21 wd7 wd864)) rfl rfl rfl ⟨rfl, hd_Mo_divides⟩ ⟨Nat.le_of_ble_eq_true rfl, Nat.le_of_ble_eq_true rfl⟩) (z_preV zo_Mo rfl rfl hZ hK hT hS) rfl rfl hl.1 rfl (lv_room (Nat.le_of_ble_eq_true rfl)) d_Mo_isFactor_33 ⟨Nat.le_of_ble_eq_true rfl, Nat.le_of_ble_eq_true rfl⟩) hS (fun r7 M8 N9 H locs hw hZ hS => ?_)
    obtain ⟨hw, eN9⟩ := hw
    rw [eN9] at hZ
    refine lv_if_ne (pc := 36) (tgt := 41) hx hb d_Mo_isFactor_36 (by decide) (fun hc => ?_) (fun hc => ?_)
    · have hw := hw.1 hc
      refine lv_aload_n (pc := 41) hx hb d_Mo_isFactor_41 rfl (lv_at hl 0 rfl) ?_
      refine lv_aload_n (pc := 42) hx hb d_Mo_isFactor_42 rfl (lv_at hl 0 rfl) ?_
      refine zg_Mo_62 (pc := 43) hx hb hta hown hK hZ d_Mo_isFactor_43 ?_
      refine z_callv (pc := 46) (va_runV (C := R_Mo) (b := b + 99) (As := [.ref (b + 117)]) (rest := []) ⟨hx, hb, hml, hown, hts⟩ (c_Mo_note l G b 117 M8 N hw) (cwV 1 hts (z_good (zgV wd967 wd969 wsel35 wd7 wd970)) rfl rfl rfl ⟨rfl, hd_Mo_note⟩ ⟨Nat.le_of_ble_eq_true rfl, Nat.le_of_ble_eq_true rfl⟩) (z_preV zo_Mo rfl rfl hZ hK hT hS) rfl rfl hl.1 rfl (lv_room (Nat.le_of_ble_eq_true rfl)) d_Mo_isFactor_46 ⟨Nat.le_of_ble_eq_true rfl, Nat.le_of_ble_eq_true rfl⟩) hS (fun M11 N12 H locs hw hZ hS => ?_)
      refine lv_aload_n (pc := 49) hx hb d_Mo_isFactor_49 rfl (lv_at hl 0 rfl) ?_
      refine zg_Mo_41 (pc := 50) hx hb hta hown hK hZ d_Mo_isFactor_50 ?_
      refine lv_aload_n (pc := 53) hx hb d_Mo_isFactor_53 rfl (lv_at hl 0 rfl) ?_
      refine zg_Mo_26 (pc := 54) hx hb hta hown hK hZ d_Mo_isFactor_54 ?_
      refine z_callv (pc := 57) (va_runS (As := [.ref (b + 110), .ref (b + 105)]) (rest := []) ⟨hx, hb, hml, hown, hts⟩ (c_Mo_copy l G b 110 105 M11 N12 hw) (va_cwS 2 hts (z_good (zgS wd865 wd866 wd7 wd867)) rfl rfl rfl hd_Mo_copy ⟨Nat.le_of_ble_eq_true rfl, Nat.le_of_ble_eq_true rfl⟩) (z_preS hZ hK hT hS) rfl rfl hl.1 rfl (lv_room (Nat.le_of_ble_eq_true rfl)) d_Mo_isFactor_57 ⟨Nat.le_of_ble_eq_true rfl, Nat.le_of_ble_eq_true rfl⟩) hS (fun M14 N15 H locs hw hZ hS => ?_)
      obtain ⟨hw, eN15⟩ := hw
      rw [eN15] at hZ
      refine lv_iconst (pc := 60) (v := 1) hx hb d_Mo_isFactor_60 (by decide) ?_
      exact z_zret hx hb hr hlocks hK hT hZ hS hw d_Mo_isFactor_61
    · have hw := hw.2 hc
      refine lv_iconst (pc := 39) (v := 0) hx hb d_Mo_isFactor_39 (by decide) ?_
      exact z_zret hx hb hr hlocks hK hT hZ hS hw d_Mo_isFactor_40
theorem wsel33 : Cond.selects R_Mo y_Mo_refine y_Mo_refine ∈ zall := List.mem_filter.mpr ⟨List.mem_append_left _ (List.mem_of_getElem? (i := 33) rfl), by decide +kernel⟩
theorem wsel34 : Cond.selects R_Mo y_Mo_isFactor y_Mo_isFactor ∈ zall := List.mem_filter.mpr ⟨List.mem_append_left _ (List.mem_of_getElem? (i := 34) rfl), by decide +kernel⟩
theorem d_Mo_splits_0 : decode prog_10_method_42_code 0 = .ok (.aload_n 0, 1) := by decide +kernel
theorem d_Mo_splits_1 : decode prog_10_method_42_code 1 = .ok (.getfield 53, 3) := by decide +kernel
theorem d_Mo_splits_4 : decode prog_10_method_42_code 4 = .ok (.aload_n 0, 1) := by decide +kernel
theorem d_Mo_splits_5 : decode prog_10_method_42_code 5 = .ok (.getfield 59, 3) := by decide +kernel
theorem d_Mo_splits_8 : decode prog_10_method_42_code 8 = .ok (.invokestatic 124, 3) := by decide +kernel
theorem d_Mo_splits_11 : decode prog_10_method_42_code 11 = .ok (.lload_n 3, 1) := by decide +kernel
theorem d_Mo_splits_12 : decode prog_10_method_42_code 12 = .ok (.lstore 5, 2) := by decide +kernel
theorem d_Mo_splits_14 : decode prog_10_method_42_code 14 = .ok (.lload 5, 2) := by decide +kernel
theorem d_Mo_splits_16 : decode prog_10_method_42_code 16 = .ok (.ldc2_w 193, 3) := by decide +kernel
theorem d_Mo_splits_19 : decode prog_10_method_42_code 19 = .ok (.lcmp, 1) := by decide +kernel
theorem d_Mo_splits_20 : decode prog_10_method_42_code 20 = .ok (.ifCond .ge 21, 3) := by decide +kernel
theorem d_Mo_splits_23 : decode prog_10_method_42_code 23 = .ok (.aload_n 0, 1) := by decide +kernel
theorem d_Mo_splits_24 : decode prog_10_method_42_code 24 = .ok (.iload_n 1, 1) := by decide +kernel
theorem d_Mo_splits_25 : decode prog_10_method_42_code 25 = .ok (.iload_n 2, 1) := by decide +kernel
theorem d_Mo_splits_26 : decode prog_10_method_42_code 26 = .ok (.lload 5, 2) := by decide +kernel
theorem d_Mo_splits_28 : decode prog_10_method_42_code 28 = .ok (.lload_n 3, 1) := by decide +kernel
theorem d_Mo_splits_29 : decode prog_10_method_42_code 29 = .ok (.invokevirtual 195, 3) := by decide +kernel
theorem d_Mo_splits_32 : decode prog_10_method_42_code 32 = .ok (.lload 5, 2) := by decide +kernel
theorem d_Mo_splits_34 : decode prog_10_method_42_code 34 = .ok (.lload_n 3, 1) := by decide +kernel
theorem d_Mo_splits_35 : decode prog_10_method_42_code 35 = .ok (.lmul, 1) := by decide +kernel
theorem d_Mo_splits_36 : decode prog_10_method_42_code 36 = .ok (.lstore 5, 2) := by decide +kernel
theorem d_Mo_splits_38 : decode prog_10_method_42_code 38 = .ok (.goto (-24), 3) := by decide +kernel
theorem d_Mo_splits_41 : decode prog_10_method_42_code 41 = .ok (.aload_n 0, 1) := by decide +kernel
theorem d_Mo_splits_42 : decode prog_10_method_42_code 42 = .ok (.getfield 26, 3) := by decide +kernel
theorem d_Mo_splits_45 : decode prog_10_method_42_code 45 = .ok (.iload_n 2, 1) := by decide +kernel
theorem d_Mo_splits_46 : decode prog_10_method_42_code 46 = .ok (.laload, 1) := by decide +kernel
theorem d_Mo_splits_47 : decode prog_10_method_42_code 47 = .ok (.lstore 7, 2) := by decide +kernel
theorem d_Mo_splits_49 : decode prog_10_method_42_code 49 = .ok (.iconst 0, 1) := by decide +kernel
theorem d_Mo_splits_50 : decode prog_10_method_42_code 50 = .ok (.istore 9, 2) := by decide +kernel
theorem d_Mo_splits_52 : decode prog_10_method_42_code 52 = .ok (.lconst 1, 1) := by decide +kernel
theorem d_Mo_splits_53 : decode prog_10_method_42_code 53 = .ok (.lstore 10, 2) := by decide +kernel
theorem d_Mo_splits_55 : decode prog_10_method_42_code 55 = .ok (.lload 10, 2) := by decide +kernel
theorem d_Mo_splits_57 : decode prog_10_method_42_code 57 = .ok (.lload 10, 2) := by decide +kernel
theorem d_Mo_splits_59 : decode prog_10_method_42_code 59 = .ok (.lmul, 1) := by decide +kernel
theorem d_Mo_splits_60 : decode prog_10_method_42_code 60 = .ok (.lload 7, 2) := by decide +kernel
theorem d_Mo_splits_62 : decode prog_10_method_42_code 62 = .ok (.lcmp, 1) := by decide +kernel
theorem d_Mo_splits_63 : decode prog_10_method_42_code 63 = .ok (.ifCond .gt 61, 3) := by decide +kernel
theorem d_Mo_splits_66 : decode prog_10_method_42_code 66 = .ok (.iload 9, 2) := by decide +kernel
theorem d_Mo_splits_68 : decode prog_10_method_42_code 68 = .ok (.ifCond .ne 56, 3) := by decide +kernel
theorem d_Mo_splits_71 : decode prog_10_method_42_code 71 = .ok (.lload 7, 2) := by decide +kernel
theorem d_Mo_splits_73 : decode prog_10_method_42_code 73 = .ok (.lload 10, 2) := by decide +kernel
theorem d_Mo_splits_75 : decode prog_10_method_42_code 75 = .ok (.lrem, 1) := by decide +kernel
theorem d_Mo_splits_76 : decode prog_10_method_42_code 76 = .ok (.lconst 0, 1) := by decide +kernel
theorem d_Mo_splits_77 : decode prog_10_method_42_code 77 = .ok (.lcmp, 1) := by decide +kernel
theorem d_Mo_splits_78 : decode prog_10_method_42_code 78 = .ok (.ifCond .ne 34, 3) := by decide +kernel
theorem d_Mo_splits_81 : decode prog_10_method_42_code 81 = .ok (.aload_n 0, 1) := by decide +kernel
theorem d_Mo_splits_82 : decode prog_10_method_42_code 82 = .ok (.lload 10, 2) := by decide +kernel
theorem d_Mo_splits_84 : decode prog_10_method_42_code 84 = .ok (.iload_n 1, 1) := by decide +kernel
theorem d_Mo_splits_85 : decode prog_10_method_42_code 85 = .ok (.lload 5, 2) := by decide +kernel
theorem d_Mo_splits_87 : decode prog_10_method_42_code 87 = .ok (.invokevirtual 199, 3) := by decide +kernel
theorem d_Mo_splits_90 : decode prog_10_method_42_code 90 = .ok (.ifCond .ne 18, 3) := by decide +kernel
theorem d_Mo_splits_93 : decode prog_10_method_42_code 93 = .ok (.aload_n 0, 1) := by decide +kernel
theorem d_Mo_splits_94 : decode prog_10_method_42_code 94 = .ok (.lload 7, 2) := by decide +kernel
theorem d_Mo_splits_96 : decode prog_10_method_42_code 96 = .ok (.lload 10, 2) := by decide +kernel
theorem d_Mo_splits_98 : decode prog_10_method_42_code 98 = .ok (.ldiv, 1) := by decide +kernel
theorem d_Mo_splits_99 : decode prog_10_method_42_code 99 = .ok (.iload_n 1, 1) := by decide +kernel
theorem d_Mo_splits_100 : decode prog_10_method_42_code 100 = .ok (.lload 5, 2) := by decide +kernel
theorem d_Mo_splits_102 : decode prog_10_method_42_code 102 = .ok (.invokevirtual 199, 3) := by decide +kernel
theorem d_Mo_splits_105 : decode prog_10_method_42_code 105 = .ok (.ifCond .eq 7, 3) := by decide +kernel
theorem d_Mo_splits_108 : decode prog_10_method_42_code 108 = .ok (.iconst 1, 1) := by decide +kernel
theorem d_Mo_splits_109 : decode prog_10_method_42_code 109 = .ok (.goto 4, 3) := by decide +kernel
theorem d_Mo_splits_112 : decode prog_10_method_42_code 112 = .ok (.iconst 0, 1) := by decide +kernel
theorem d_Mo_splits_113 : decode prog_10_method_42_code 113 = .ok (.istore 9, 2) := by decide +kernel
theorem d_Mo_splits_115 : decode prog_10_method_42_code 115 = .ok (.lload 10, 2) := by decide +kernel
theorem d_Mo_splits_117 : decode prog_10_method_42_code 117 = .ok (.lconst 1, 1) := by decide +kernel
theorem d_Mo_splits_118 : decode prog_10_method_42_code 118 = .ok (.ladd, 1) := by decide +kernel
theorem d_Mo_splits_119 : decode prog_10_method_42_code 119 = .ok (.lstore 10, 2) := by decide +kernel
theorem d_Mo_splits_121 : decode prog_10_method_42_code 121 = .ok (.goto (-66), 3) := by decide +kernel
theorem d_Mo_splits_124 : decode prog_10_method_42_code 124 = .ok (.iload 9, 2) := by decide +kernel
theorem d_Mo_splits_126 : decode prog_10_method_42_code 126 = .ok (.ireturn, 1) := by decide +kernel
def B_Mo_splits_55 (P : Int32 → zM → zN → Prop) (a1 : Int32) (v5 : Int64) (v7 : Int64) (k55 : Int32 → Int64 → zM → zN → Prop) (v9 : Int32) (v10 : Int64) (M : zM) (N : zN) : Prop := (v7 < (v10 * v10) → narrow .boolean (.int v9) = .int v9 ∧ P v9 M N) ∧ (¬ v7 < (v10 * v10) → (¬ v9 = 0 → narrow .boolean (.int v9) = .int v9 ∧ P v9 M N) ∧ (v9 = 0 → ¬ v10 = 0 ∧ (¬ (v7 - v7 / v10 * v10) = (0 : Int64) → ∀ x9 : Int64, x9 = v10 + (1 : Int64) → k55 (0 : Int32) x9 M N) ∧ ((v7 - v7 / v10 * v10) = (0 : Int64) → w_Mo_isFactor v10 a1 v5 M N (fun r10 M11 N12 => (¬ r10 = 0 → ∀ x13 : Int64, x13 = v10 + (1 : Int64) → k55 (1 : Int32) x13 M11 N12) ∧ (r10 = 0 → ¬ v10 = 0 ∧ w_Mo_isFactor (v7 / v10) a1 v5 M11 N12 (fun r14 M15 N16 => (r14 = 0 → ∀ x17 : Int64, x17 = v10 + (1 : Int64) → k55 (0 : Int32) x17 M15 N16) ∧ (¬ r14 = 0 → ∀ x18 : Int64, x18 = v10 + (1 : Int64) → k55 (1 : Int32) x18 M15 N16)))))))
def L_Mo_splits_55 (P : Int32 → zM → zN → Prop) (a1 : Int32) (v5 : Int64) (v7 : Int64) (n : Nat) : Int32 → Int64 → zM → zN → Prop := Nat.rec (fun _ _ _ _ => False) (fun _ k => B_Mo_splits_55 P a1 v5 v7 k) n
def B_Mo_splits_14 (P : Int32 → zM → zN → Prop) (a1 : Int32) (a2 : Int32) (a3 : Int64) (N : zN) (k14 : Int64 → zM → Prop) (v5 : Int64) (M : zM) : Prop := ((1700000 : Int64) ≤ v5 → vp_in a2 (zlong 105) ∧ ∀ x4 : Int64, x4 = M 105 a2.toNatClampNeg → ∃ n, L_Mo_splits_55 P a1 v5 x4 n (0 : Int32) (1 : Int64) M N) ∧ (¬ (1700000 : Int64) ≤ v5 → w_Mo_refine a1 a2 v5 a3 M (fun M6 => ∀ x8 : Int64, x8 = v5 * a3 → k14 x8 M6))
def L_Mo_splits_14 (P : Int32 → zM → zN → Prop) (a1 : Int32) (a2 : Int32) (a3 : Int64) (N : zN) (n : Nat) : Int64 → zM → Prop := Nat.rec (fun _ _ => False) (fun _ k => B_Mo_splits_14 P a1 a2 a3 N k) n
def w_Mo_splits (a1 : Int32) (a2 : Int32) (a3 : Int64) (M : zM) (N : zN) (P : Int32 → zM → zN → Prop) : Prop := w_Mo_copy 114 116 M (fun M2 => ∃ n, L_Mo_splits_14 P a1 a2 a3 N n a3 M2)
def ws_Mo_splits : List Cond := .code y_Mo_splits prog_10_method_42_code 12 (Option.some Jvm.ClassFile.FieldType.boolean) :: zall
def rm_Mo_splits : Room := { frames := 4, cells := 0, slots := 0, locals := 98 }
theorem hd_Mo_splits : y_Mo_splits.cls ≠ "java/lang/invoke/MethodHandle" ∧ y_Mo_splits.cls ≠ "java/lang/invoke/VarHandle" ∧ (parseMethodDescriptor y_Mo_splits.desc).map (fun d => d.parameters.length) = some 3 := by decide +kernel
set_option maxHeartbeats 4000000 in
set_option maxRecDepth 100000 in
theorem c_Mo_splits (l : Launch) (G : zG) (b : Nat) (a1 : Int32) (a2 : Int32) (a3 : Int64) (M : zM) (N : zN) {P : Int32 → zM → zN → Prop} (hw : w_Mo_splits a1 a2 a3 M N P) : Met l y_Mo_splits ws_Mo_splits rm_Mo_splits (zPc G b M N [.ref (b + 99), .int a1, .int a2, .long a3]) (zQi G b (fun r M' N' => P r M' N')) 0 0 (zA b) := by
  refine Met.ofW (cc := prog_10_method_42_code) (maxL := 12) (ret := (Option.some Jvm.ClassFile.FieldType.boolean)) (by decide) rfl ?_
  intro p e s m args below meth c s₁ B hml hv
  obtain ⟨rfl, hZ, hK, hT⟩ := hv
  have hx := B.exec
  have hb := B.bytes
  have hr := B.returns
  have hts := atoms_spec (ws := ws_Mo_splits) B.pre
  have hta : ∀ w ∈ zall, w.before ([.ref (b + 99), .int a1, .int a2, .long a3] : List Value).toArray s = true := fun w h => hts w (List.mem_cons_of_mem _ h)
  have hown : s.vm.findClass R_Mo = some m.cls := findClass_of_methodNamed B.named
  have hlocks := B.notSynchronized
  have hS : va_S (zA b) s.heap s.heap [] := va_S.rf
  have hl := lv_entry ([.ref (b + 99), .int a1, .int a2, .long a3]) (n := 12) (Nat.le_of_ble_eq_true rfl)
  rw [lg_entry_eq]
  generalize (lg_sl ([.ref (b + 99), .int a1, .int a2, .long a3]) ++ List.replicate (12 - (lg_sl ([.ref (b + 99), .int a1, .int a2, .long a3])).length) Slot.unset).toArray = ls at hl ⊢
  have hl : lv_has ls 12 [(0, .ref (b + 99)), (1, .int a1), (2, .int a2), (3, .long a3)] := hl
  have lp55 : ∀ (v5 : Int64) (v7 : Int64) (n : Nat) (v9 : Int32) (v10 : Int64) (M : zM) (N : zN) (H : Heap) (ls : Array Slot) (locs : List Loc), va_P G.1 zCl (zws G b M N) H → va_S (zA b) s.heap H locs → lv_has ls 12 [(0, .ref (b + 99)), (1, .int a1), (5, .long v5), (7, .long v7), (9, .int v9), (10, .long v10)] → L_Mo_splits_55 P a1 v5 v7 n v9 v10 M N → W p l e (headSpec ws_Mo_splits rm_Mo_splits).room s m ([.ref (b + 99), .int a1, .int a2, .long a3] : List Value).toArray below meth c H locs 0 0 (MQ below (zQi G b (fun r M' N' => P r M' N')) ([.ref (b + 99), .int a1, .int a2, .long a3] : List Value).toArray s 0 0 (zA b)) (F0 m 55 ls []) := by
    intro v5 v7 n
    induction n with
    | zero => intro v9 v10 M N H ls locs hZ hS hl hw; exact False.elim hw
    | succ n55 ih55 =>
      intro v9 v10 M N H ls locs hZ hS hl hw
      have hw : B_Mo_splits_55 P a1 v5 v7 (L_Mo_splits_55 P a1 v5 v7 n55) v9 v10 M N := hw
      unfold B_Mo_splits_55 at hw
      refine lv_lload (pc := 55) hx hb d_Mo_splits_55 (lv_at hl 5 rfl) ?_
      refine lv_lload (pc := 57) hx hb d_Mo_splits_57 (lv_at hl 5 rfl) ?_
      refine lv_lmul (pc := 59) hx hb d_Mo_splits_59 ?_
      refine lv_lload (pc := 60) hx hb d_Mo_splits_60 (lv_at hl 3 rfl) ?_
      refine z_lc_gt (pc := 62) (tgt := 124) hx hb d_Mo_splits_62 d_Mo_splits_63 (by decide) (fun hc => ?_) (fun hc => ?_)
      · have hw := hw.1 hc
        refine lv_iload (pc := 124) hx hb d_Mo_splits_124 (lv_at hl 4 rfl) ?_
        exact z_zret hx hb hr hlocks hK hT hZ hS hw d_Mo_splits_126
      · have hw := hw.2 hc
        refine lv_iload (pc := 66) hx hb d_Mo_splits_66 (lv_at hl 4 rfl) ?_
        refine lv_if_ne (pc := 68) (tgt := 124) hx hb d_Mo_splits_68 (by decide) (fun hc => ?_) (fun hc => ?_)
        · have hw := hw.1 hc
          refine lv_iload (pc := 124) hx hb d_Mo_splits_124 (lv_at hl 4 rfl) ?_
          exact z_zret hx hb hr hlocks hK hT hZ hS hw d_Mo_splits_126
        · have hw := hw.2 hc
          refine lv_lload (pc := 71) hx hb d_Mo_splits_71 (lv_at hl 3 rfl) ?_
          refine lv_lload (pc := 73) hx hb d_Mo_splits_73 (lv_at hl 5 rfl) ?_
          obtain ⟨hc, hw⟩ := hw
          refine lv_lrem (pc := 75) hx hb d_Mo_splits_75 hc ?_
          refine lv_lconst (pc := 76) (v := 0) hx hb d_Mo_splits_76 (by decide) ?_
          refine z_lc_ne (pc := 77) (tgt := 112) hx hb d_Mo_splits_77 d_Mo_splits_78 (by decide) (fun hc => ?_) (fun hc => ?_)
          · have hw := hw.1 hc
            refine lv_iconst (pc := 112) (v := 0) hx hb d_Mo_splits_112 (by decide) ?_
            refine lv_istore (pc := 113) (lv' := [(9, .int (0 : Int32)), (0, .ref (b + 99)), (1, .int a1), (5, .long v5), (7, .long v7), (10, .long v10)]) hx hb d_Mo_splits_113 hl (by decide) rfl (fun ls hl => ?_)
            refine lv_lload (pc := 115) hx hb d_Mo_splits_115 (lv_at hl 5 rfl) ?_
            refine lv_lconst (pc := 117) (v := 1) hx hb d_Mo_splits_117 (by decide) ?_
            refine lv_ladd (pc := 118) hx hb d_Mo_splits_118 ?_
            refine lv_topl (fun x9 hx9 => ?_)
            have hw := hw x9 hx9
            refine lv_lstore (pc := 119) (lv' := [(10, .long x9), (9, .int (0 : Int32)), (0, .ref (b + 99)), (1, .int a1), (5, .long v5), (7, .long v7)]) hx hb d_Mo_splits_119 hl (by decide) rfl (fun ls hl => ?_)
            refine lv_goto (pc := 121) (tgt := 55) hx hb d_Mo_splits_121 (by decide) ?_
            exact ih55 (0 : Int32) x9 M N _ _ _ hZ hS (lv_sub hl [2, 3, 4, 5, 1, 0] rfl) hw
          · have hw := hw.2 hc
            refine lv_aload_n (pc := 81) hx hb d_Mo_splits_81 rfl (lv_at hl 0 rfl) ?_
            refine lv_lload (pc := 82) hx hb d_Mo_splits_82 (lv_at hl 5 rfl) ?_
            refine lv_iload_n (pc := 84) hx hb d_Mo_splits_84 rfl (lv_at hl 1 rfl) ?_
            refine lv_lload (pc := 85) hx hb d_Mo_splits_85 (lv_at hl 2 rfl) ?_
            refine z_calli (pc := 87) (va_runV (C := R_Mo) (b := b + 99) (As := [.long v10, .int a1, .long v5]) (rest := []) ⟨hx, hb, hml, hown, hts⟩ (c_Mo_isFactor l G b v10 a1 v5 M N hw) (cwV 3 hts (z_good (zgV wd963 wd965 wsel34 wd7 wd966)) rfl rfl rfl ⟨rfl, hd_Mo_isFactor⟩ ⟨Nat.le_of_ble_eq_true rfl, Nat.le_of_ble_eq_true rfl⟩) (z_preV zo_Mo rfl rfl hZ hK hT hS) rfl rfl hl.1 rfl (lv_room (Nat.le_of_ble_eq_true rfl)) d_Mo_splits_87 ⟨Nat.le_of_ble_eq_true rfl, Nat.le_of_ble_eq_true rfl⟩) hS (fun r10 M11 N12 H locs hw hZ hS => ?_)
            refine lv_if_ne (pc := 90) (tgt := 108) hx hb d_Mo_splits_90 (by decide) (fun hc => ?_) (fun hc => ?_)
            · have hw := hw.1 hc
              refine lv_iconst (pc := 108) (v := 1) hx hb d_Mo_splits_108 (by decide) ?_
              refine lv_goto (pc := 109) (tgt := 113) hx hb d_Mo_splits_109 (by decide) ?_
              refine lv_istore (pc := 113) (lv' := [(9, .int (1 : Int32)), (0, .ref (b + 99)), (1, .int a1), (5, .long v5), (7, .long v7), (10, .long v10)]) hx hb d_Mo_splits_113 hl (by decide) rfl (fun ls hl => ?_)
              refine lv_lload (pc := 115) hx hb d_Mo_splits_115 (lv_at hl 5 rfl) ?_
              refine lv_lconst (pc := 117) (v := 1) hx hb d_Mo_splits_117 (by decide) ?_
              refine lv_ladd (pc := 118) hx hb d_Mo_splits_118 ?_
              refine lv_topl (fun x13 hx13 => ?_)
              have hw := hw x13 hx13
              refine lv_lstore (pc := 119) (lv' := [(10, .long x13), (9, .int (1 : Int32)), (0, .ref (b + 99)), (1, .int a1), (5, .long v5), (7, .long v7)]) hx hb d_Mo_splits_119 hl (by decide) rfl (fun ls hl => ?_)
              refine lv_goto (pc := 121) (tgt := 55) hx hb d_Mo_splits_121 (by decide) ?_
              exact ih55 (1 : Int32) x13 M11 N12 _ _ _ hZ hS (lv_sub hl [2, 3, 4, 5, 1, 0] rfl) hw
            · have hw := hw.2 hc
              refine lv_aload_n (pc := 93) hx hb d_Mo_splits_93 rfl (lv_at hl 0 rfl) ?_
              refine lv_lload (pc := 94) hx hb d_Mo_splits_94 (lv_at hl 3 rfl) ?_
              refine lv_lload (pc := 96) hx hb d_Mo_splits_96 (lv_at hl 5 rfl) ?_
              obtain ⟨hc, hw⟩ := hw
              refine lv_ldiv (pc := 98) hx hb d_Mo_splits_98 hc ?_
              refine lv_iload_n (pc := 99) hx hb d_Mo_splits_99 rfl (lv_at hl 1 rfl) ?_
              refine lv_lload (pc := 100) hx hb d_Mo_splits_100 (lv_at hl 2 rfl) ?_
              refine z_calli (pc := 102) (va_runV (C := R_Mo) (b := b + 99) (As := [.long (v7 / v10), .int a1, .long v5]) (rest := []) ⟨hx, hb, hml, hown, hts⟩ (c_Mo_isFactor l G b (v7 / v10) a1 v5 M11 N12 hw) (cwV 3 hts (z_good (zgV wd963 wd965 wsel34 wd7 wd966)) rfl rfl rfl ⟨rfl, hd_Mo_isFactor⟩ ⟨Nat.le_of_ble_eq_true rfl, Nat.le_of_ble_eq_true rfl⟩) (z_preV zo_Mo rfl rfl hZ hK hT hS) rfl rfl hl.1 rfl (lv_room (Nat.le_of_ble_eq_true rfl)) d_Mo_splits_102 ⟨Nat.le_of_ble_eq_true rfl, Nat.le_of_ble_eq_true rfl⟩) hS (fun r14 M15 N16 H locs hw hZ hS => ?_)
              refine lv_if_eq (pc := 105) (tgt := 112) hx hb d_Mo_splits_105 (by decide) (fun hc => ?_) (fun hc => ?_)
              · have hw := hw.1 hc
                refine lv_iconst (pc := 112) (v := 0) hx hb d_Mo_splits_112 (by decide) ?_
                refine lv_istore (pc := 113) (lv' := [(9, .int (0 : Int32)), (0, .ref (b + 99)), (1, .int a1), (5, .long v5), (7, .long v7), (10, .long v10)]) hx hb d_Mo_splits_113 hl (by decide) rfl (fun ls hl => ?_)
                refine lv_lload (pc := 115) hx hb d_Mo_splits_115 (lv_at hl 5 rfl) ?_
                refine lv_lconst (pc := 117) (v := 1) hx hb d_Mo_splits_117 (by decide) ?_
                refine lv_ladd (pc := 118) hx hb d_Mo_splits_118 ?_
                refine lv_topl (fun x17 hx17 => ?_)
                have hw := hw x17 hx17
                refine lv_lstore (pc := 119) (lv' := [(10, .long x17), (9, .int (0 : Int32)), (0, .ref (b + 99)), (1, .int a1), (5, .long v5), (7, .long v7)]) hx hb d_Mo_splits_119 hl (by decide) rfl (fun ls hl => ?_)
                refine lv_goto (pc := 121) (tgt := 55) hx hb d_Mo_splits_121 (by decide) ?_
                exact ih55 (0 : Int32) x17 M15 N16 _ _ _ hZ hS (lv_sub hl [2, 3, 4, 5, 1, 0] rfl) hw
              · have hw := hw.2 hc
                refine lv_iconst (pc := 108) (v := 1) hx hb d_Mo_splits_108 (by decide) ?_
                refine lv_goto (pc := 109) (tgt := 113) hx hb d_Mo_splits_109 (by decide) ?_
                refine lv_istore (pc := 113) (lv' := [(9, .int (1 : Int32)), (0, .ref (b + 99)), (1, .int a1), (5, .long v5), (7, .long v7), (10, .long v10)]) hx hb d_Mo_splits_113 hl (by decide) rfl (fun ls hl => ?_)
                refine lv_lload (pc := 115) hx hb d_Mo_splits_115 (lv_at hl 5 rfl) ?_
                refine lv_lconst (pc := 117) (v := 1) hx hb d_Mo_splits_117 (by decide) ?_
                refine lv_ladd (pc := 118) hx hb d_Mo_splits_118 ?_
                refine lv_topl (fun x18 hx18 => ?_)
                have hw := hw x18 hx18
                refine lv_lstore (pc := 119) (lv' := [(10, .long x18), (9, .int (1 : Int32)), (0, .ref (b + 99)), (1, .int a1), (5, .long v5), (7, .long v7)]) hx hb d_Mo_splits_119 hl (by decide) rfl (fun ls hl => ?_)
                refine lv_goto (pc := 121) (tgt := 55) hx hb d_Mo_splits_121 (by decide) ?_
                exact ih55 (1 : Int32) x18 M15 N16 _ _ _ hZ hS (lv_sub hl [2, 3, 4, 5, 1, 0] rfl) hw
  have lp14 : ∀ (N : zN) (n : Nat) (v5 : Int64) (M : zM) (H : Heap) (ls : Array Slot) (locs : List Loc), va_P G.1 zCl (zws G b M N) H → va_S (zA b) s.heap H locs → lv_has ls 12 [(0, .ref (b + 99)), (1, .int a1), (2, .int a2), (3, .long a3), (5, .long v5)] → L_Mo_splits_14 P a1 a2 a3 N n v5 M → W p l e (headSpec ws_Mo_splits rm_Mo_splits).room s m ([.ref (b + 99), .int a1, .int a2, .long a3] : List Value).toArray below meth c H locs 0 0 (MQ below (zQi G b (fun r M' N' => P r M' N')) ([.ref (b + 99), .int a1, .int a2, .long a3] : List Value).toArray s 0 0 (zA b)) (F0 m 14 ls []) := by
    intro N n
    induction n with
    | zero => intro v5 M H ls locs hZ hS hl hw; exact False.elim hw
    | succ n14 ih14 =>
      intro v5 M H ls locs hZ hS hl hw
      have hw : B_Mo_splits_14 P a1 a2 a3 N (L_Mo_splits_14 P a1 a2 a3 N n14) v5 M := hw
      unfold B_Mo_splits_14 at hw
      refine lv_lload (pc := 14) hx hb d_Mo_splits_14 (lv_at hl 4 rfl) ?_
      refine lv_ldc2 (pc := 16) (v := 1700000) hx hb hown (hta _ wd958) d_Mo_splits_16 ?_
      refine z_lc_ge (pc := 19) (tgt := 41) hx hb d_Mo_splits_19 d_Mo_splits_20 (by decide) (fun hc => ?_) (fun hc => ?_)
      · have hw := hw.1 hc
        refine lv_aload_n (pc := 41) hx hb d_Mo_splits_41 rfl (lv_at hl 0 rfl) ?_
        refine zg_Mo_26 (pc := 42) hx hb hta hown hK hZ d_Mo_splits_42 ?_
        refine lv_iload_n (pc := 45) hx hb d_Mo_splits_45 rfl (lv_at hl 2 rfl) ?_
        obtain ⟨hc, hw⟩ := hw
        refine z_lald (pc := 46) hx hb hK hZ hc d_Mo_splits_46 ?_
        refine lv_topl (fun x4 hx4 => ?_)
        have hw := hw x4 hx4
        refine lv_lstore (pc := 47) (lv' := [(7, .long x4), (0, .ref (b + 99)), (1, .int a1), (2, .int a2), (3, .long a3), (5, .long v5)]) hx hb d_Mo_splits_47 hl (by decide) rfl (fun ls hl => ?_)
        refine lv_iconst (pc := 49) (v := 0) hx hb d_Mo_splits_49 (by decide) ?_
        refine lv_istore (pc := 50) (lv' := [(9, .int (0 : Int32)), (7, .long x4), (0, .ref (b + 99)), (1, .int a1), (2, .int a2), (3, .long a3), (5, .long v5)]) hx hb d_Mo_splits_50 hl (by decide) rfl (fun ls hl => ?_)
        refine lv_lconst (pc := 52) (v := 1) hx hb d_Mo_splits_52 (by decide) ?_
        refine lv_lstore (pc := 53) (lv' := [(10, .long (1 : Int64)), (9, .int (0 : Int32)), (7, .long x4), (0, .ref (b + 99)), (1, .int a1), (2, .int a2), (3, .long a3), (5, .long v5)]) hx hb d_Mo_splits_53 hl (by decide) rfl (fun ls hl => ?_)
        obtain ⟨n, hw⟩ := hw
        exact lp55 v5 x4 n (0 : Int32) (1 : Int64) M N _ _ _ hZ hS (lv_sub hl [3, 4, 7, 2, 1, 0] rfl) hw
      · have hw := hw.2 hc
        refine lv_aload_n (pc := 23) hx hb d_Mo_splits_23 rfl (lv_at hl 0 rfl) ?_
        refine lv_iload_n (pc := 24) hx hb d_Mo_splits_24 rfl (lv_at hl 1 rfl) ?_
        refine lv_iload_n (pc := 25) hx hb d_Mo_splits_25 rfl (lv_at hl 2 rfl) ?_
        refine lv_lload (pc := 26) hx hb d_Mo_splits_26 (lv_at hl 4 rfl) ?_
        refine lv_lload_n (pc := 28) hx hb d_Mo_splits_28 rfl (lv_at hl 3 rfl) ?_
        refine z_callv (pc := 29) (va_runV (C := R_Mo) (b := b + 99) (As := [.int a1, .int a2, .long v5, .long a3]) (rest := []) ⟨hx, hb, hml, hown, hts⟩ (c_Mo_refine l G b a1 a2 v5 a3 M N hw) (cwV 4 hts (z_good (zgV wd959 wd961 wsel33 wd7 wd962)) rfl rfl rfl ⟨rfl, hd_Mo_refine⟩ ⟨Nat.le_of_ble_eq_true rfl, Nat.le_of_ble_eq_true rfl⟩) (z_preV zo_Mo rfl rfl hZ hK hT hS) rfl rfl hl.1 rfl (lv_room (Nat.le_of_ble_eq_true rfl)) d_Mo_splits_29 ⟨Nat.le_of_ble_eq_true rfl, Nat.le_of_ble_eq_true rfl⟩) hS (fun M6 N7 H locs hw hZ hS => ?_)
        obtain ⟨hw, eN7⟩ := hw
        rw [eN7] at hZ
        refine lv_lload (pc := 32) hx hb d_Mo_splits_32 (lv_at hl 4 rfl) ?_
        refine lv_lload_n (pc := 34) hx hb d_Mo_splits_34 rfl (lv_at hl 3 rfl) ?_
        refine lv_lmul (pc := 35) hx hb d_Mo_splits_35 ?_
        refine lv_topl (fun x8 hx8 => ?_)
        have hw := hw x8 hx8
        refine lv_lstore (pc := 36) (lv' := [(5, .long x8), (0, .ref (b + 99)), (1, .int a1), (2, .int a2), (3, .long a3)]) hx hb d_Mo_splits_36 hl (by decide) rfl (fun ls hl => ?_)
        refine lv_goto (pc := 38) (tgt := 14) hx hb d_Mo_splits_38 (by decide) ?_
        exact ih14 x8 M6 _ _ _ hZ hS (lv_sub hl [1, 2, 3, 4, 0] rfl) hw
  unfold w_Mo_splits at hw
  refine lv_aload_n (pc := 0) hx hb d_Mo_splits_0 rfl (lv_at hl 0 rfl) ?_
  refine zg_Mo_53 (pc := 1) hx hb hta hown hK hZ d_Mo_splits_1 ?_
  refine lv_aload_n (pc := 4) hx hb d_Mo_splits_4 rfl (lv_at hl 0 rfl) ?_
  refine zg_Mo_59 (pc := 5) hx hb hta hown hK hZ d_Mo_splits_5 ?_
  refine z_callv (pc := 8) (va_runS (As := [.ref (b + 114), .ref (b + 116)]) (rest := []) ⟨hx, hb, hml, hown, hts⟩ (c_Mo_copy l G b 114 116 M N hw) (va_cwS 2 hts (z_good (zgS wd865 wd866 wd7 wd867)) rfl rfl rfl hd_Mo_copy ⟨Nat.le_of_ble_eq_true rfl, Nat.le_of_ble_eq_true rfl⟩) (z_preS hZ hK hT hS) rfl rfl hl.1 rfl (lv_room (Nat.le_of_ble_eq_true rfl)) d_Mo_splits_8 ⟨Nat.le_of_ble_eq_true rfl, Nat.le_of_ble_eq_true rfl⟩) hS (fun M2 N3 H locs hw hZ hS => ?_)
  obtain ⟨hw, eN3⟩ := hw
  rw [eN3] at hZ
  refine lv_lload_n (pc := 11) hx hb d_Mo_splits_11 rfl (lv_at hl 3 rfl) ?_
  refine lv_lstore (pc := 12) (lv' := [(5, .long a3), (0, .ref (b + 99)), (1, .int a1), (2, .int a2), (3, .long a3)]) hx hb d_Mo_splits_12 hl (by decide) rfl (fun ls hl => ?_)
  obtain ⟨n, hw⟩ := hw
  exact lp14 N n a3 M2 _ _ _ hZ hS (lv_sub hl [1, 2, 3, 4, 0] rfl) hw
theorem wsel29 : Cond.selects R_Mo y_Mo_goodPrime y_Mo_goodPrime ∈ zall := List.mem_filter.mpr ⟨List.mem_append_left _ (List.mem_of_getElem? (i := 29) rfl), by decide +kernel⟩
theorem wsel32 : Cond.selects R_Mo y_Mo_splits y_Mo_splits ∈ zall := List.mem_filter.mpr ⟨List.mem_append_left _ (List.mem_of_getElem? (i := 32) rfl), by decide +kernel⟩
theorem d_Mo_split_0 : decode prog_10_method_43_code 0 = .ok (.aload_n 0, 1) := by decide +kernel
theorem d_Mo_split_1 : decode prog_10_method_43_code 1 = .ok (.iconst 0, 1) := by decide +kernel
theorem d_Mo_split_2 : decode prog_10_method_43_code 2 = .ok (.putfield 186, 3) := by decide +kernel
theorem d_Mo_split_5 : decode prog_10_method_43_code 5 = .ok (.aload_n 0, 1) := by decide +kernel
theorem d_Mo_split_6 : decode prog_10_method_43_code 6 = .ok (.getfield 26, 3) := by decide +kernel
theorem d_Mo_split_9 : decode prog_10_method_43_code 9 = .ok (.invokestatic 82, 3) := by decide +kernel
theorem d_Mo_split_12 : decode prog_10_method_43_code 12 = .ok (.istore_n 1, 1) := by decide +kernel
theorem d_Mo_split_13 : decode prog_10_method_43_code 13 = .ok (.iload_n 1, 1) := by decide +kernel
theorem d_Mo_split_14 : decode prog_10_method_43_code 14 = .ok (.iconst 1, 1) := by decide +kernel
theorem d_Mo_split_15 : decode prog_10_method_43_code 15 = .ok (.if_icmp .le 10, 3) := by decide +kernel
theorem d_Mo_split_18 : decode prog_10_method_43_code 18 = .ok (.aload_n 0, 1) := by decide +kernel
theorem d_Mo_split_19 : decode prog_10_method_43_code 19 = .ok (.invokevirtual 203, 3) := by decide +kernel
theorem d_Mo_split_22 : decode prog_10_method_43_code 22 = .ok (.goto 6, 3) := by decide +kernel
theorem d_Mo_split_25 : decode prog_10_method_43_code 25 = .ok (.ldc2_w 140, 3) := by decide +kernel
theorem d_Mo_split_28 : decode prog_10_method_43_code 28 = .ok (.lstore_n 2, 1) := by decide +kernel
theorem d_Mo_split_29 : decode prog_10_method_43_code 29 = .ok (.iconst 1, 1) := by decide +kernel
theorem d_Mo_split_30 : decode prog_10_method_43_code 30 = .ok (.istore 4, 2) := by decide +kernel
theorem d_Mo_split_32 : decode prog_10_method_43_code 32 = .ok (.iconst 2, 1) := by decide +kernel
theorem d_Mo_split_33 : decode prog_10_method_43_code 33 = .ok (.iload 4, 2) := by decide +kernel
theorem d_Mo_split_35 : decode prog_10_method_43_code 35 = .ok (.imul, 1) := by decide +kernel
theorem d_Mo_split_36 : decode prog_10_method_43_code 36 = .ok (.iload_n 1, 1) := by decide +kernel
theorem d_Mo_split_37 : decode prog_10_method_43_code 37 = .ok (.if_icmp .gt 92, 3) := by decide +kernel
theorem d_Mo_split_40 : decode prog_10_method_43_code 40 = .ok (.lload_n 2, 1) := by decide +kernel
theorem d_Mo_split_41 : decode prog_10_method_43_code 41 = .ok (.iload 4, 2) := by decide +kernel
theorem d_Mo_split_43 : decode prog_10_method_43_code 43 = .ok (.invokestatic 174, 3) := by decide +kernel
theorem d_Mo_split_46 : decode prog_10_method_43_code 46 = .ok (.lstore 5, 2) := by decide +kernel
theorem d_Mo_split_48 : decode prog_10_method_43_code 48 = .ok (.lconst 0, 1) := by decide +kernel
theorem d_Mo_split_49 : decode prog_10_method_43_code 49 = .ok (.lstore 7, 2) := by decide +kernel
theorem d_Mo_split_51 : decode prog_10_method_43_code 51 = .ok (.lload 7, 2) := by decide +kernel
theorem d_Mo_split_53 : decode prog_10_method_43_code 53 = .ok (.lload 5, 2) := by decide +kernel
theorem d_Mo_split_55 : decode prog_10_method_43_code 55 = .ok (.lcmp, 1) := by decide +kernel
theorem d_Mo_split_56 : decode prog_10_method_43_code 56 = .ok (.ifCond .ge 67, 3) := by decide +kernel
theorem d_Mo_split_59 : decode prog_10_method_43_code 59 = .ok (.iconst 2, 1) := by decide +kernel
theorem d_Mo_split_60 : decode prog_10_method_43_code 60 = .ok (.iload 4, 2) := by decide +kernel
theorem d_Mo_split_62 : decode prog_10_method_43_code 62 = .ok (.imul, 1) := by decide +kernel
theorem d_Mo_split_63 : decode prog_10_method_43_code 63 = .ok (.iload_n 1, 1) := by decide +kernel
theorem d_Mo_split_64 : decode prog_10_method_43_code 64 = .ok (.if_icmp .gt 59, 3) := by decide +kernel
theorem d_Mo_split_67 : decode prog_10_method_43_code 67 = .ok (.aload_n 0, 1) := by decide +kernel
theorem d_Mo_split_68 : decode prog_10_method_43_code 68 = .ok (.lload 7, 2) := by decide +kernel
theorem d_Mo_split_70 : decode prog_10_method_43_code 70 = .ok (.iload 4, 2) := by decide +kernel
theorem d_Mo_split_72 : decode prog_10_method_43_code 72 = .ok (.lload_n 2, 1) := by decide +kernel
theorem d_Mo_split_73 : decode prog_10_method_43_code 73 = .ok (.invokevirtual 178, 3) := by decide +kernel
theorem d_Mo_split_76 : decode prog_10_method_43_code 76 = .ok (.aload_n 0, 1) := by decide +kernel
theorem d_Mo_split_77 : decode prog_10_method_43_code 77 = .ok (.aload_n 0, 1) := by decide +kernel
theorem d_Mo_split_78 : decode prog_10_method_43_code 78 = .ok (.getfield 53, 3) := by decide +kernel
theorem d_Mo_split_81 : decode prog_10_method_43_code 81 = .ok (.iload 4, 2) := by decide +kernel
theorem d_Mo_split_83 : decode prog_10_method_43_code 83 = .ok (.aload_n 0, 1) := by decide +kernel
theorem d_Mo_split_84 : decode prog_10_method_43_code 84 = .ok (.getfield 26, 3) := by decide +kernel
theorem d_Mo_split_87 : decode prog_10_method_43_code 87 = .ok (.iload_n 1, 1) := by decide +kernel
theorem d_Mo_split_88 : decode prog_10_method_43_code 88 = .ok (.lload_n 2, 1) := by decide +kernel
theorem d_Mo_split_89 : decode prog_10_method_43_code 89 = .ok (.invokevirtual 182, 3) := by decide +kernel
theorem d_Mo_split_92 : decode prog_10_method_43_code 92 = .ok (.ifCond .eq 22, 3) := by decide +kernel
theorem d_Mo_split_95 : decode prog_10_method_43_code 95 = .ok (.aload_n 0, 1) := by decide +kernel
theorem d_Mo_split_96 : decode prog_10_method_43_code 96 = .ok (.iload 4, 2) := by decide +kernel
theorem d_Mo_split_98 : decode prog_10_method_43_code 98 = .ok (.iload_n 1, 1) := by decide +kernel
theorem d_Mo_split_99 : decode prog_10_method_43_code 99 = .ok (.lload_n 2, 1) := by decide +kernel
theorem d_Mo_split_100 : decode prog_10_method_43_code 100 = .ok (.invokevirtual 207, 3) := by decide +kernel
theorem d_Mo_split_103 : decode prog_10_method_43_code 103 = .ok (.ifCond .eq 11, 3) := by decide +kernel
theorem d_Mo_split_106 : decode prog_10_method_43_code 106 = .ok (.aload_n 0, 1) := by decide +kernel
theorem d_Mo_split_107 : decode prog_10_method_43_code 107 = .ok (.getfield 26, 3) := by decide +kernel
theorem d_Mo_split_110 : decode prog_10_method_43_code 110 = .ok (.invokestatic 82, 3) := by decide +kernel
theorem d_Mo_split_113 : decode prog_10_method_43_code 113 = .ok (.istore_n 1, 1) := by decide +kernel
theorem d_Mo_split_114 : decode prog_10_method_43_code 114 = .ok (.lload 7, 2) := by decide +kernel
theorem d_Mo_split_116 : decode prog_10_method_43_code 116 = .ok (.lconst 1, 1) := by decide +kernel
theorem d_Mo_split_117 : decode prog_10_method_43_code 117 = .ok (.ladd, 1) := by decide +kernel
theorem d_Mo_split_118 : decode prog_10_method_43_code 118 = .ok (.lstore 7, 2) := by decide +kernel
theorem d_Mo_split_120 : decode prog_10_method_43_code 120 = .ok (.goto (-69), 3) := by decide +kernel
theorem d_Mo_split_123 : decode prog_10_method_43_code 123 = .ok (.iinc 4 1, 3) := by decide +kernel
theorem d_Mo_split_126 : decode prog_10_method_43_code 126 = .ok (.goto (-94), 3) := by decide +kernel
theorem d_Mo_split_129 : decode prog_10_method_43_code 129 = .ok (.aload_n 0, 1) := by decide +kernel
theorem d_Mo_split_130 : decode prog_10_method_43_code 130 = .ok (.aload_n 0, 1) := by decide +kernel
theorem d_Mo_split_131 : decode prog_10_method_43_code 131 = .ok (.getfield 26, 3) := by decide +kernel
theorem d_Mo_split_134 : decode prog_10_method_43_code 134 = .ok (.invokevirtual 189, 3) := by decide +kernel
theorem d_Mo_split_137 : decode prog_10_method_43_code 137 = .ok (.return_, 1) := by decide +kernel
def B_Mo_split_51 (P : zM → zN → Prop) (k32 : Int32 → Int32 → zM → zN → Prop) (v2 : Int64) (v4 : Int32) (v5 : Int64) (k51 : Int32 → Int64 → zM → zN → Prop) (v1 : Int32) (v7 : Int64) (M : zM) (N : zN) : Prop := (v5 ≤ v7 → k32 v1 (v4 + (1 : Int32)) M N) ∧ (¬ v5 ≤ v7 → (v1 < ((2 : Int32) * v4) → k32 v1 (v4 + (1 : Int32)) M N) ∧ (¬ v1 < ((2 : Int32) * v4) → w_Mo_lay v7 v4 v2 M (fun M15 => w_Mo_dividesModulo 114 v4 105 v1 v2 M15 (fun r17 M18 => (r17 = 0 → ∀ x20 : Int64, x20 = v7 + (1 : Int64) → k51 v1 x20 M18 N) ∧ (¬ r17 = 0 → w_Mo_splits v4 v1 v2 M18 N (fun r21 M22 N23 => (r21 = 0 → ∀ x24 : Int64, x24 = v7 + (1 : Int64) → k51 v1 x24 M22 N23) ∧ (¬ r21 = 0 → w_Mo_degreeOf 105 M22 (fun r25 => ∀ x28 : Int64, x28 = v7 + (1 : Int64) → k51 r25 x28 M22 N23))))))))
def L_Mo_split_51 (P : zM → zN → Prop) (k32 : Int32 → Int32 → zM → zN → Prop) (v2 : Int64) (v4 : Int32) (v5 : Int64) (n : Nat) : Int32 → Int64 → zM → zN → Prop := Nat.rec (fun _ _ _ _ => False) (fun _ k => B_Mo_split_51 P k32 v2 v4 v5 k) n
def B_Mo_split_32 (P : zM → zN → Prop) (v2 : Int64) (k32 : Int32 → Int32 → zM → zN → Prop) (v1 : Int32) (v4 : Int32) (M : zM) (N : zN) : Prop := (v1 < ((2 : Int32) * v4) → w_Mo_note 105 M N (fun M9 N10 => P M9 N10)) ∧ (¬ v1 < ((2 : Int32) * v4) → w_Mo_power v2 v4  (fun r11 => ∃ n, L_Mo_split_51 P k32 v2 v4 r11 n v1 (0 : Int64) M N))
def L_Mo_split_32 (P : zM → zN → Prop) (v2 : Int64) (n : Nat) : Int32 → Int32 → zM → zN → Prop := Nat.rec (fun _ _ _ _ => False) (fun _ k => B_Mo_split_32 P v2 k) n
def w_Mo_split  (M : zM) (N : zN) (P : zM → zN → Prop) : Prop := ∀ N1 : zN, N1 = zpui N 99 6 (0 : Int32) → w_Mo_degreeOf 105 M (fun r2 => (r2 ≤ (1 : Int32) → ∃ n, L_Mo_split_32 P (2 : Int64) n r2 (1 : Int32) M N1) ∧ (¬ r2 ≤ (1 : Int32) → w_Mo_goodPrime  M (fun r5 M6 => ∃ n, L_Mo_split_32 P r5 n r2 (1 : Int32) M6 N1)))
def ws_Mo_split : List Cond := .code y_Mo_split prog_10_method_43_code 9 (Option.none : Option Jvm.ClassFile.FieldType) :: zall
def rm_Mo_split : Room := { frames := 5, cells := 0, slots := 0, locals := 129 }
theorem hd_Mo_split : y_Mo_split.cls ≠ "java/lang/invoke/MethodHandle" ∧ y_Mo_split.cls ≠ "java/lang/invoke/VarHandle" ∧ (parseMethodDescriptor y_Mo_split.desc).map (fun d => d.parameters.length) = some 0 := by decide +kernel
set_option maxHeartbeats 4000000 in
set_option maxRecDepth 100000 in
theorem c_Mo_split (l : Launch) (G : zG) (b : Nat)  (M : zM) (N : zN) {P : zM → zN → Prop} (hw : w_Mo_split  M N P) : Met l y_Mo_split ws_Mo_split rm_Mo_split (zPc G b M N [.ref (b + 99)]) (zQv G b (fun M' N' => P M' N')) 0 0 (zA b) := by
  refine Met.ofW (cc := prog_10_method_43_code) (maxL := 9) (ret := (Option.none : Option Jvm.ClassFile.FieldType)) (by decide) rfl ?_
  intro p e s m args below meth c s₁ B hml hv
  obtain ⟨rfl, hZ, hK, hT⟩ := hv
  have hx := B.exec
  have hb := B.bytes
  have hr := B.returns
  have hts := atoms_spec (ws := ws_Mo_split) B.pre
  have hta : ∀ w ∈ zall, w.before ([.ref (b + 99)] : List Value).toArray s = true := fun w h => hts w (List.mem_cons_of_mem _ h)
  have hown : s.vm.findClass R_Mo = some m.cls := findClass_of_methodNamed B.named
  have hlocks := B.notSynchronized
  have hS : va_S (zA b) s.heap s.heap [] := va_S.rf
  have hl := lv_entry ([.ref (b + 99)]) (n := 9) (Nat.le_of_ble_eq_true rfl)
  rw [lg_entry_eq]
  generalize (lg_sl ([.ref (b + 99)]) ++ List.replicate (9 - (lg_sl ([.ref (b + 99)])).length) Slot.unset).toArray = ls at hl ⊢
  have hl : lv_has ls 9 [(0, .ref (b + 99))] := hl
  have lp32 : ∀ (v2 : Int64) (n : Nat) (v1 : Int32) (v4 : Int32) (M : zM) (N : zN) (H : Heap) (ls : Array Slot) (locs : List Loc), va_P G.1 zCl (zws G b M N) H → va_S (zA b) s.heap H locs → lv_has ls 9 [(0, .ref (b + 99)), (1, .int v1), (2, .long v2), (4, .int v4)] → L_Mo_split_32 P v2 n v1 v4 M N → W p l e (headSpec ws_Mo_split rm_Mo_split).room s m ([.ref (b + 99)] : List Value).toArray below meth c H locs 0 0 (MQ below (zQv G b (fun M' N' => P M' N')) ([.ref (b + 99)] : List Value).toArray s 0 0 (zA b)) (F0 m 32 ls []) := by
    intro v2 n
    induction n with
    | zero => intro v1 v4 M N H ls locs hZ hS hl hw; exact False.elim hw
    | succ n32 ih32 =>
      have lp51 : ∀ (v4 : Int32) (v5 : Int64) (n : Nat) (v1 : Int32) (v7 : Int64) (M : zM) (N : zN) (H : Heap) (ls : Array Slot) (locs : List Loc), va_P G.1 zCl (zws G b M N) H → va_S (zA b) s.heap H locs → lv_has ls 9 [(0, .ref (b + 99)), (1, .int v1), (2, .long v2), (4, .int v4), (5, .long v5), (7, .long v7)] → L_Mo_split_51 P (L_Mo_split_32 P v2 n32) v2 v4 v5 n v1 v7 M N → W p l e (headSpec ws_Mo_split rm_Mo_split).room s m ([.ref (b + 99)] : List Value).toArray below meth c H locs 0 0 (MQ below (zQv G b (fun M' N' => P M' N')) ([.ref (b + 99)] : List Value).toArray s 0 0 (zA b)) (F0 m 51 ls []) := by
        intro v4 v5 n
        induction n with
        | zero => intro v1 v7 M N H ls locs hZ hS hl hw; exact False.elim hw
        | succ n51 ih51 =>
          intro v1 v7 M N H ls locs hZ hS hl hw
          have hw : B_Mo_split_51 P (L_Mo_split_32 P v2 n32) v2 v4 v5 (L_Mo_split_51 P (L_Mo_split_32 P v2 n32) v2 v4 v5 n51) v1 v7 M N := hw
          unfold B_Mo_split_51 at hw
          refine lv_lload (pc := 51) hx hb d_Mo_split_51 (lv_at hl 5 rfl) ?_
          refine lv_lload (pc := 53) hx hb d_Mo_split_53 (lv_at hl 4 rfl) ?_
          refine z_lc_ge (pc := 55) (tgt := 123) hx hb d_Mo_split_55 d_Mo_split_56 (by decide) (fun hc => ?_) (fun hc => ?_)
          · have hw := hw.1 hc
            refine lv_iinc (pc := 123) (k := 3) (v := v4 + (1 : Int32)) (lv' := [(4, .int (v4 + (1 : Int32))), (0, .ref (b + 99)), (1, .int v1), (2, .long v2), (5, .long v5), (7, .long v7)]) hx hb d_Mo_split_123 hl rfl (by rfl) (by decide) rfl (fun ls hl => ?_)
            refine lv_goto (pc := 126) (tgt := 32) hx hb d_Mo_split_126 (by decide) ?_
            exact ih32 v1 (v4 + (1 : Int32)) M N _ _ _ hZ hS (lv_sub hl [1, 2, 3, 0] rfl) hw
          · have hw := hw.2 hc
            refine lv_iconst (pc := 59) (v := 2) hx hb d_Mo_split_59 (by decide) ?_
            refine lv_iload (pc := 60) hx hb d_Mo_split_60 (lv_at hl 3 rfl) ?_
            refine lv_imul (pc := 62) hx hb d_Mo_split_62 ?_
            refine lv_iload_n (pc := 63) hx hb d_Mo_split_63 rfl (lv_at hl 1 rfl) ?_
            refine lv_icmp_gt (pc := 64) (tgt := 123) hx hb d_Mo_split_64 (by decide) (fun hc => ?_) (fun hc => ?_)
            · have hw := hw.1 hc
              refine lv_iinc (pc := 123) (k := 3) (v := v4 + (1 : Int32)) (lv' := [(4, .int (v4 + (1 : Int32))), (0, .ref (b + 99)), (1, .int v1), (2, .long v2), (5, .long v5), (7, .long v7)]) hx hb d_Mo_split_123 hl rfl (by rfl) (by decide) rfl (fun ls hl => ?_)
              refine lv_goto (pc := 126) (tgt := 32) hx hb d_Mo_split_126 (by decide) ?_
              exact ih32 v1 (v4 + (1 : Int32)) M N _ _ _ hZ hS (lv_sub hl [1, 2, 3, 0] rfl) hw
            · have hw := hw.2 hc
              refine lv_aload_n (pc := 67) hx hb d_Mo_split_67 rfl (lv_at hl 0 rfl) ?_
              refine lv_lload (pc := 68) hx hb d_Mo_split_68 (lv_at hl 5 rfl) ?_
              refine lv_iload (pc := 70) hx hb d_Mo_split_70 (lv_at hl 3 rfl) ?_
              refine lv_lload_n (pc := 72) hx hb d_Mo_split_72 rfl (lv_at hl 2 rfl) ?_
              refine z_callv (pc := 73) (va_runV (C := R_Mo) (b := b + 99) (As := [.long v7, .int v4, .long v2]) (rest := []) ⟨hx, hb, hml, hown, hts⟩ (c_Mo_lay l G b v7 v4 v2 M N hw) (cwV 3 hts (z_good (zgV wd946 wd948 wsel30 wd7 wd949)) rfl rfl rfl ⟨rfl, hd_Mo_lay⟩ ⟨Nat.le_of_ble_eq_true rfl, Nat.le_of_ble_eq_true rfl⟩) (z_preV zo_Mo rfl rfl hZ hK hT hS) rfl rfl hl.1 rfl (lv_room (Nat.le_of_ble_eq_true rfl)) d_Mo_split_73 ⟨Nat.le_of_ble_eq_true rfl, Nat.le_of_ble_eq_true rfl⟩) hS (fun M15 N16 H locs hw hZ hS => ?_)
              obtain ⟨hw, eN16⟩ := hw
              rw [eN16] at hZ
              refine lv_aload_n (pc := 76) hx hb d_Mo_split_76 rfl (lv_at hl 0 rfl) ?_
              refine lv_aload_n (pc := 77) hx hb d_Mo_split_77 rfl (lv_at hl 0 rfl) ?_
              refine zg_Mo_53 (pc := 78) hx hb hta hown hK hZ d_Mo_split_78 ?_
              refine lv_iload (pc := 81) hx hb d_Mo_split_81 (lv_at hl 3 rfl) ?_
              refine lv_aload_n (pc := 83) hx hb d_Mo_split_83 rfl (lv_at hl 0 rfl) ?_
              refine zg_Mo_26 (pc := 84) hx hb hta hown hK hZ d_Mo_split_84 ?_
              refine lv_iload_n (pc := 87) hx hb d_Mo_split_87 rfl (lv_at hl 1 rfl) ?_
              refine lv_lload_n (pc := 88) hx hb d_Mo_split_88 rfl (lv_at hl 2 rfl) ?_
              refine z_calli (pc := 89) (va_runV (C := R_Mo) (b := b + 99) (As := [.ref (b + 114), .int v4, .ref (b + 105), .int v1, .long v2]) (rest := []) ⟨hx, hb, hml, hown, hts⟩ (c_Mo_dividesModulo l G b 114 v4 105 v1 v2 M15 N hw) (cwV 5 hts (z_good (zgV wd950 wd952 wsel31 wd7 wd953)) rfl rfl rfl ⟨rfl, hd_Mo_dividesModulo⟩ ⟨Nat.le_of_ble_eq_true rfl, Nat.le_of_ble_eq_true rfl⟩) (z_preV zo_Mo rfl rfl hZ hK hT hS) rfl rfl hl.1 rfl (lv_room (Nat.le_of_ble_eq_true rfl)) d_Mo_split_89 ⟨Nat.le_of_ble_eq_true rfl, Nat.le_of_ble_eq_true rfl⟩) hS (fun r17 M18 N19 H locs hw hZ hS => ?_)
              obtain ⟨hw, eN19⟩ := hw
              rw [eN19] at hZ
              refine lv_if_eq (pc := 92) (tgt := 114) hx hb d_Mo_split_92 (by decide) (fun hc => ?_) (fun hc => ?_)
              · have hw := hw.1 hc
                refine lv_lload (pc := 114) hx hb d_Mo_split_114 (lv_at hl 5 rfl) ?_
                refine lv_lconst (pc := 116) (v := 1) hx hb d_Mo_split_116 (by decide) ?_
                refine lv_ladd (pc := 117) hx hb d_Mo_split_117 ?_
                refine lv_topl (fun x20 hx20 => ?_)
                have hw := hw x20 hx20
                refine lv_lstore (pc := 118) (lv' := [(7, .long x20), (0, .ref (b + 99)), (1, .int v1), (2, .long v2), (4, .int v4), (5, .long v5)]) hx hb d_Mo_split_118 hl (by decide) rfl (fun ls hl => ?_)
                refine lv_goto (pc := 120) (tgt := 51) hx hb d_Mo_split_120 (by decide) ?_
                exact ih51 v1 x20 M18 N _ _ _ hZ hS (lv_sub hl [1, 2, 3, 4, 5, 0] rfl) hw
              · have hw := hw.2 hc
                refine lv_aload_n (pc := 95) hx hb d_Mo_split_95 rfl (lv_at hl 0 rfl) ?_
                refine lv_iload (pc := 96) hx hb d_Mo_split_96 (lv_at hl 3 rfl) ?_
                refine lv_iload_n (pc := 98) hx hb d_Mo_split_98 rfl (lv_at hl 1 rfl) ?_
                refine lv_lload_n (pc := 99) hx hb d_Mo_split_99 rfl (lv_at hl 2 rfl) ?_
                refine z_calli (pc := 100) (va_runV (C := R_Mo) (b := b + 99) (As := [.int v4, .int v1, .long v2]) (rest := []) ⟨hx, hb, hml, hown, hts⟩ (c_Mo_splits l G b v4 v1 v2 M18 N hw) (cwV 3 hts (z_good (zgV wd954 wd956 wsel32 wd7 wd957)) rfl rfl rfl ⟨rfl, hd_Mo_splits⟩ ⟨Nat.le_of_ble_eq_true rfl, Nat.le_of_ble_eq_true rfl⟩) (z_preV zo_Mo rfl rfl hZ hK hT hS) rfl rfl hl.1 rfl (lv_room (Nat.le_of_ble_eq_true rfl)) d_Mo_split_100 ⟨Nat.le_of_ble_eq_true rfl, Nat.le_of_ble_eq_true rfl⟩) hS (fun r21 M22 N23 H locs hw hZ hS => ?_)
                refine lv_if_eq (pc := 103) (tgt := 114) hx hb d_Mo_split_103 (by decide) (fun hc => ?_) (fun hc => ?_)
                · have hw := hw.1 hc
                  refine lv_lload (pc := 114) hx hb d_Mo_split_114 (lv_at hl 5 rfl) ?_
                  refine lv_lconst (pc := 116) (v := 1) hx hb d_Mo_split_116 (by decide) ?_
                  refine lv_ladd (pc := 117) hx hb d_Mo_split_117 ?_
                  refine lv_topl (fun x24 hx24 => ?_)
                  have hw := hw x24 hx24
                  refine lv_lstore (pc := 118) (lv' := [(7, .long x24), (0, .ref (b + 99)), (1, .int v1), (2, .long v2), (4, .int v4), (5, .long v5)]) hx hb d_Mo_split_118 hl (by decide) rfl (fun ls hl => ?_)
                  refine lv_goto (pc := 120) (tgt := 51) hx hb d_Mo_split_120 (by decide) ?_
                  exact ih51 v1 x24 M22 N23 _ _ _ hZ hS (lv_sub hl [1, 2, 3, 4, 5, 0] rfl) hw
                · have hw := hw.2 hc
                  refine lv_aload_n (pc := 106) hx hb d_Mo_split_106 rfl (lv_at hl 0 rfl) ?_
                  refine zg_Mo_26 (pc := 107) hx hb hta hown hK hZ d_Mo_split_107 ?_
                  refine z_calli (pc := 110) (va_runS (As := [.ref (b + 105)]) (rest := []) ⟨hx, hb, hml, hown, hts⟩ (c_Mo_degreeOf l G b 105 M22 N23 hw) (va_cwS 1 hts (z_good (zgS wd814 wd815 wd7 wd816)) rfl rfl rfl hd_Mo_degreeOf ⟨Nat.le_of_ble_eq_true rfl, Nat.le_of_ble_eq_true rfl⟩) (z_preS hZ hK hT hS) rfl rfl hl.1 rfl (lv_room (Nat.le_of_ble_eq_true rfl)) d_Mo_split_110 ⟨Nat.le_of_ble_eq_true rfl, Nat.le_of_ble_eq_true rfl⟩) hS (fun r25 M26 N27 H locs hw hZ hS => ?_)
                  obtain ⟨hw, eM26, eN27⟩ := hw
                  rw [eM26, eN27] at hZ
                  refine lv_istore_n (pc := 113) (lv' := [(1, .int r25), (0, .ref (b + 99)), (2, .long v2), (4, .int v4), (5, .long v5), (7, .long v7)]) hx hb d_Mo_split_113 rfl hl (by decide) rfl (fun ls hl => ?_)
                  refine lv_lload (pc := 114) hx hb d_Mo_split_114 (lv_at hl 5 rfl) ?_
                  refine lv_lconst (pc := 116) (v := 1) hx hb d_Mo_split_116 (by decide) ?_
                  refine lv_ladd (pc := 117) hx hb d_Mo_split_117 ?_
                  refine lv_topl (fun x28 hx28 => ?_)
                  have hw := hw x28 hx28
                  refine lv_lstore (pc := 118) (lv' := [(7, .long x28), (1, .int r25), (0, .ref (b + 99)), (2, .long v2), (4, .int v4), (5, .long v5)]) hx hb d_Mo_split_118 hl (by decide) rfl (fun ls hl => ?_)
                  refine lv_goto (pc := 120) (tgt := 51) hx hb d_Mo_split_120 (by decide) ?_
                  exact ih51 r25 x28 M22 N23 _ _ _ hZ hS (lv_sub hl [2, 1, 3, 4, 5, 0] rfl) hw
      intro v1 v4 M N H ls locs hZ hS hl hw
      have hw : B_Mo_split_32 P v2 (L_Mo_split_32 P v2 n32) v1 v4 M N := hw
      unfold B_Mo_split_32 at hw
      refine lv_iconst (pc := 32) (v := 2) hx hb d_Mo_split_32 (by decide) ?_
      refine lv_iload (pc := 33) hx hb d_Mo_split_33 (lv_at hl 3 rfl) ?_
      refine lv_imul (pc := 35) hx hb d_Mo_split_35 ?_
      refine lv_iload_n (pc := 36) hx hb d_Mo_split_36 rfl (lv_at hl 1 rfl) ?_
      refine lv_icmp_gt (pc := 37) (tgt := 129) hx hb d_Mo_split_37 (by decide) (fun hc => ?_) (fun hc => ?_)
      · have hw := hw.1 hc
        refine lv_aload_n (pc := 129) hx hb d_Mo_split_129 rfl (lv_at hl 0 rfl) ?_
        refine lv_aload_n (pc := 130) hx hb d_Mo_split_130 rfl (lv_at hl 0 rfl) ?_
        refine zg_Mo_26 (pc := 131) hx hb hta hown hK hZ d_Mo_split_131 ?_
        refine z_callv (pc := 134) (va_runV (C := R_Mo) (b := b + 99) (As := [.ref (b + 105)]) (rest := []) ⟨hx, hb, hml, hown, hts⟩ (c_Mo_note l G b 105 M N hw) (cwV 1 hts (z_good (zgV wd967 wd969 wsel35 wd7 wd970)) rfl rfl rfl ⟨rfl, hd_Mo_note⟩ ⟨Nat.le_of_ble_eq_true rfl, Nat.le_of_ble_eq_true rfl⟩) (z_preV zo_Mo rfl rfl hZ hK hT hS) rfl rfl hl.1 rfl (lv_room (Nat.le_of_ble_eq_true rfl)) d_Mo_split_134 ⟨Nat.le_of_ble_eq_true rfl, Nat.le_of_ble_eq_true rfl⟩) hS (fun M9 N10 H locs hw hZ hS => ?_)
        exact z_vret hx hb hr hlocks hK hT hZ hS hw d_Mo_split_137
      · have hw := hw.2 hc
        refine lv_lload_n (pc := 40) hx hb d_Mo_split_40 rfl (lv_at hl 2 rfl) ?_
        refine lv_iload (pc := 41) hx hb d_Mo_split_41 (lv_at hl 3 rfl) ?_
        refine z_calll (pc := 43) (va_runS (As := [.long v2, .int v4]) (rest := []) ⟨hx, hb, hml, hown, hts⟩ (c_Mo_power l G b v2 v4 M N hw) (va_cwS 2 hts (z_good (zgS wd943 wd944 wd7 wd945)) rfl rfl rfl hd_Mo_power ⟨Nat.le_of_ble_eq_true rfl, Nat.le_of_ble_eq_true rfl⟩) (z_preS hZ hK hT hS) rfl rfl hl.1 rfl (lv_room (Nat.le_of_ble_eq_true rfl)) d_Mo_split_43 ⟨Nat.le_of_ble_eq_true rfl, Nat.le_of_ble_eq_true rfl⟩) hS (fun r11 M12 N13 H locs hw hZ hS => ?_)
        obtain ⟨hw, eM12, eN13⟩ := hw
        rw [eM12, eN13] at hZ
        refine lv_lstore (pc := 46) (lv' := [(5, .long r11), (0, .ref (b + 99)), (1, .int v1), (2, .long v2), (4, .int v4)]) hx hb d_Mo_split_46 hl (by decide) rfl (fun ls hl => ?_)
        refine lv_lconst (pc := 48) (v := 0) hx hb d_Mo_split_48 (by decide) ?_
        refine lv_lstore (pc := 49) (lv' := [(7, .long (0 : Int64)), (5, .long r11), (0, .ref (b + 99)), (1, .int v1), (2, .long v2), (4, .int v4)]) hx hb d_Mo_split_49 hl (by decide) rfl (fun ls hl => ?_)
        obtain ⟨n, hw⟩ := hw
        exact lp51 v4 r11 n v1 (0 : Int64) M N _ _ _ hZ hS (lv_sub hl [2, 3, 4, 5, 1, 0] rfl) hw
  unfold w_Mo_split at hw
  refine lv_aload_n (pc := 0) hx hb d_Mo_split_0 rfl (lv_at hl 0 rfl) ?_
  refine lv_iconst (pc := 1) (v := 0) hx hb d_Mo_split_1 (by decide) ?_
  refine zp_Mo_186 (pc := 2) hx hb hta hown hK hZ hS d_Mo_split_2 (fun N1 H locs hN1 hZ hS => ?_)
  have hw := hw N1 hN1
  refine lv_aload_n (pc := 5) hx hb d_Mo_split_5 rfl (lv_at hl 0 rfl) ?_
  refine zg_Mo_26 (pc := 6) hx hb hta hown hK hZ d_Mo_split_6 ?_
  refine z_calli (pc := 9) (va_runS (As := [.ref (b + 105)]) (rest := []) ⟨hx, hb, hml, hown, hts⟩ (c_Mo_degreeOf l G b 105 M N1 hw) (va_cwS 1 hts (z_good (zgS wd814 wd815 wd7 wd816)) rfl rfl rfl hd_Mo_degreeOf ⟨Nat.le_of_ble_eq_true rfl, Nat.le_of_ble_eq_true rfl⟩) (z_preS hZ hK hT hS) rfl rfl hl.1 rfl (lv_room (Nat.le_of_ble_eq_true rfl)) d_Mo_split_9 ⟨Nat.le_of_ble_eq_true rfl, Nat.le_of_ble_eq_true rfl⟩) hS (fun r2 M3 N4 H locs hw hZ hS => ?_)
  obtain ⟨hw, eM3, eN4⟩ := hw
  rw [eM3, eN4] at hZ
  refine lv_istore_n (pc := 12) (lv' := [(1, .int r2), (0, .ref (b + 99))]) hx hb d_Mo_split_12 rfl hl (by decide) rfl (fun ls hl => ?_)
  refine lv_iload_n (pc := 13) hx hb d_Mo_split_13 rfl (lv_at hl 0 rfl) ?_
  refine lv_iconst (pc := 14) (v := 1) hx hb d_Mo_split_14 (by decide) ?_
  refine lv_icmp_le (pc := 15) (tgt := 25) hx hb d_Mo_split_15 (by decide) (fun hc => ?_) (fun hc => ?_)
  · have hw := hw.1 hc
    refine lv_ldc2 (pc := 25) (v := 2) hx hb hown (hta _ wd911) d_Mo_split_25 ?_
    refine lv_lstore_n (pc := 28) (lv' := [(2, .long (2 : Int64)), (1, .int r2), (0, .ref (b + 99))]) hx hb d_Mo_split_28 rfl hl (by decide) rfl (fun ls hl => ?_)
    refine lv_iconst (pc := 29) (v := 1) hx hb d_Mo_split_29 (by decide) ?_
    refine lv_istore (pc := 30) (lv' := [(4, .int (1 : Int32)), (2, .long (2 : Int64)), (1, .int r2), (0, .ref (b + 99))]) hx hb d_Mo_split_30 hl (by decide) rfl (fun ls hl => ?_)
    obtain ⟨n, hw⟩ := hw
    exact lp32 (2 : Int64) n r2 (1 : Int32) M N1 _ _ _ hZ hS (lv_sub hl [3, 2, 1, 0] rfl) hw
  · have hw := hw.2 hc
    refine lv_aload_n (pc := 18) hx hb d_Mo_split_18 rfl (lv_at hl 1 rfl) ?_
    refine z_calll (pc := 19) (va_runV (C := R_Mo) (b := b + 99) (As := []) (rest := []) ⟨hx, hb, hml, hown, hts⟩ (c_Mo_goodPrime l G b  M N1 hw) (cwV 0 hts (z_good (zgV wd936 wd938 wsel29 wd7 wd939)) rfl rfl rfl ⟨rfl, hd_Mo_goodPrime⟩ ⟨Nat.le_of_ble_eq_true rfl, Nat.le_of_ble_eq_true rfl⟩) (z_preV zo_Mo rfl rfl hZ hK hT hS) rfl rfl hl.1 rfl (lv_room (Nat.le_of_ble_eq_true rfl)) d_Mo_split_19 ⟨Nat.le_of_ble_eq_true rfl, Nat.le_of_ble_eq_true rfl⟩) hS (fun r5 M6 N7 H locs hw hZ hS => ?_)
    obtain ⟨hw, eN7⟩ := hw
    rw [eN7] at hZ
    refine lv_goto (pc := 22) (tgt := 28) hx hb d_Mo_split_22 (by decide) ?_
    refine lv_lstore_n (pc := 28) (lv' := [(2, .long r5), (1, .int r2), (0, .ref (b + 99))]) hx hb d_Mo_split_28 rfl hl (by decide) rfl (fun ls hl => ?_)
    refine lv_iconst (pc := 29) (v := 1) hx hb d_Mo_split_29 (by decide) ?_
    refine lv_istore (pc := 30) (lv' := [(4, .int (1 : Int32)), (2, .long r5), (1, .int r2), (0, .ref (b + 99))]) hx hb d_Mo_split_30 hl (by decide) rfl (fun ls hl => ?_)
    obtain ⟨n, hw⟩ := hw
    exact lp32 r5 n r2 (1 : Int32) M6 N1 _ _ _ hZ hS (lv_sub hl [3, 2, 1, 0] rfl) hw
theorem d_Mo_isBefore_0 : decode prog_10_method_44_code 0 = .ok (.bipush 7, 2) := by decide +kernel
theorem d_Mo_isBefore_2 : decode prog_10_method_44_code 2 = .ok (.istore_n 3, 1) := by decide +kernel
theorem d_Mo_isBefore_3 : decode prog_10_method_44_code 3 = .ok (.bipush 7, 2) := by decide +kernel
theorem d_Mo_isBefore_5 : decode prog_10_method_44_code 5 = .ok (.istore 4, 2) := by decide +kernel
theorem d_Mo_isBefore_7 : decode prog_10_method_44_code 7 = .ok (.aload_n 0, 1) := by decide +kernel
theorem d_Mo_isBefore_8 : decode prog_10_method_44_code 8 = .ok (.getfield 20, 3) := by decide +kernel
theorem d_Mo_isBefore_11 : decode prog_10_method_44_code 11 = .ok (.bipush 8, 2) := by decide +kernel
theorem d_Mo_isBefore_13 : decode prog_10_method_44_code 13 = .ok (.iload_n 1, 1) := by decide +kernel
theorem d_Mo_isBefore_14 : decode prog_10_method_44_code 14 = .ok (.imul, 1) := by decide +kernel
theorem d_Mo_isBefore_15 : decode prog_10_method_44_code 15 = .ok (.iload_n 3, 1) := by decide +kernel
theorem d_Mo_isBefore_16 : decode prog_10_method_44_code 16 = .ok (.iadd, 1) := by decide +kernel
theorem d_Mo_isBefore_17 : decode prog_10_method_44_code 17 = .ok (.laload, 1) := by decide +kernel
theorem d_Mo_isBefore_18 : decode prog_10_method_44_code 18 = .ok (.lconst 0, 1) := by decide +kernel
theorem d_Mo_isBefore_19 : decode prog_10_method_44_code 19 = .ok (.lcmp, 1) := by decide +kernel
theorem d_Mo_isBefore_20 : decode prog_10_method_44_code 20 = .ok (.ifCond .ne 9, 3) := by decide +kernel
theorem d_Mo_isBefore_23 : decode prog_10_method_44_code 23 = .ok (.iinc 3 (-1), 3) := by decide +kernel
theorem d_Mo_isBefore_26 : decode prog_10_method_44_code 26 = .ok (.goto (-19), 3) := by decide +kernel
theorem d_Mo_isBefore_29 : decode prog_10_method_44_code 29 = .ok (.aload_n 0, 1) := by decide +kernel
theorem d_Mo_isBefore_30 : decode prog_10_method_44_code 30 = .ok (.getfield 20, 3) := by decide +kernel
theorem d_Mo_isBefore_33 : decode prog_10_method_44_code 33 = .ok (.bipush 8, 2) := by decide +kernel
theorem d_Mo_isBefore_35 : decode prog_10_method_44_code 35 = .ok (.iload_n 2, 1) := by decide +kernel
theorem d_Mo_isBefore_36 : decode prog_10_method_44_code 36 = .ok (.imul, 1) := by decide +kernel
theorem d_Mo_isBefore_37 : decode prog_10_method_44_code 37 = .ok (.iload 4, 2) := by decide +kernel
theorem d_Mo_isBefore_39 : decode prog_10_method_44_code 39 = .ok (.iadd, 1) := by decide +kernel
theorem d_Mo_isBefore_40 : decode prog_10_method_44_code 40 = .ok (.laload, 1) := by decide +kernel
theorem d_Mo_isBefore_41 : decode prog_10_method_44_code 41 = .ok (.lconst 0, 1) := by decide +kernel
theorem d_Mo_isBefore_42 : decode prog_10_method_44_code 42 = .ok (.lcmp, 1) := by decide +kernel
theorem d_Mo_isBefore_43 : decode prog_10_method_44_code 43 = .ok (.ifCond .ne 9, 3) := by decide +kernel
theorem d_Mo_isBefore_46 : decode prog_10_method_44_code 46 = .ok (.iinc 4 (-1), 3) := by decide +kernel
theorem d_Mo_isBefore_49 : decode prog_10_method_44_code 49 = .ok (.goto (-20), 3) := by decide +kernel
theorem d_Mo_isBefore_52 : decode prog_10_method_44_code 52 = .ok (.bipush 7, 2) := by decide +kernel
theorem d_Mo_isBefore_54 : decode prog_10_method_44_code 54 = .ok (.istore 5, 2) := by decide +kernel
theorem d_Mo_isBefore_56 : decode prog_10_method_44_code 56 = .ok (.iload 5, 2) := by decide +kernel
theorem d_Mo_isBefore_58 : decode prog_10_method_44_code 58 = .ok (.ifCond .le 37, 3) := by decide +kernel
theorem d_Mo_isBefore_61 : decode prog_10_method_44_code 61 = .ok (.aload_n 0, 1) := by decide +kernel
theorem d_Mo_isBefore_62 : decode prog_10_method_44_code 62 = .ok (.getfield 20, 3) := by decide +kernel
theorem d_Mo_isBefore_65 : decode prog_10_method_44_code 65 = .ok (.bipush 8, 2) := by decide +kernel
theorem d_Mo_isBefore_67 : decode prog_10_method_44_code 67 = .ok (.iload_n 1, 1) := by decide +kernel
theorem d_Mo_isBefore_68 : decode prog_10_method_44_code 68 = .ok (.imul, 1) := by decide +kernel
theorem d_Mo_isBefore_69 : decode prog_10_method_44_code 69 = .ok (.iload 5, 2) := by decide +kernel
theorem d_Mo_isBefore_71 : decode prog_10_method_44_code 71 = .ok (.iadd, 1) := by decide +kernel
theorem d_Mo_isBefore_72 : decode prog_10_method_44_code 72 = .ok (.laload, 1) := by decide +kernel
theorem d_Mo_isBefore_73 : decode prog_10_method_44_code 73 = .ok (.aload_n 0, 1) := by decide +kernel
theorem d_Mo_isBefore_74 : decode prog_10_method_44_code 74 = .ok (.getfield 20, 3) := by decide +kernel
theorem d_Mo_isBefore_77 : decode prog_10_method_44_code 77 = .ok (.bipush 8, 2) := by decide +kernel
theorem d_Mo_isBefore_79 : decode prog_10_method_44_code 79 = .ok (.iload_n 2, 1) := by decide +kernel
theorem d_Mo_isBefore_80 : decode prog_10_method_44_code 80 = .ok (.imul, 1) := by decide +kernel
theorem d_Mo_isBefore_81 : decode prog_10_method_44_code 81 = .ok (.iload 5, 2) := by decide +kernel
theorem d_Mo_isBefore_83 : decode prog_10_method_44_code 83 = .ok (.iadd, 1) := by decide +kernel
theorem d_Mo_isBefore_84 : decode prog_10_method_44_code 84 = .ok (.laload, 1) := by decide +kernel
theorem d_Mo_isBefore_85 : decode prog_10_method_44_code 85 = .ok (.lcmp, 1) := by decide +kernel
theorem d_Mo_isBefore_86 : decode prog_10_method_44_code 86 = .ok (.ifCond .ne 9, 3) := by decide +kernel
theorem d_Mo_isBefore_89 : decode prog_10_method_44_code 89 = .ok (.iinc 5 (-1), 3) := by decide +kernel
theorem d_Mo_isBefore_92 : decode prog_10_method_44_code 92 = .ok (.goto (-36), 3) := by decide +kernel
theorem d_Mo_isBefore_95 : decode prog_10_method_44_code 95 = .ok (.iload_n 3, 1) := by decide +kernel
theorem d_Mo_isBefore_96 : decode prog_10_method_44_code 96 = .ok (.iload 4, 2) := by decide +kernel
theorem d_Mo_isBefore_98 : decode prog_10_method_44_code 98 = .ok (.if_icmp .lt 37, 3) := by decide +kernel
theorem d_Mo_isBefore_101 : decode prog_10_method_44_code 101 = .ok (.iload_n 3, 1) := by decide +kernel
theorem d_Mo_isBefore_102 : decode prog_10_method_44_code 102 = .ok (.iload 4, 2) := by decide +kernel
theorem d_Mo_isBefore_104 : decode prog_10_method_44_code 104 = .ok (.if_icmp .ne 35, 3) := by decide +kernel
theorem d_Mo_isBefore_107 : decode prog_10_method_44_code 107 = .ok (.aload_n 0, 1) := by decide +kernel
theorem d_Mo_isBefore_108 : decode prog_10_method_44_code 108 = .ok (.getfield 20, 3) := by decide +kernel
theorem d_Mo_isBefore_111 : decode prog_10_method_44_code 111 = .ok (.bipush 8, 2) := by decide +kernel
theorem d_Mo_isBefore_113 : decode prog_10_method_44_code 113 = .ok (.iload_n 1, 1) := by decide +kernel
theorem d_Mo_isBefore_114 : decode prog_10_method_44_code 114 = .ok (.imul, 1) := by decide +kernel
theorem d_Mo_isBefore_115 : decode prog_10_method_44_code 115 = .ok (.iload 5, 2) := by decide +kernel
theorem d_Mo_isBefore_117 : decode prog_10_method_44_code 117 = .ok (.iadd, 1) := by decide +kernel
theorem d_Mo_isBefore_118 : decode prog_10_method_44_code 118 = .ok (.laload, 1) := by decide +kernel
theorem d_Mo_isBefore_119 : decode prog_10_method_44_code 119 = .ok (.aload_n 0, 1) := by decide +kernel
theorem d_Mo_isBefore_120 : decode prog_10_method_44_code 120 = .ok (.getfield 20, 3) := by decide +kernel
theorem d_Mo_isBefore_123 : decode prog_10_method_44_code 123 = .ok (.bipush 8, 2) := by decide +kernel
theorem d_Mo_isBefore_125 : decode prog_10_method_44_code 125 = .ok (.iload_n 2, 1) := by decide +kernel
theorem d_Mo_isBefore_126 : decode prog_10_method_44_code 126 = .ok (.imul, 1) := by decide +kernel
theorem d_Mo_isBefore_127 : decode prog_10_method_44_code 127 = .ok (.iload 5, 2) := by decide +kernel
theorem d_Mo_isBefore_129 : decode prog_10_method_44_code 129 = .ok (.iadd, 1) := by decide +kernel
theorem d_Mo_isBefore_130 : decode prog_10_method_44_code 130 = .ok (.laload, 1) := by decide +kernel
theorem d_Mo_isBefore_131 : decode prog_10_method_44_code 131 = .ok (.lcmp, 1) := by decide +kernel
theorem d_Mo_isBefore_132 : decode prog_10_method_44_code 132 = .ok (.ifCond .ge 7, 3) := by decide +kernel
theorem d_Mo_isBefore_135 : decode prog_10_method_44_code 135 = .ok (.iconst 1, 1) := by decide +kernel
theorem d_Mo_isBefore_136 : decode prog_10_method_44_code 136 = .ok (.goto 4, 3) := by decide +kernel
theorem d_Mo_isBefore_139 : decode prog_10_method_44_code 139 = .ok (.iconst 0, 1) := by decide +kernel
theorem d_Mo_isBefore_140 : decode prog_10_method_44_code 140 = .ok (.ireturn, 1) := by decide +kernel
def J_Mo_isBefore_95 (P : Int32 → Prop) (a1 : Int32) (a2 : Int32) (v3 : Int32) (v4 : Int32) (v5 : Int32) (M : zM) : Prop := (v3 < v4 → narrow .boolean (.int (1 : Int32)) = .int (1 : Int32) ∧ P (1 : Int32)) ∧ (¬ v3 < v4 → (¬ v3 = v4 → narrow .boolean (.int (0 : Int32)) = .int (0 : Int32) ∧ P (0 : Int32)) ∧ (v3 = v4 → vp_in (((8 : Int32) * a1) + v5) (zlong 103) ∧ vp_in (((8 : Int32) * a2) + v5) (zlong 103) ∧ ((M 103 (((8 : Int32) * a2) + v5).toNatClampNeg) ≤ (M 103 (((8 : Int32) * a1) + v5).toNatClampNeg) → narrow .boolean (.int (0 : Int32)) = .int (0 : Int32) ∧ P (0 : Int32)) ∧ (¬ (M 103 (((8 : Int32) * a2) + v5).toNatClampNeg) ≤ (M 103 (((8 : Int32) * a1) + v5).toNatClampNeg) → narrow .boolean (.int (1 : Int32)) = .int (1 : Int32) ∧ P (1 : Int32))))
def B_Mo_isBefore_56 (P : Int32 → Prop) (a1 : Int32) (a2 : Int32) (v3 : Int32) (v4 : Int32) (M : zM) (k56 : Int32 → Prop) (v5 : Int32) : Prop := (v5 ≤ 0 → J_Mo_isBefore_95 P a1 a2 v3 v4 v5 M) ∧ (¬ v5 ≤ 0 → vp_in (((8 : Int32) * a1) + v5) (zlong 103) ∧ vp_in (((8 : Int32) * a2) + v5) (zlong 103) ∧ (¬ (M 103 (((8 : Int32) * a1) + v5).toNatClampNeg) = (M 103 (((8 : Int32) * a2) + v5).toNatClampNeg) → J_Mo_isBefore_95 P a1 a2 v3 v4 v5 M) ∧ ((M 103 (((8 : Int32) * a1) + v5).toNatClampNeg) = (M 103 (((8 : Int32) * a2) + v5).toNatClampNeg) → k56 (v5 + (-1 : Int32))))
def L_Mo_isBefore_56 (P : Int32 → Prop) (a1 : Int32) (a2 : Int32) (v3 : Int32) (v4 : Int32) (M : zM) (n : Nat) : Int32 → Prop := Nat.rec (fun _ => False) (fun _ k => B_Mo_isBefore_56 P a1 a2 v3 v4 M k) n
def B_Mo_isBefore_29 (P : Int32 → Prop) (a1 : Int32) (a2 : Int32) (v3 : Int32) (M : zM) (k29 : Int32 → Prop) (v4 : Int32) : Prop := vp_in (((8 : Int32) * a2) + v4) (zlong 103) ∧ (¬ (M 103 (((8 : Int32) * a2) + v4).toNatClampNeg) = (0 : Int64) → ∃ n, L_Mo_isBefore_56 P a1 a2 v3 v4 M n (7 : Int32)) ∧ ((M 103 (((8 : Int32) * a2) + v4).toNatClampNeg) = (0 : Int64) → k29 (v4 + (-1 : Int32)))
def L_Mo_isBefore_29 (P : Int32 → Prop) (a1 : Int32) (a2 : Int32) (v3 : Int32) (M : zM) (n : Nat) : Int32 → Prop := Nat.rec (fun _ => False) (fun _ k => B_Mo_isBefore_29 P a1 a2 v3 M k) n
def B_Mo_isBefore_7 (P : Int32 → Prop) (a1 : Int32) (a2 : Int32) (v4 : Int32) (M : zM) (k7 : Int32 → Prop) (v3 : Int32) : Prop := vp_in (((8 : Int32) * a1) + v3) (zlong 103) ∧ (¬ (M 103 (((8 : Int32) * a1) + v3).toNatClampNeg) = (0 : Int64) → ∃ n, L_Mo_isBefore_29 P a1 a2 v3 M n v4) ∧ ((M 103 (((8 : Int32) * a1) + v3).toNatClampNeg) = (0 : Int64) → k7 (v3 + (-1 : Int32)))
def L_Mo_isBefore_7 (P : Int32 → Prop) (a1 : Int32) (a2 : Int32) (v4 : Int32) (M : zM) (n : Nat) : Int32 → Prop := Nat.rec (fun _ => False) (fun _ k => B_Mo_isBefore_7 P a1 a2 v4 M k) n
def w_Mo_isBefore (a1 : Int32) (a2 : Int32) (M : zM) (P : Int32 → Prop) : Prop := ∃ n, L_Mo_isBefore_7 P a1 a2 (7 : Int32) M n (7 : Int32)
def ws_Mo_isBefore : List Cond := .code y_Mo_isBefore prog_10_method_44_code 6 (Option.some Jvm.ClassFile.FieldType.boolean) :: zall
def rm_Mo_isBefore : Room := { frames := 0, cells := 0, slots := 0, locals := 0 }
theorem hd_Mo_isBefore : y_Mo_isBefore.cls ≠ "java/lang/invoke/MethodHandle" ∧ y_Mo_isBefore.cls ≠ "java/lang/invoke/VarHandle" ∧ (parseMethodDescriptor y_Mo_isBefore.desc).map (fun d => d.parameters.length) = some 2 := by decide +kernel
set_option maxHeartbeats 4000000 in
set_option maxRecDepth 100000 in
theorem c_Mo_isBefore (l : Launch) (G : zG) (b : Nat) (a1 : Int32) (a2 : Int32) (M : zM) (N : zN) {P : Int32 → Prop} (hw : w_Mo_isBefore a1 a2 M P) : Met l y_Mo_isBefore ws_Mo_isBefore rm_Mo_isBefore (zPc G b M N [.ref (b + 99), .int a1, .int a2]) (zQi G b (fun r M' N' => P r ∧ M' = M ∧ N' = N)) 0 0 (zA b) := by
  refine Met.ofW (cc := prog_10_method_44_code) (maxL := 6) (ret := (Option.some Jvm.ClassFile.FieldType.boolean)) (by decide) rfl ?_
  intro p e s m args below meth c s₁ B hml hv
  obtain ⟨rfl, hZ, hK, hT⟩ := hv
  have hx := B.exec
  have hb := B.bytes
  have hr := B.returns
  have hts := atoms_spec (ws := ws_Mo_isBefore) B.pre
  have hta : ∀ w ∈ zall, w.before ([.ref (b + 99), .int a1, .int a2] : List Value).toArray s = true := fun w h => hts w (List.mem_cons_of_mem _ h)
  have hown : s.vm.findClass R_Mo = some m.cls := findClass_of_methodNamed B.named
  have hlocks := B.notSynchronized
  have hS : va_S (zA b) s.heap s.heap [] := va_S.rf
  have hl := lv_entry ([.ref (b + 99), .int a1, .int a2]) (n := 6) (Nat.le_of_ble_eq_true rfl)
  rw [lg_entry_eq]
  generalize (lg_sl ([.ref (b + 99), .int a1, .int a2]) ++ List.replicate (6 - (lg_sl ([.ref (b + 99), .int a1, .int a2])).length) Slot.unset).toArray = ls at hl ⊢
  have hl : lv_has ls 6 [(0, .ref (b + 99)), (1, .int a1), (2, .int a2)] := hl
  have j95 : ∀ (v3 : Int32) (v4 : Int32) (v5 : Int32) (H : Heap) (ls : Array Slot) (locs : List Loc), va_P G.1 zCl (zws G b M N) H → va_S (zA b) s.heap H locs → lv_has ls 6 [(0, .ref (b + 99)), (1, .int a1), (2, .int a2), (3, .int v3), (4, .int v4), (5, .int v5)] → J_Mo_isBefore_95 P a1 a2 v3 v4 v5 M → W p l e (headSpec ws_Mo_isBefore rm_Mo_isBefore).room s m ([.ref (b + 99), .int a1, .int a2] : List Value).toArray below meth c H locs 0 0 (MQ below (zQi G b (fun r M' N' => P r ∧ M' = M ∧ N' = N)) ([.ref (b + 99), .int a1, .int a2] : List Value).toArray s 0 0 (zA b)) (F0 m 95 ls []) := by
    intro v3 v4 v5 H ls locs hZ hS hl hw
    unfold J_Mo_isBefore_95 at hw
    refine lv_iload_n (pc := 95) hx hb d_Mo_isBefore_95 rfl (lv_at hl 3 rfl) ?_
    refine lv_iload (pc := 96) hx hb d_Mo_isBefore_96 (lv_at hl 4 rfl) ?_
    refine lv_icmp_lt (pc := 98) (tgt := 135) hx hb d_Mo_isBefore_98 (by decide) (fun hc => ?_) (fun hc => ?_)
    · have hw := hw.1 hc
      refine lv_iconst (pc := 135) (v := 1) hx hb d_Mo_isBefore_135 (by decide) ?_
      refine lv_goto (pc := 136) (tgt := 140) hx hb d_Mo_isBefore_136 (by decide) ?_
      exact z_zret hx hb hr hlocks hK hT hZ hS ⟨hw.1, ⟨hw.2, rfl, rfl⟩⟩ d_Mo_isBefore_140
    · have hw := hw.2 hc
      refine lv_iload_n (pc := 101) hx hb d_Mo_isBefore_101 rfl (lv_at hl 3 rfl) ?_
      refine lv_iload (pc := 102) hx hb d_Mo_isBefore_102 (lv_at hl 4 rfl) ?_
      refine lv_icmp_ne (pc := 104) (tgt := 139) hx hb d_Mo_isBefore_104 (by decide) (fun hc => ?_) (fun hc => ?_)
      · have hw := hw.1 hc
        refine lv_iconst (pc := 139) (v := 0) hx hb d_Mo_isBefore_139 (by decide) ?_
        exact z_zret hx hb hr hlocks hK hT hZ hS ⟨hw.1, ⟨hw.2, rfl, rfl⟩⟩ d_Mo_isBefore_140
      · have hw := hw.2 hc
        refine lv_aload_n (pc := 107) hx hb d_Mo_isBefore_107 rfl (lv_at hl 0 rfl) ?_
        refine zg_Mo_20 (pc := 108) hx hb hta hown hK hZ d_Mo_isBefore_108 ?_
        refine lv_bipush (pc := 111) (v := 8) hx hb d_Mo_isBefore_111 (by decide) ?_
        refine lv_iload_n (pc := 113) hx hb d_Mo_isBefore_113 rfl (lv_at hl 1 rfl) ?_
        refine lv_imul (pc := 114) hx hb d_Mo_isBefore_114 ?_
        refine lv_iload (pc := 115) hx hb d_Mo_isBefore_115 (lv_at hl 5 rfl) ?_
        refine lv_iadd (pc := 117) hx hb d_Mo_isBefore_117 ?_
        obtain ⟨hc, hw⟩ := hw
        refine z_lald (pc := 118) hx hb hK hZ hc d_Mo_isBefore_118 ?_
        refine lv_aload_n (pc := 119) hx hb d_Mo_isBefore_119 rfl (lv_at hl 0 rfl) ?_
        refine zg_Mo_20 (pc := 120) hx hb hta hown hK hZ d_Mo_isBefore_120 ?_
        refine lv_bipush (pc := 123) (v := 8) hx hb d_Mo_isBefore_123 (by decide) ?_
        refine lv_iload_n (pc := 125) hx hb d_Mo_isBefore_125 rfl (lv_at hl 2 rfl) ?_
        refine lv_imul (pc := 126) hx hb d_Mo_isBefore_126 ?_
        refine lv_iload (pc := 127) hx hb d_Mo_isBefore_127 (lv_at hl 5 rfl) ?_
        refine lv_iadd (pc := 129) hx hb d_Mo_isBefore_129 ?_
        obtain ⟨hc, hw⟩ := hw
        refine z_lald (pc := 130) hx hb hK hZ hc d_Mo_isBefore_130 ?_
        refine z_lc_ge (pc := 131) (tgt := 139) hx hb d_Mo_isBefore_131 d_Mo_isBefore_132 (by decide) (fun hc => ?_) (fun hc => ?_)
        · have hw := hw.1 hc
          refine lv_iconst (pc := 139) (v := 0) hx hb d_Mo_isBefore_139 (by decide) ?_
          exact z_zret hx hb hr hlocks hK hT hZ hS ⟨hw.1, ⟨hw.2, rfl, rfl⟩⟩ d_Mo_isBefore_140
        · have hw := hw.2 hc
          refine lv_iconst (pc := 135) (v := 1) hx hb d_Mo_isBefore_135 (by decide) ?_
          refine lv_goto (pc := 136) (tgt := 140) hx hb d_Mo_isBefore_136 (by decide) ?_
          exact z_zret hx hb hr hlocks hK hT hZ hS ⟨hw.1, ⟨hw.2, rfl, rfl⟩⟩ d_Mo_isBefore_140
  have lp56 : ∀ (v3 : Int32) (v4 : Int32) (n : Nat) (v5 : Int32) (H : Heap) (ls : Array Slot) (locs : List Loc), va_P G.1 zCl (zws G b M N) H → va_S (zA b) s.heap H locs → lv_has ls 6 [(0, .ref (b + 99)), (1, .int a1), (2, .int a2), (3, .int v3), (4, .int v4), (5, .int v5)] → L_Mo_isBefore_56 P a1 a2 v3 v4 M n v5 → W p l e (headSpec ws_Mo_isBefore rm_Mo_isBefore).room s m ([.ref (b + 99), .int a1, .int a2] : List Value).toArray below meth c H locs 0 0 (MQ below (zQi G b (fun r M' N' => P r ∧ M' = M ∧ N' = N)) ([.ref (b + 99), .int a1, .int a2] : List Value).toArray s 0 0 (zA b)) (F0 m 56 ls []) := by
    intro v3 v4 n
    induction n with
    | zero => intro v5 H ls locs hZ hS hl hw; exact False.elim hw
    | succ n56 ih56 =>
      intro v5 H ls locs hZ hS hl hw
      have hw : B_Mo_isBefore_56 P a1 a2 v3 v4 M (L_Mo_isBefore_56 P a1 a2 v3 v4 M n56) v5 := hw
      unfold B_Mo_isBefore_56 at hw
      refine lv_iload (pc := 56) hx hb d_Mo_isBefore_56 (lv_at hl 5 rfl) ?_
      refine lv_if_le (pc := 58) (tgt := 95) hx hb d_Mo_isBefore_58 (by decide) (fun hc => ?_) (fun hc => ?_)
      · have hw := hw.1 hc
        exact j95 v3 v4 v5 _ _ _ hZ hS hl hw
      · have hw := hw.2 hc
        refine lv_aload_n (pc := 61) hx hb d_Mo_isBefore_61 rfl (lv_at hl 0 rfl) ?_
        refine zg_Mo_20 (pc := 62) hx hb hta hown hK hZ d_Mo_isBefore_62 ?_
        refine lv_bipush (pc := 65) (v := 8) hx hb d_Mo_isBefore_65 (by decide) ?_
        refine lv_iload_n (pc := 67) hx hb d_Mo_isBefore_67 rfl (lv_at hl 1 rfl) ?_
        refine lv_imul (pc := 68) hx hb d_Mo_isBefore_68 ?_
        refine lv_iload (pc := 69) hx hb d_Mo_isBefore_69 (lv_at hl 5 rfl) ?_
        refine lv_iadd (pc := 71) hx hb d_Mo_isBefore_71 ?_
        obtain ⟨hc, hw⟩ := hw
        refine z_lald (pc := 72) hx hb hK hZ hc d_Mo_isBefore_72 ?_
        refine lv_aload_n (pc := 73) hx hb d_Mo_isBefore_73 rfl (lv_at hl 0 rfl) ?_
        refine zg_Mo_20 (pc := 74) hx hb hta hown hK hZ d_Mo_isBefore_74 ?_
        refine lv_bipush (pc := 77) (v := 8) hx hb d_Mo_isBefore_77 (by decide) ?_
        refine lv_iload_n (pc := 79) hx hb d_Mo_isBefore_79 rfl (lv_at hl 2 rfl) ?_
        refine lv_imul (pc := 80) hx hb d_Mo_isBefore_80 ?_
        refine lv_iload (pc := 81) hx hb d_Mo_isBefore_81 (lv_at hl 5 rfl) ?_
        refine lv_iadd (pc := 83) hx hb d_Mo_isBefore_83 ?_
        obtain ⟨hc, hw⟩ := hw
        refine z_lald (pc := 84) hx hb hK hZ hc d_Mo_isBefore_84 ?_
        refine z_lc_ne (pc := 85) (tgt := 95) hx hb d_Mo_isBefore_85 d_Mo_isBefore_86 (by decide) (fun hc => ?_) (fun hc => ?_)
        · have hw := hw.1 hc
          exact j95 v3 v4 v5 _ _ _ hZ hS hl hw
        · have hw := hw.2 hc
          refine lv_iinc (pc := 89) (k := 5) (v := v5 + (-1 : Int32)) (lv' := [(5, .int (v5 + (-1 : Int32))), (0, .ref (b + 99)), (1, .int a1), (2, .int a2), (3, .int v3), (4, .int v4)]) hx hb d_Mo_isBefore_89 hl rfl (by rfl) (by decide) rfl (fun ls hl => ?_)
          refine lv_goto (pc := 92) (tgt := 56) hx hb d_Mo_isBefore_92 (by decide) ?_
          exact ih56 (v5 + (-1 : Int32)) _ _ _ hZ hS (lv_sub hl [1, 2, 3, 4, 5, 0] rfl) hw
  have lp29 : ∀ (v3 : Int32) (n : Nat) (v4 : Int32) (H : Heap) (ls : Array Slot) (locs : List Loc), va_P G.1 zCl (zws G b M N) H → va_S (zA b) s.heap H locs → lv_has ls 6 [(0, .ref (b + 99)), (1, .int a1), (2, .int a2), (3, .int v3), (4, .int v4)] → L_Mo_isBefore_29 P a1 a2 v3 M n v4 → W p l e (headSpec ws_Mo_isBefore rm_Mo_isBefore).room s m ([.ref (b + 99), .int a1, .int a2] : List Value).toArray below meth c H locs 0 0 (MQ below (zQi G b (fun r M' N' => P r ∧ M' = M ∧ N' = N)) ([.ref (b + 99), .int a1, .int a2] : List Value).toArray s 0 0 (zA b)) (F0 m 29 ls []) := by
    intro v3 n
    induction n with
    | zero => intro v4 H ls locs hZ hS hl hw; exact False.elim hw
    | succ n29 ih29 =>
      intro v4 H ls locs hZ hS hl hw
      have hw : B_Mo_isBefore_29 P a1 a2 v3 M (L_Mo_isBefore_29 P a1 a2 v3 M n29) v4 := hw
      unfold B_Mo_isBefore_29 at hw
      refine lv_aload_n (pc := 29) hx hb d_Mo_isBefore_29 rfl (lv_at hl 0 rfl) ?_
      refine zg_Mo_20 (pc := 30) hx hb hta hown hK hZ d_Mo_isBefore_30 ?_
      refine lv_bipush (pc := 33) (v := 8) hx hb d_Mo_isBefore_33 (by decide) ?_
      refine lv_iload_n (pc := 35) hx hb d_Mo_isBefore_35 rfl (lv_at hl 2 rfl) ?_
      refine lv_imul (pc := 36) hx hb d_Mo_isBefore_36 ?_
      refine lv_iload (pc := 37) hx hb d_Mo_isBefore_37 (lv_at hl 4 rfl) ?_
      refine lv_iadd (pc := 39) hx hb d_Mo_isBefore_39 ?_
      obtain ⟨hc, hw⟩ := hw
      refine z_lald (pc := 40) hx hb hK hZ hc d_Mo_isBefore_40 ?_
      refine lv_lconst (pc := 41) (v := 0) hx hb d_Mo_isBefore_41 (by decide) ?_
      refine z_lc_ne (pc := 42) (tgt := 52) hx hb d_Mo_isBefore_42 d_Mo_isBefore_43 (by decide) (fun hc => ?_) (fun hc => ?_)
      · have hw := hw.1 hc
        refine lv_bipush (pc := 52) (v := 7) hx hb d_Mo_isBefore_52 (by decide) ?_
        refine lv_istore (pc := 54) (lv' := [(5, .int (7 : Int32)), (0, .ref (b + 99)), (1, .int a1), (2, .int a2), (3, .int v3), (4, .int v4)]) hx hb d_Mo_isBefore_54 hl (by decide) rfl (fun ls hl => ?_)
        obtain ⟨n, hw⟩ := hw
        exact lp56 v3 v4 n (7 : Int32) _ _ _ hZ hS (lv_sub hl [1, 2, 3, 4, 5, 0] rfl) hw
      · have hw := hw.2 hc
        refine lv_iinc (pc := 46) (k := 4) (v := v4 + (-1 : Int32)) (lv' := [(4, .int (v4 + (-1 : Int32))), (0, .ref (b + 99)), (1, .int a1), (2, .int a2), (3, .int v3)]) hx hb d_Mo_isBefore_46 hl rfl (by rfl) (by decide) rfl (fun ls hl => ?_)
        refine lv_goto (pc := 49) (tgt := 29) hx hb d_Mo_isBefore_49 (by decide) ?_
        exact ih29 (v4 + (-1 : Int32)) _ _ _ hZ hS (lv_sub hl [1, 2, 3, 4, 0] rfl) hw
  have lp7 : ∀ (v4 : Int32) (n : Nat) (v3 : Int32) (H : Heap) (ls : Array Slot) (locs : List Loc), va_P G.1 zCl (zws G b M N) H → va_S (zA b) s.heap H locs → lv_has ls 6 [(0, .ref (b + 99)), (1, .int a1), (2, .int a2), (3, .int v3), (4, .int v4)] → L_Mo_isBefore_7 P a1 a2 v4 M n v3 → W p l e (headSpec ws_Mo_isBefore rm_Mo_isBefore).room s m ([.ref (b + 99), .int a1, .int a2] : List Value).toArray below meth c H locs 0 0 (MQ below (zQi G b (fun r M' N' => P r ∧ M' = M ∧ N' = N)) ([.ref (b + 99), .int a1, .int a2] : List Value).toArray s 0 0 (zA b)) (F0 m 7 ls []) := by
    intro v4 n
    induction n with
    | zero => intro v3 H ls locs hZ hS hl hw; exact False.elim hw
    | succ n7 ih7 =>
      intro v3 H ls locs hZ hS hl hw
      have hw : B_Mo_isBefore_7 P a1 a2 v4 M (L_Mo_isBefore_7 P a1 a2 v4 M n7) v3 := hw
      unfold B_Mo_isBefore_7 at hw
      refine lv_aload_n (pc := 7) hx hb d_Mo_isBefore_7 rfl (lv_at hl 0 rfl) ?_
      refine zg_Mo_20 (pc := 8) hx hb hta hown hK hZ d_Mo_isBefore_8 ?_
      refine lv_bipush (pc := 11) (v := 8) hx hb d_Mo_isBefore_11 (by decide) ?_
      refine lv_iload_n (pc := 13) hx hb d_Mo_isBefore_13 rfl (lv_at hl 1 rfl) ?_
      refine lv_imul (pc := 14) hx hb d_Mo_isBefore_14 ?_
      refine lv_iload_n (pc := 15) hx hb d_Mo_isBefore_15 rfl (lv_at hl 3 rfl) ?_
      refine lv_iadd (pc := 16) hx hb d_Mo_isBefore_16 ?_
      obtain ⟨hc, hw⟩ := hw
      refine z_lald (pc := 17) hx hb hK hZ hc d_Mo_isBefore_17 ?_
      refine lv_lconst (pc := 18) (v := 0) hx hb d_Mo_isBefore_18 (by decide) ?_
      refine z_lc_ne (pc := 19) (tgt := 29) hx hb d_Mo_isBefore_19 d_Mo_isBefore_20 (by decide) (fun hc => ?_) (fun hc => ?_)
      · have hw := hw.1 hc
        obtain ⟨n, hw⟩ := hw
        exact lp29 v3 n v4 _ _ _ hZ hS hl hw
      · have hw := hw.2 hc
        refine lv_iinc (pc := 23) (k := 3) (v := v3 + (-1 : Int32)) (lv' := [(3, .int (v3 + (-1 : Int32))), (0, .ref (b + 99)), (1, .int a1), (2, .int a2), (4, .int v4)]) hx hb d_Mo_isBefore_23 hl rfl (by rfl) (by decide) rfl (fun ls hl => ?_)
        refine lv_goto (pc := 26) (tgt := 7) hx hb d_Mo_isBefore_26 (by decide) ?_
        exact ih7 (v3 + (-1 : Int32)) _ _ _ hZ hS (lv_sub hl [1, 2, 3, 0, 4] rfl) hw
  unfold w_Mo_isBefore at hw
  refine lv_bipush (pc := 0) (v := 7) hx hb d_Mo_isBefore_0 (by decide) ?_
  refine lv_istore_n (pc := 2) (lv' := [(3, .int (7 : Int32)), (0, .ref (b + 99)), (1, .int a1), (2, .int a2)]) hx hb d_Mo_isBefore_2 rfl hl (by decide) rfl (fun ls hl => ?_)
  refine lv_bipush (pc := 3) (v := 7) hx hb d_Mo_isBefore_3 (by decide) ?_
  refine lv_istore (pc := 5) (lv' := [(4, .int (7 : Int32)), (3, .int (7 : Int32)), (0, .ref (b + 99)), (1, .int a1), (2, .int a2)]) hx hb d_Mo_isBefore_5 hl (by decide) rfl (fun ls hl => ?_)
  obtain ⟨n, hw⟩ := hw
  exact lp7 (7 : Int32) n (7 : Int32) _ _ _ hZ hS (lv_sub hl [2, 3, 4, 1, 0] rfl) hw
theorem wsel37 : Cond.selects R_Mo y_Mo_isBefore y_Mo_isBefore ∈ zall := List.mem_filter.mpr ⟨List.mem_append_left _ (List.mem_of_getElem? (i := 37) rfl), by decide +kernel⟩
theorem d_Mo_sort_0 : decode prog_10_method_45_code 0 = .ok (.iconst 0, 1) := by decide +kernel
theorem d_Mo_sort_1 : decode prog_10_method_45_code 1 = .ok (.istore_n 1, 1) := by decide +kernel
theorem d_Mo_sort_2 : decode prog_10_method_45_code 2 = .ok (.iload_n 1, 1) := by decide +kernel
theorem d_Mo_sort_3 : decode prog_10_method_45_code 3 = .ok (.aload_n 0, 1) := by decide +kernel
theorem d_Mo_sort_4 : decode prog_10_method_45_code 4 = .ok (.getfield 186, 3) := by decide +kernel
theorem d_Mo_sort_7 : decode prog_10_method_45_code 7 = .ok (.if_icmp .ge 100, 3) := by decide +kernel
theorem d_Mo_sort_10 : decode prog_10_method_45_code 10 = .ok (.iload_n 1, 1) := by decide +kernel
theorem d_Mo_sort_11 : decode prog_10_method_45_code 11 = .ok (.istore_n 2, 1) := by decide +kernel
theorem d_Mo_sort_12 : decode prog_10_method_45_code 12 = .ok (.iload_n 2, 1) := by decide +kernel
theorem d_Mo_sort_13 : decode prog_10_method_45_code 13 = .ok (.ifCond .le 88, 3) := by decide +kernel
theorem d_Mo_sort_16 : decode prog_10_method_45_code 16 = .ok (.aload_n 0, 1) := by decide +kernel
theorem d_Mo_sort_17 : decode prog_10_method_45_code 17 = .ok (.iload_n 2, 1) := by decide +kernel
theorem d_Mo_sort_18 : decode prog_10_method_45_code 18 = .ok (.iload_n 2, 1) := by decide +kernel
theorem d_Mo_sort_19 : decode prog_10_method_45_code 19 = .ok (.iconst 1, 1) := by decide +kernel
theorem d_Mo_sort_20 : decode prog_10_method_45_code 20 = .ok (.isub, 1) := by decide +kernel
theorem d_Mo_sort_21 : decode prog_10_method_45_code 21 = .ok (.invokevirtual 211, 3) := by decide +kernel
theorem d_Mo_sort_24 : decode prog_10_method_45_code 24 = .ok (.ifCond .eq 77, 3) := by decide +kernel
theorem d_Mo_sort_27 : decode prog_10_method_45_code 27 = .ok (.iconst 0, 1) := by decide +kernel
theorem d_Mo_sort_28 : decode prog_10_method_45_code 28 = .ok (.istore_n 3, 1) := by decide +kernel
theorem d_Mo_sort_29 : decode prog_10_method_45_code 29 = .ok (.iload_n 3, 1) := by decide +kernel
theorem d_Mo_sort_30 : decode prog_10_method_45_code 30 = .ok (.bipush 8, 2) := by decide +kernel
theorem d_Mo_sort_32 : decode prog_10_method_45_code 32 = .ok (.if_icmp .ge 63, 3) := by decide +kernel
theorem d_Mo_sort_35 : decode prog_10_method_45_code 35 = .ok (.aload_n 0, 1) := by decide +kernel
theorem d_Mo_sort_36 : decode prog_10_method_45_code 36 = .ok (.getfield 20, 3) := by decide +kernel
theorem d_Mo_sort_39 : decode prog_10_method_45_code 39 = .ok (.bipush 8, 2) := by decide +kernel
theorem d_Mo_sort_41 : decode prog_10_method_45_code 41 = .ok (.iload_n 2, 1) := by decide +kernel
theorem d_Mo_sort_42 : decode prog_10_method_45_code 42 = .ok (.imul, 1) := by decide +kernel
theorem d_Mo_sort_43 : decode prog_10_method_45_code 43 = .ok (.iload_n 3, 1) := by decide +kernel
theorem d_Mo_sort_44 : decode prog_10_method_45_code 44 = .ok (.iadd, 1) := by decide +kernel
theorem d_Mo_sort_45 : decode prog_10_method_45_code 45 = .ok (.laload, 1) := by decide +kernel
theorem d_Mo_sort_46 : decode prog_10_method_45_code 46 = .ok (.lstore 4, 2) := by decide +kernel
theorem d_Mo_sort_48 : decode prog_10_method_45_code 48 = .ok (.aload_n 0, 1) := by decide +kernel
theorem d_Mo_sort_49 : decode prog_10_method_45_code 49 = .ok (.getfield 20, 3) := by decide +kernel
theorem d_Mo_sort_52 : decode prog_10_method_45_code 52 = .ok (.bipush 8, 2) := by decide +kernel
theorem d_Mo_sort_54 : decode prog_10_method_45_code 54 = .ok (.iload_n 2, 1) := by decide +kernel
theorem d_Mo_sort_55 : decode prog_10_method_45_code 55 = .ok (.imul, 1) := by decide +kernel
theorem d_Mo_sort_56 : decode prog_10_method_45_code 56 = .ok (.iload_n 3, 1) := by decide +kernel
theorem d_Mo_sort_57 : decode prog_10_method_45_code 57 = .ok (.iadd, 1) := by decide +kernel
theorem d_Mo_sort_58 : decode prog_10_method_45_code 58 = .ok (.aload_n 0, 1) := by decide +kernel
theorem d_Mo_sort_59 : decode prog_10_method_45_code 59 = .ok (.getfield 20, 3) := by decide +kernel
theorem d_Mo_sort_62 : decode prog_10_method_45_code 62 = .ok (.bipush 8, 2) := by decide +kernel
theorem d_Mo_sort_64 : decode prog_10_method_45_code 64 = .ok (.iload_n 2, 1) := by decide +kernel
theorem d_Mo_sort_65 : decode prog_10_method_45_code 65 = .ok (.imul, 1) := by decide +kernel
theorem d_Mo_sort_66 : decode prog_10_method_45_code 66 = .ok (.bipush 8, 2) := by decide +kernel
theorem d_Mo_sort_68 : decode prog_10_method_45_code 68 = .ok (.isub, 1) := by decide +kernel
theorem d_Mo_sort_69 : decode prog_10_method_45_code 69 = .ok (.iload_n 3, 1) := by decide +kernel
theorem d_Mo_sort_70 : decode prog_10_method_45_code 70 = .ok (.iadd, 1) := by decide +kernel
theorem d_Mo_sort_71 : decode prog_10_method_45_code 71 = .ok (.laload, 1) := by decide +kernel
theorem d_Mo_sort_72 : decode prog_10_method_45_code 72 = .ok (.lastore, 1) := by decide +kernel
theorem d_Mo_sort_73 : decode prog_10_method_45_code 73 = .ok (.aload_n 0, 1) := by decide +kernel
theorem d_Mo_sort_74 : decode prog_10_method_45_code 74 = .ok (.getfield 20, 3) := by decide +kernel
theorem d_Mo_sort_77 : decode prog_10_method_45_code 77 = .ok (.bipush 8, 2) := by decide +kernel
theorem d_Mo_sort_79 : decode prog_10_method_45_code 79 = .ok (.iload_n 2, 1) := by decide +kernel
theorem d_Mo_sort_80 : decode prog_10_method_45_code 80 = .ok (.imul, 1) := by decide +kernel
theorem d_Mo_sort_81 : decode prog_10_method_45_code 81 = .ok (.bipush 8, 2) := by decide +kernel
theorem d_Mo_sort_83 : decode prog_10_method_45_code 83 = .ok (.isub, 1) := by decide +kernel
theorem d_Mo_sort_84 : decode prog_10_method_45_code 84 = .ok (.iload_n 3, 1) := by decide +kernel
theorem d_Mo_sort_85 : decode prog_10_method_45_code 85 = .ok (.iadd, 1) := by decide +kernel
theorem d_Mo_sort_86 : decode prog_10_method_45_code 86 = .ok (.lload 4, 2) := by decide +kernel
theorem d_Mo_sort_88 : decode prog_10_method_45_code 88 = .ok (.lastore, 1) := by decide +kernel
theorem d_Mo_sort_89 : decode prog_10_method_45_code 89 = .ok (.iinc 3 1, 3) := by decide +kernel
theorem d_Mo_sort_92 : decode prog_10_method_45_code 92 = .ok (.goto (-63), 3) := by decide +kernel
theorem d_Mo_sort_95 : decode prog_10_method_45_code 95 = .ok (.iinc 2 (-1), 3) := by decide +kernel
theorem d_Mo_sort_98 : decode prog_10_method_45_code 98 = .ok (.goto (-86), 3) := by decide +kernel
theorem d_Mo_sort_101 : decode prog_10_method_45_code 101 = .ok (.iinc 1 1, 3) := by decide +kernel
theorem d_Mo_sort_104 : decode prog_10_method_45_code 104 = .ok (.goto (-102), 3) := by decide +kernel
theorem d_Mo_sort_107 : decode prog_10_method_45_code 107 = .ok (.return_, 1) := by decide +kernel
def B_Mo_sort_29 (P : zM → Prop) (k12 : Int32 → zM → Prop) (v1 : Int32) (v2 : Int32) (N : zN) (k29 : Int32 → zM → Prop) (v3 : Int32) (M : zM) : Prop := ((8 : Int32) ≤ v3 → k12 (v2 + (-1 : Int32)) M) ∧ (¬ (8 : Int32) ≤ v3 → vp_in (((8 : Int32) * v2) + v3) (zlong 103) ∧ ∀ x4 : Int64, x4 = M 103 (((8 : Int32) * v2) + v3).toNatClampNeg → vp_in ((((8 : Int32) * v2) - (8 : Int32)) + v3) (zlong 103) ∧ vp_in (((8 : Int32) * v2) + v3) (zlong 103) ∧ ∀ M5 : zM, M5 = zput M 103 (((8 : Int32) * v2) + v3).toNatClampNeg (M 103 ((((8 : Int32) * v2) - (8 : Int32)) + v3).toNatClampNeg) → vp_in ((((8 : Int32) * v2) - (8 : Int32)) + v3) (zlong 103) ∧ ∀ M6 : zM, M6 = zput M5 103 ((((8 : Int32) * v2) - (8 : Int32)) + v3).toNatClampNeg x4 → k29 (v3 + (1 : Int32)) M6)
def L_Mo_sort_29 (P : zM → Prop) (k12 : Int32 → zM → Prop) (v1 : Int32) (v2 : Int32) (N : zN) (n : Nat) : Int32 → zM → Prop := Nat.rec (fun _ _ => False) (fun _ k => B_Mo_sort_29 P k12 v1 v2 N k) n
def B_Mo_sort_12 (P : zM → Prop) (k2 : Int32 → zM → Prop) (v1 : Int32) (N : zN) (k12 : Int32 → zM → Prop) (v2 : Int32) (M : zM) : Prop := (v2 ≤ 0 → k2 (v1 + (1 : Int32)) M) ∧ (¬ v2 ≤ 0 → w_Mo_isBefore v2 (v2 - (1 : Int32)) M (fun r1 => (r1 = 0 → k2 (v1 + (1 : Int32)) M) ∧ (¬ r1 = 0 → ∃ n, L_Mo_sort_29 P k12 v1 v2 N n (0 : Int32) M)))
def L_Mo_sort_12 (P : zM → Prop) (k2 : Int32 → zM → Prop) (v1 : Int32) (N : zN) (n : Nat) : Int32 → zM → Prop := Nat.rec (fun _ _ => False) (fun _ k => B_Mo_sort_12 P k2 v1 N k) n
def B_Mo_sort_2 (P : zM → Prop) (N : zN) (k2 : Int32 → zM → Prop) (v1 : Int32) (M : zM) : Prop := ((N 99 6) ≤ v1 → P M) ∧ (¬ (N 99 6) ≤ v1 → ∃ n, L_Mo_sort_12 P k2 v1 N n v1 M)
def L_Mo_sort_2 (P : zM → Prop) (N : zN) (n : Nat) : Int32 → zM → Prop := Nat.rec (fun _ _ => False) (fun _ k => B_Mo_sort_2 P N k) n
def w_Mo_sort  (M : zM) (N : zN) (P : zM → Prop) : Prop := ∃ n, L_Mo_sort_2 P N n (0 : Int32) M
def ws_Mo_sort : List Cond := .code y_Mo_sort prog_10_method_45_code 6 (Option.none : Option Jvm.ClassFile.FieldType) :: zall
def rm_Mo_sort : Room := { frames := 1, cells := 0, slots := 0, locals := 25 }
theorem hd_Mo_sort : y_Mo_sort.cls ≠ "java/lang/invoke/MethodHandle" ∧ y_Mo_sort.cls ≠ "java/lang/invoke/VarHandle" ∧ (parseMethodDescriptor y_Mo_sort.desc).map (fun d => d.parameters.length) = some 0 := by decide +kernel
set_option maxHeartbeats 4000000 in
set_option maxRecDepth 100000 in
theorem c_Mo_sort (l : Launch) (G : zG) (b : Nat)  (M : zM) (N : zN) {P : zM → Prop} (hw : w_Mo_sort  M N P) : Met l y_Mo_sort ws_Mo_sort rm_Mo_sort (zPc G b M N [.ref (b + 99)]) (zQv G b (fun M' N' => P M' ∧ N' = N)) 0 0 (zA b) := by
  refine Met.ofW (cc := prog_10_method_45_code) (maxL := 6) (ret := (Option.none : Option Jvm.ClassFile.FieldType)) (by decide) rfl ?_
  intro p e s m args below meth c s₁ B hml hv
  obtain ⟨rfl, hZ, hK, hT⟩ := hv
  have hx := B.exec
  have hb := B.bytes
  have hr := B.returns
  have hts := atoms_spec (ws := ws_Mo_sort) B.pre
  have hta : ∀ w ∈ zall, w.before ([.ref (b + 99)] : List Value).toArray s = true := fun w h => hts w (List.mem_cons_of_mem _ h)
  have hown : s.vm.findClass R_Mo = some m.cls := findClass_of_methodNamed B.named
  have hlocks := B.notSynchronized
  have hS : va_S (zA b) s.heap s.heap [] := va_S.rf
  have hl := lv_entry ([.ref (b + 99)]) (n := 6) (Nat.le_of_ble_eq_true rfl)
  rw [lg_entry_eq]
  generalize (lg_sl ([.ref (b + 99)]) ++ List.replicate (6 - (lg_sl ([.ref (b + 99)])).length) Slot.unset).toArray = ls at hl ⊢
  have hl : lv_has ls 6 [(0, .ref (b + 99))] := hl
  have lp2 : ∀ (n : Nat) (v1 : Int32) (M : zM) (H : Heap) (ls : Array Slot) (locs : List Loc), va_P G.1 zCl (zws G b M N) H → va_S (zA b) s.heap H locs → lv_has ls 6 [(0, .ref (b + 99)), (1, .int v1)] → L_Mo_sort_2 P N n v1 M → W p l e (headSpec ws_Mo_sort rm_Mo_sort).room s m ([.ref (b + 99)] : List Value).toArray below meth c H locs 0 0 (MQ below (zQv G b (fun M' N' => P M' ∧ N' = N)) ([.ref (b + 99)] : List Value).toArray s 0 0 (zA b)) (F0 m 2 ls []) := by
    intro  n
    induction n with
    | zero => intro v1 M H ls locs hZ hS hl hw; exact False.elim hw
    | succ n2 ih2 =>
      have lp12 : ∀ (v1 : Int32) (n : Nat) (v2 : Int32) (M : zM) (H : Heap) (ls : Array Slot) (locs : List Loc), va_P G.1 zCl (zws G b M N) H → va_S (zA b) s.heap H locs → lv_has ls 6 [(0, .ref (b + 99)), (1, .int v1), (2, .int v2)] → L_Mo_sort_12 P (L_Mo_sort_2 P N n2) v1 N n v2 M → W p l e (headSpec ws_Mo_sort rm_Mo_sort).room s m ([.ref (b + 99)] : List Value).toArray below meth c H locs 0 0 (MQ below (zQv G b (fun M' N' => P M' ∧ N' = N)) ([.ref (b + 99)] : List Value).toArray s 0 0 (zA b)) (F0 m 12 ls []) := by
        intro v1 n
        induction n with
        | zero => intro v2 M H ls locs hZ hS hl hw; exact False.elim hw
        | succ n12 ih12 =>
          have lp29 : ∀ (v2 : Int32) (n : Nat) (v3 : Int32) (M : zM) (H : Heap) (ls : Array Slot) (locs : List Loc), va_P G.1 zCl (zws G b M N) H → va_S (zA b) s.heap H locs → lv_has ls 6 [(0, .ref (b + 99)), (1, .int v1), (2, .int v2), (3, .int v3)] → L_Mo_sort_29 P (L_Mo_sort_12 P (L_Mo_sort_2 P N n2) v1 N n12) v1 v2 N n v3 M → W p l e (headSpec ws_Mo_sort rm_Mo_sort).room s m ([.ref (b + 99)] : List Value).toArray below meth c H locs 0 0 (MQ below (zQv G b (fun M' N' => P M' ∧ N' = N)) ([.ref (b + 99)] : List Value).toArray s 0 0 (zA b)) (F0 m 29 ls []) := by
            intro v2 n
            induction n with
            | zero => intro v3 M H ls locs hZ hS hl hw; exact False.elim hw
            | succ n29 ih29 =>
              intro v3 M H ls locs hZ hS hl hw
              have hw : B_Mo_sort_29 P (L_Mo_sort_12 P (L_Mo_sort_2 P N n2) v1 N n12) v1 v2 N (L_Mo_sort_29 P (L_Mo_sort_12 P (L_Mo_sort_2 P N n2) v1 N n12) v1 v2 N n29) v3 M := hw
              unfold B_Mo_sort_29 at hw
              refine lv_iload_n (pc := 29) hx hb d_Mo_sort_29 rfl (lv_at hl 3 rfl) ?_
              refine lv_bipush (pc := 30) (v := 8) hx hb d_Mo_sort_30 (by decide) ?_
              refine lv_icmp_ge (pc := 32) (tgt := 95) hx hb d_Mo_sort_32 (by decide) (fun hc => ?_) (fun hc => ?_)
              · have hw := hw.1 hc
                refine lv_iinc (pc := 95) (k := 2) (v := v2 + (-1 : Int32)) (lv' := [(2, .int (v2 + (-1 : Int32))), (0, .ref (b + 99)), (1, .int v1), (3, .int v3)]) hx hb d_Mo_sort_95 hl rfl (by rfl) (by decide) rfl (fun ls hl => ?_)
                refine lv_goto (pc := 98) (tgt := 12) hx hb d_Mo_sort_98 (by decide) ?_
                exact ih12 (v2 + (-1 : Int32)) M _ _ _ hZ hS (lv_sub hl [1, 2, 0] rfl) hw
              · have hw := hw.2 hc
                refine lv_aload_n (pc := 35) hx hb d_Mo_sort_35 rfl (lv_at hl 0 rfl) ?_
                refine zg_Mo_20 (pc := 36) hx hb hta hown hK hZ d_Mo_sort_36 ?_
                refine lv_bipush (pc := 39) (v := 8) hx hb d_Mo_sort_39 (by decide) ?_
                refine lv_iload_n (pc := 41) hx hb d_Mo_sort_41 rfl (lv_at hl 2 rfl) ?_
                refine lv_imul (pc := 42) hx hb d_Mo_sort_42 ?_
                refine lv_iload_n (pc := 43) hx hb d_Mo_sort_43 rfl (lv_at hl 3 rfl) ?_
                refine lv_iadd (pc := 44) hx hb d_Mo_sort_44 ?_
                obtain ⟨hc, hw⟩ := hw
                refine z_lald (pc := 45) hx hb hK hZ hc d_Mo_sort_45 ?_
                refine lv_topl (fun x4 hx4 => ?_)
                have hw := hw x4 hx4
                refine lv_lstore (pc := 46) (lv' := [(4, .long x4), (0, .ref (b + 99)), (1, .int v1), (2, .int v2), (3, .int v3)]) hx hb d_Mo_sort_46 hl (by decide) rfl (fun ls hl => ?_)
                refine lv_aload_n (pc := 48) hx hb d_Mo_sort_48 rfl (lv_at hl 1 rfl) ?_
                refine zg_Mo_20 (pc := 49) hx hb hta hown hK hZ d_Mo_sort_49 ?_
                refine lv_bipush (pc := 52) (v := 8) hx hb d_Mo_sort_52 (by decide) ?_
                refine lv_iload_n (pc := 54) hx hb d_Mo_sort_54 rfl (lv_at hl 3 rfl) ?_
                refine lv_imul (pc := 55) hx hb d_Mo_sort_55 ?_
                refine lv_iload_n (pc := 56) hx hb d_Mo_sort_56 rfl (lv_at hl 4 rfl) ?_
                refine lv_iadd (pc := 57) hx hb d_Mo_sort_57 ?_
                refine lv_aload_n (pc := 58) hx hb d_Mo_sort_58 rfl (lv_at hl 1 rfl) ?_
                refine zg_Mo_20 (pc := 59) hx hb hta hown hK hZ d_Mo_sort_59 ?_
                refine lv_bipush (pc := 62) (v := 8) hx hb d_Mo_sort_62 (by decide) ?_
                refine lv_iload_n (pc := 64) hx hb d_Mo_sort_64 rfl (lv_at hl 3 rfl) ?_
                refine lv_imul (pc := 65) hx hb d_Mo_sort_65 ?_
                refine lv_bipush (pc := 66) (v := 8) hx hb d_Mo_sort_66 (by decide) ?_
                refine lv_isub (pc := 68) hx hb d_Mo_sort_68 ?_
                refine lv_iload_n (pc := 69) hx hb d_Mo_sort_69 rfl (lv_at hl 4 rfl) ?_
                refine lv_iadd (pc := 70) hx hb d_Mo_sort_70 ?_
                obtain ⟨hc, hw⟩ := hw
                refine z_lald (pc := 71) hx hb hK hZ hc d_Mo_sort_71 ?_
                obtain ⟨hc, hw⟩ := hw
                refine z_last (pc := 72) hx hb hK hZ hS hc d_Mo_sort_72 (fun M5 H locs hM5 hZ hS => ?_)
                have hw := hw M5 hM5
                refine lv_aload_n (pc := 73) hx hb d_Mo_sort_73 rfl (lv_at hl 1 rfl) ?_
                refine zg_Mo_20 (pc := 74) hx hb hta hown hK hZ d_Mo_sort_74 ?_
                refine lv_bipush (pc := 77) (v := 8) hx hb d_Mo_sort_77 (by decide) ?_
                refine lv_iload_n (pc := 79) hx hb d_Mo_sort_79 rfl (lv_at hl 3 rfl) ?_
                refine lv_imul (pc := 80) hx hb d_Mo_sort_80 ?_
                refine lv_bipush (pc := 81) (v := 8) hx hb d_Mo_sort_81 (by decide) ?_
                refine lv_isub (pc := 83) hx hb d_Mo_sort_83 ?_
                refine lv_iload_n (pc := 84) hx hb d_Mo_sort_84 rfl (lv_at hl 4 rfl) ?_
                refine lv_iadd (pc := 85) hx hb d_Mo_sort_85 ?_
                refine lv_lload (pc := 86) hx hb d_Mo_sort_86 (lv_at hl 0 rfl) ?_
                obtain ⟨hc, hw⟩ := hw
                refine z_last (pc := 88) hx hb hK hZ hS hc d_Mo_sort_88 (fun M6 H locs hM6 hZ hS => ?_)
                have hw := hw M6 hM6
                refine lv_iinc (pc := 89) (k := 4) (v := v3 + (1 : Int32)) (lv' := [(3, .int (v3 + (1 : Int32))), (4, .long x4), (0, .ref (b + 99)), (1, .int v1), (2, .int v2)]) hx hb d_Mo_sort_89 hl rfl (by rfl) (by decide) rfl (fun ls hl => ?_)
                refine lv_goto (pc := 92) (tgt := 29) hx hb d_Mo_sort_92 (by decide) ?_
                exact ih29 (v3 + (1 : Int32)) M6 _ _ _ hZ hS (lv_sub hl [2, 3, 4, 0] rfl) hw
          intro v2 M H ls locs hZ hS hl hw
          have hw : B_Mo_sort_12 P (L_Mo_sort_2 P N n2) v1 N (L_Mo_sort_12 P (L_Mo_sort_2 P N n2) v1 N n12) v2 M := hw
          unfold B_Mo_sort_12 at hw
          refine lv_iload_n (pc := 12) hx hb d_Mo_sort_12 rfl (lv_at hl 2 rfl) ?_
          refine lv_if_le (pc := 13) (tgt := 101) hx hb d_Mo_sort_13 (by decide) (fun hc => ?_) (fun hc => ?_)
          · have hw := hw.1 hc
            refine lv_iinc (pc := 101) (k := 1) (v := v1 + (1 : Int32)) (lv' := [(1, .int (v1 + (1 : Int32))), (0, .ref (b + 99)), (2, .int v2)]) hx hb d_Mo_sort_101 hl rfl (by rfl) (by decide) rfl (fun ls hl => ?_)
            refine lv_goto (pc := 104) (tgt := 2) hx hb d_Mo_sort_104 (by decide) ?_
            exact ih2 (v1 + (1 : Int32)) M _ _ _ hZ hS (lv_sub hl [1, 0] rfl) hw
          · have hw := hw.2 hc
            refine lv_aload_n (pc := 16) hx hb d_Mo_sort_16 rfl (lv_at hl 0 rfl) ?_
            refine lv_iload_n (pc := 17) hx hb d_Mo_sort_17 rfl (lv_at hl 2 rfl) ?_
            refine lv_iload_n (pc := 18) hx hb d_Mo_sort_18 rfl (lv_at hl 2 rfl) ?_
            refine lv_iconst (pc := 19) (v := 1) hx hb d_Mo_sort_19 (by decide) ?_
            refine lv_isub (pc := 20) hx hb d_Mo_sort_20 ?_
            refine z_calli (pc := 21) (va_runV (C := R_Mo) (b := b + 99) (As := [.int v2, .int (v2 - (1 : Int32))]) (rest := []) ⟨hx, hb, hml, hown, hts⟩ (c_Mo_isBefore l G b v2 (v2 - (1 : Int32)) M N hw) (cwV 2 hts (z_good (zgV wd975 wd977 wsel37 wd7 wd978)) rfl rfl rfl ⟨rfl, hd_Mo_isBefore⟩ ⟨Nat.le_of_ble_eq_true rfl, Nat.le_of_ble_eq_true rfl⟩) (z_preV zo_Mo rfl rfl hZ hK hT hS) rfl rfl hl.1 rfl (lv_room (Nat.le_of_ble_eq_true rfl)) d_Mo_sort_21 ⟨Nat.le_of_ble_eq_true rfl, Nat.le_of_ble_eq_true rfl⟩) hS (fun r1 M2 N3 H locs hw hZ hS => ?_)
            obtain ⟨hw, eM2, eN3⟩ := hw
            rw [eM2, eN3] at hZ
            refine lv_if_eq (pc := 24) (tgt := 101) hx hb d_Mo_sort_24 (by decide) (fun hc => ?_) (fun hc => ?_)
            · have hw := hw.1 hc
              refine lv_iinc (pc := 101) (k := 1) (v := v1 + (1 : Int32)) (lv' := [(1, .int (v1 + (1 : Int32))), (0, .ref (b + 99)), (2, .int v2)]) hx hb d_Mo_sort_101 hl rfl (by rfl) (by decide) rfl (fun ls hl => ?_)
              refine lv_goto (pc := 104) (tgt := 2) hx hb d_Mo_sort_104 (by decide) ?_
              exact ih2 (v1 + (1 : Int32)) M _ _ _ hZ hS (lv_sub hl [1, 0] rfl) hw
            · have hw := hw.2 hc
              refine lv_iconst (pc := 27) (v := 0) hx hb d_Mo_sort_27 (by decide) ?_
              refine lv_istore_n (pc := 28) (lv' := [(3, .int (0 : Int32)), (0, .ref (b + 99)), (1, .int v1), (2, .int v2)]) hx hb d_Mo_sort_28 rfl hl (by decide) rfl (fun ls hl => ?_)
              obtain ⟨n, hw⟩ := hw
              exact lp29 v2 n (0 : Int32) M _ _ _ hZ hS (lv_sub hl [1, 2, 3, 0] rfl) hw
      intro v1 M H ls locs hZ hS hl hw
      have hw : B_Mo_sort_2 P N (L_Mo_sort_2 P N n2) v1 M := hw
      unfold B_Mo_sort_2 at hw
      refine lv_iload_n (pc := 2) hx hb d_Mo_sort_2 rfl (lv_at hl 1 rfl) ?_
      refine lv_aload_n (pc := 3) hx hb d_Mo_sort_3 rfl (lv_at hl 0 rfl) ?_
      refine zg_Mo_186 (pc := 4) hx hb hta hown hK hZ d_Mo_sort_4 ?_
      refine lv_icmp_ge (pc := 7) (tgt := 107) hx hb d_Mo_sort_7 (by decide) (fun hc => ?_) (fun hc => ?_)
      · have hw := hw.1 hc
        exact z_vret hx hb hr hlocks hK hT hZ hS ⟨hw, rfl⟩ d_Mo_sort_107
      · have hw := hw.2 hc
        refine lv_iload_n (pc := 10) hx hb d_Mo_sort_10 rfl (lv_at hl 1 rfl) ?_
        refine lv_istore_n (pc := 11) (lv' := [(2, .int v1), (0, .ref (b + 99)), (1, .int v1)]) hx hb d_Mo_sort_11 rfl hl (by decide) rfl (fun ls hl => ?_)
        obtain ⟨n, hw⟩ := hw
        exact lp12 v1 n v1 M _ _ _ hZ hS (lv_sub hl [1, 2, 0] rfl) hw
  unfold w_Mo_sort at hw
  refine lv_iconst (pc := 0) (v := 0) hx hb d_Mo_sort_0 (by decide) ?_
  refine lv_istore_n (pc := 1) (lv' := [(1, .int (0 : Int32)), (0, .ref (b + 99))]) hx hb d_Mo_sort_1 rfl hl (by decide) rfl (fun ls hl => ?_)
  obtain ⟨n, hw⟩ := hw
  exact lp2  n (0 : Int32) M _ _ _ hZ hS (lv_sub hl [1, 0] rfl) hw
