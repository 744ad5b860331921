theorem zg_Mo_75 {p : Program} {l : Launch} {e : Env} {R : Room} {s : State} {m : MethodId} {args : Array Value} {below : List Frame} {meth : Method} {c : Code} {H : Heap} {locs : List Loc} {cells slots : Nat} {Q : State → Prop} {cc : ByteArray} {pc : Nat} {ls : Array Slot} {rest : List Value} {G : zG} {b : Nat} {M : zM} {N : zN} (hx : p.tables.exec = Jvm.exec) (hb : c.code = cc) (hta : ∀ w ∈ zall, w.before args s = true) (hown : s.vm.findClass R_Mo = some m.cls) (hK : va_K G.1 zCl (zty G) s) (hZ : va_P G.1 zCl (zws G b M N) H) (hdg : decode cc pc = .ok (.getfield 75, 3)) (kk : W p l e R s m args below meth c H locs cells slots Q (F0 m (pc + 3) ls (.ref (b + 118) :: rest))) : W p l e R s m args below meth c H locs cells slots Q (F0 m pc ls (.ref (b + 99) :: rest)) :=
  va_get (D := G.1) (ci := 6) (v := .ref (b + 118)) (C := R_Mo) (T := T_Mo) (N := 23) hx hb hta hin_Mo hown hK hZ 99 zo_Mo rfl 22 (by decide) (hta _ wd749) (fun _ h9 => h9) rfl hdg kk
theorem wsel23 : Cond.selects R_Mo y_Mo_euclid y_Mo_euclid ∈ zall := List.mem_filter.mpr ⟨List.mem_append_left _ (List.mem_of_getElem? (i := 23) rfl), by decide +kernel⟩
theorem zg_Mo_50 {p : Program} {l : Launch} {e : Env} {R : Room} {s : State} {m : MethodId} {args : Array Value} {below : List Frame} {meth : Method} {c : Code} {H : Heap} {locs : List Loc} {cells slots : Nat} {Q : State → Prop} {cc : ByteArray} {pc : Nat} {ls : Array Slot} {rest : List Value} {G : zG} {b : Nat} {M : zM} {N : zN} (hx : p.tables.exec = Jvm.exec) (hb : c.code = cc) (hta : ∀ w ∈ zall, w.before args s = true) (hown : s.vm.findClass R_Mo = some m.cls) (hK : va_K G.1 zCl (zty G) s) (hZ : va_P G.1 zCl (zws G b M N) H) (hdg : decode cc pc = .ok (.getfield 50, 3)) (kk : W p l e R s m args below meth c H locs cells slots Q (F0 m (pc + 3) ls (.ref (b + 113) :: rest))) : W p l e R s m args below meth c H locs cells slots Q (F0 m pc ls (.ref (b + 99) :: rest)) :=
  va_get (D := G.1) (ci := 6) (v := .ref (b + 113)) (C := R_Mo) (T := T_Mo) (N := 23) hx hb hta hin_Mo hown hK hZ 99 zo_Mo rfl 17 (by decide) (hta _ wd744) (fun _ h9 => h9) rfl hdg kk
theorem wsel24 : Cond.selects R_Mo y_Mo_isShared y_Mo_isShared ∈ zall := List.mem_filter.mpr ⟨List.mem_append_left _ (List.mem_of_getElem? (i := 24) rfl), by decide +kernel⟩
theorem d_Mo_share_0 : decode prog_10_method_33_code 0 = .ok (.aload_n 1, 1) := by decide +kernel
theorem d_Mo_share_1 : decode prog_10_method_33_code 1 = .ok (.aload_n 1, 1) := by decide +kernel
theorem d_Mo_share_2 : decode prog_10_method_33_code 2 = .ok (.invokestatic 82, 3) := by decide +kernel
theorem d_Mo_share_5 : decode prog_10_method_33_code 5 = .ok (.laload, 1) := by decide +kernel
theorem d_Mo_share_6 : decode prog_10_method_33_code 6 = .ok (.aload_n 2, 1) := by decide +kernel
theorem d_Mo_share_7 : decode prog_10_method_33_code 7 = .ok (.aload_n 2, 1) := by decide +kernel
theorem d_Mo_share_8 : decode prog_10_method_33_code 8 = .ok (.invokestatic 82, 3) := by decide +kernel
theorem d_Mo_share_11 : decode prog_10_method_33_code 11 = .ok (.laload, 1) := by decide +kernel
theorem d_Mo_share_12 : decode prog_10_method_33_code 12 = .ok (.invokestatic 94, 3) := by decide +kernel
theorem d_Mo_share_15 : decode prog_10_method_33_code 15 = .ok (.lstore_n 3, 1) := by decide +kernel
theorem d_Mo_share_16 : decode prog_10_method_33_code 16 = .ok (.iconst 0, 1) := by decide +kernel
theorem d_Mo_share_17 : decode prog_10_method_33_code 17 = .ok (.istore 5, 2) := by decide +kernel
theorem d_Mo_share_19 : decode prog_10_method_33_code 19 = .ok (.iconst 0, 1) := by decide +kernel
theorem d_Mo_share_20 : decode prog_10_method_33_code 20 = .ok (.istore 6, 2) := by decide +kernel
theorem d_Mo_share_22 : decode prog_10_method_33_code 22 = .ok (.iload 6, 2) := by decide +kernel
theorem d_Mo_share_24 : decode prog_10_method_33_code 24 = .ok (.bipush 10, 2) := by decide +kernel
theorem d_Mo_share_26 : decode prog_10_method_33_code 26 = .ok (.if_icmp .ge 117, 3) := by decide +kernel
theorem d_Mo_share_29 : decode prog_10_method_33_code 29 = .ok (.iload 5, 2) := by decide +kernel
theorem d_Mo_share_31 : decode prog_10_method_33_code 31 = .ok (.ifCond .ne 112, 3) := by decide +kernel
theorem d_Mo_share_34 : decode prog_10_method_33_code 34 = .ok (.aload_n 0, 1) := by decide +kernel
theorem d_Mo_share_35 : decode prog_10_method_33_code 35 = .ok (.aload_n 1, 1) := by decide +kernel
theorem d_Mo_share_36 : decode prog_10_method_33_code 36 = .ok (.aload_n 2, 1) := by decide +kernel
theorem d_Mo_share_37 : decode prog_10_method_33_code 37 = .ok (.aload_n 0, 1) := by decide +kernel
theorem d_Mo_share_38 : decode prog_10_method_33_code 38 = .ok (.getfield 75, 3) := by decide +kernel
theorem d_Mo_share_41 : decode prog_10_method_33_code 41 = .ok (.iload 6, 2) := by decide +kernel
theorem d_Mo_share_43 : decode prog_10_method_33_code 43 = .ok (.iaload, 1) := by decide +kernel
theorem d_Mo_share_44 : decode prog_10_method_33_code 44 = .ok (.i2l, 1) := by decide +kernel
theorem d_Mo_share_45 : decode prog_10_method_33_code 45 = .ok (.invokevirtual 153, 3) := by decide +kernel
theorem d_Mo_share_48 : decode prog_10_method_33_code 48 = .ok (.istore 7, 2) := by decide +kernel
theorem d_Mo_share_50 : decode prog_10_method_33_code 50 = .ok (.lconst 1, 1) := by decide +kernel
theorem d_Mo_share_51 : decode prog_10_method_33_code 51 = .ok (.lstore 8, 2) := by decide +kernel
theorem d_Mo_share_53 : decode prog_10_method_33_code 53 = .ok (.lload 8, 2) := by decide +kernel
theorem d_Mo_share_55 : decode prog_10_method_33_code 55 = .ok (.lload 8, 2) := by decide +kernel
theorem d_Mo_share_57 : decode prog_10_method_33_code 57 = .ok (.lmul, 1) := by decide +kernel
theorem d_Mo_share_58 : decode prog_10_method_33_code 58 = .ok (.lload_n 3, 1) := by decide +kernel
theorem d_Mo_share_59 : decode prog_10_method_33_code 59 = .ok (.lcmp, 1) := by decide +kernel
theorem d_Mo_share_60 : decode prog_10_method_33_code 60 = .ok (.ifCond .gt 77, 3) := by decide +kernel
theorem d_Mo_share_63 : decode prog_10_method_33_code 63 = .ok (.iload 5, 2) := by decide +kernel
theorem d_Mo_share_65 : decode prog_10_method_33_code 65 = .ok (.ifCond .ne 72, 3) := by decide +kernel
theorem d_Mo_share_68 : decode prog_10_method_33_code 68 = .ok (.lload_n 3, 1) := by decide +kernel
theorem d_Mo_share_69 : decode prog_10_method_33_code 69 = .ok (.lload 8, 2) := by decide +kernel
theorem d_Mo_share_71 : decode prog_10_method_33_code 71 = .ok (.lrem, 1) := by decide +kernel
theorem d_Mo_share_72 : decode prog_10_method_33_code 72 = .ok (.lconst 0, 1) := by decide +kernel
theorem d_Mo_share_73 : decode prog_10_method_33_code 73 = .ok (.lcmp, 1) := by decide +kernel
theorem d_Mo_share_74 : decode prog_10_method_33_code 74 = .ok (.ifCond .ne 51, 3) := by decide +kernel
theorem d_Mo_share_77 : decode prog_10_method_33_code 77 = .ok (.aload_n 0, 1) := by decide +kernel
theorem d_Mo_share_78 : decode prog_10_method_33_code 78 = .ok (.lload 8, 2) := by decide +kernel
theorem d_Mo_share_80 : decode prog_10_method_33_code 80 = .ok (.iload 7, 2) := by decide +kernel
theorem d_Mo_share_82 : decode prog_10_method_33_code 82 = .ok (.aload_n 0, 1) := by decide +kernel
theorem d_Mo_share_83 : decode prog_10_method_33_code 83 = .ok (.getfield 75, 3) := by decide +kernel
theorem d_Mo_share_86 : decode prog_10_method_33_code 86 = .ok (.iload 6, 2) := by decide +kernel
theorem d_Mo_share_88 : decode prog_10_method_33_code 88 = .ok (.iaload, 1) := by decide +kernel
theorem d_Mo_share_89 : decode prog_10_method_33_code 89 = .ok (.i2l, 1) := by decide +kernel
theorem d_Mo_share_90 : decode prog_10_method_33_code 90 = .ok (.aload_n 1, 1) := by decide +kernel
theorem d_Mo_share_91 : decode prog_10_method_33_code 91 = .ok (.aload_n 2, 1) := by decide +kernel
theorem d_Mo_share_92 : decode prog_10_method_33_code 92 = .ok (.invokevirtual 157, 3) := by decide +kernel
theorem d_Mo_share_95 : decode prog_10_method_33_code 95 = .ok (.ifCond .ne 26, 3) := by decide +kernel
theorem d_Mo_share_98 : decode prog_10_method_33_code 98 = .ok (.aload_n 0, 1) := by decide +kernel
theorem d_Mo_share_99 : decode prog_10_method_33_code 99 = .ok (.lload_n 3, 1) := by decide +kernel
theorem d_Mo_share_100 : decode prog_10_method_33_code 100 = .ok (.lload 8, 2) := by decide +kernel
theorem d_Mo_share_102 : decode prog_10_method_33_code 102 = .ok (.ldiv, 1) := by decide +kernel
theorem d_Mo_share_103 : decode prog_10_method_33_code 103 = .ok (.iload 7, 2) := by decide +kernel
theorem d_Mo_share_105 : decode prog_10_method_33_code 105 = .ok (.aload_n 0, 1) := by decide +kernel
theorem d_Mo_share_106 : decode prog_10_method_33_code 106 = .ok (.getfield 75, 3) := by decide +kernel
theorem d_Mo_share_109 : decode prog_10_method_33_code 109 = .ok (.iload 6, 2) := by decide +kernel
theorem d_Mo_share_111 : decode prog_10_method_33_code 111 = .ok (.iaload, 1) := by decide +kernel
theorem d_Mo_share_112 : decode prog_10_method_33_code 112 = .ok (.i2l, 1) := by decide +kernel
theorem d_Mo_share_113 : decode prog_10_method_33_code 113 = .ok (.aload_n 1, 1) := by decide +kernel
theorem d_Mo_share_114 : decode prog_10_method_33_code 114 = .ok (.aload_n 2, 1) := by decide +kernel
theorem d_Mo_share_115 : decode prog_10_method_33_code 115 = .ok (.invokevirtual 157, 3) := by decide +kernel
theorem d_Mo_share_118 : decode prog_10_method_33_code 118 = .ok (.ifCond .eq 7, 3) := by decide +kernel
theorem d_Mo_share_121 : decode prog_10_method_33_code 121 = .ok (.iconst 1, 1) := by decide +kernel
theorem d_Mo_share_122 : decode prog_10_method_33_code 122 = .ok (.goto 4, 3) := by decide +kernel
theorem d_Mo_share_125 : decode prog_10_method_33_code 125 = .ok (.iconst 0, 1) := by decide +kernel
theorem d_Mo_share_126 : decode prog_10_method_33_code 126 = .ok (.istore 5, 2) := by decide +kernel
theorem d_Mo_share_128 : decode prog_10_method_33_code 128 = .ok (.lload 8, 2) := by decide +kernel
theorem d_Mo_share_130 : decode prog_10_method_33_code 130 = .ok (.lconst 1, 1) := by decide +kernel
theorem d_Mo_share_131 : decode prog_10_method_33_code 131 = .ok (.ladd, 1) := by decide +kernel
theorem d_Mo_share_132 : decode prog_10_method_33_code 132 = .ok (.lstore 8, 2) := by decide +kernel
theorem d_Mo_share_134 : decode prog_10_method_33_code 134 = .ok (.goto (-81), 3) := by decide +kernel
theorem d_Mo_share_137 : decode prog_10_method_33_code 137 = .ok (.iinc 6 1, 3) := by decide +kernel
theorem d_Mo_share_140 : decode prog_10_method_33_code 140 = .ok (.goto (-118), 3) := by decide +kernel
theorem d_Mo_share_143 : decode prog_10_method_33_code 143 = .ok (.aload_n 0, 1) := by decide +kernel
theorem d_Mo_share_144 : decode prog_10_method_33_code 144 = .ok (.getfield 62, 3) := by decide +kernel
theorem d_Mo_share_147 : decode prog_10_method_33_code 147 = .ok (.aload_n 0, 1) := by decide +kernel
theorem d_Mo_share_148 : decode prog_10_method_33_code 148 = .ok (.getfield 50, 3) := by decide +kernel
theorem d_Mo_share_151 : decode prog_10_method_33_code 151 = .ok (.invokestatic 124, 3) := by decide +kernel
theorem d_Mo_share_154 : decode prog_10_method_33_code 154 = .ok (.return_, 1) := by decide +kernel
def J_Mo_share_143 (P : zM → Prop) (M : zM) (N : zN) : Prop := w_Mo_copy 117 113 M (fun M14 => P M14)
def B_Mo_share_53 (P : zM → Prop) (k22 : Int32 → Int32 → zM → Prop) (a1 : Nat) (a2 : Nat) (v3 : Int64) (v6 : Int32) (v7 : Int32) (N : zN) (k53 : Int32 → Int64 → zM → Prop) (v5 : Int32) (v8 : Int64) (M : zM) : Prop := (v3 < (v8 * v8) → k22 v5 (v6 + (1 : Int32)) M) ∧ (¬ v3 < (v8 * v8) → (¬ v5 = 0 → k22 v5 (v6 + (1 : Int32)) M) ∧ (v5 = 0 → ¬ v8 = 0 ∧ (¬ (v3 - v3 / v8 * v8) = (0 : Int64) → ∀ x16 : Int64, x16 = v8 + (1 : Int64) → k53 (0 : Int32) x16 M) ∧ ((v3 - v3 / v8 * v8) = (0 : Int64) → vp_in v6 (zint 118) ∧ w_Mo_isShared v8 v7 ((N 118 v6.toNatClampNeg).toInt64) a1 a2 M (fun r17 M18 => (¬ r17 = 0 → ∀ x20 : Int64, x20 = v8 + (1 : Int64) → k53 (1 : Int32) x20 M18) ∧ (r17 = 0 → ¬ v8 = 0 ∧ vp_in v6 (zint 118) ∧ w_Mo_isShared (v3 / v8) v7 ((N 118 v6.toNatClampNeg).toInt64) a1 a2 M18 (fun r21 M22 => (r21 = 0 → ∀ x24 : Int64, x24 = v8 + (1 : Int64) → k53 (0 : Int32) x24 M22) ∧ (¬ r21 = 0 → ∀ x25 : Int64, x25 = v8 + (1 : Int64) → k53 (1 : Int32) x25 M22)))))))
def L_Mo_share_53 (P : zM → Prop) (k22 : Int32 → Int32 → zM → Prop) (a1 : Nat) (a2 : Nat) (v3 : Int64) (v6 : Int32) (v7 : Int32) (N : zN) (n : Nat) : Int32 → Int64 → zM → Prop := Nat.rec (fun _ _ _ => False) (fun _ k => B_Mo_share_53 P k22 a1 a2 v3 v6 v7 N k) n
def B_Mo_share_22 (P : zM → Prop) (a1 : Nat) (a2 : Nat) (v3 : Int64) (N : zN) (k22 : Int32 → Int32 → zM → Prop) (v5 : Int32) (v6 : Int32) (M : zM) : Prop := ((10 : Int32) ≤ v6 → J_Mo_share_143 P M N) ∧ (¬ (10 : Int32) ≤ v6 → (¬ v5 = 0 → J_Mo_share_143 P M N) ∧ (v5 = 0 → vp_in v6 (zint 118) ∧ w_Mo_euclid a1 a2 ((N 118 v6.toNatClampNeg).toInt64) M (fun r10 M11 => ∃ n, L_Mo_share_53 P k22 a1 a2 v3 v6 r10 N n v5 (1 : Int64) M11)))
def L_Mo_share_22 (P : zM → Prop) (a1 : Nat) (a2 : Nat) (v3 : Int64) (N : zN) (n : Nat) : Int32 → Int32 → zM → Prop := Nat.rec (fun _ _ _ => False) (fun _ k => B_Mo_share_22 P a1 a2 v3 N k) n
def w_Mo_share (a1 : Nat) (a2 : Nat) (M : zM) (N : zN) (P : zM → Prop) : Prop := w_Mo_degreeOf a1 M (fun r1 => vp_in r1 (zlong a1) ∧ w_Mo_degreeOf a2 M (fun r4 => vp_in r4 (zlong a2) ∧ w_Mo_divisor (M a1 r1.toNatClampNeg) (M a2 r4.toNatClampNeg)  (fun r7 => ∃ n, L_Mo_share_22 P a1 a2 r7 N n (0 : Int32) (0 : Int32) M)))
def ws_Mo_share : List Cond := .code y_Mo_share prog_10_method_33_code 10 (Option.none : Option Jvm.ClassFile.FieldType) :: zall
def rm_Mo_share : Room := { frames := 4, cells := 0, slots := 0, locals := 100 }
theorem hd_Mo_share : y_Mo_share.cls ≠ "java/lang/invoke/MethodHandle" ∧ y_Mo_share.cls ≠ "java/lang/invoke/VarHandle" ∧ (parseMethodDescriptor y_Mo_share.desc).map (fun d => d.parameters.length) = some 2 := by decide +kernel
set_option maxHeartbeats 4000000 in
set_option maxRecDepth 100000 in
theorem c_Mo_share (l : Launch) (G : zG) (b : Nat) (a1 : Nat) (a2 : Nat) (M : zM) (N : zN) {P : zM → Prop} (hw : w_Mo_share a1 a2 M N P) : Met l y_Mo_share ws_Mo_share rm_Mo_share (zPc G b M N [.ref (b + 99), .ref (b + a1), .ref (b + a2)]) (zQv G b (fun M' N' => P M' ∧ N' = N)) 0 0 (zA b) := by
  refine Met.ofW (cc := prog_10_method_33_code) (maxL := 10) (ret := (Option.none : Option Jvm.ClassFile.FieldType)) (by decide) rfl ?_
  intro p e s m args below meth c s₁ B hml hv
  obtain ⟨rfl, hZ, hK, hT⟩ := hv
  have hx := B.exec
  have hb := B.bytes
  have hr := B.returns
  have hts := atoms_spec (ws := ws_Mo_share) B.pre
  have hta : ∀ w ∈ zall, w.before ([.ref (b + 99), .ref (b + a1), .ref (b + a2)] : List Value).toArray s = true := fun w h => hts w (List.mem_cons_of_mem _ h)
  have hown : s.vm.findClass R_Mo = some m.cls := findClass_of_methodNamed B.named
  have hlocks := B.notSynchronized
  have hS : va_S (zA b) s.heap s.heap [] := va_S.rf
  have hl := lv_entry ([.ref (b + 99), .ref (b + a1), .ref (b + a2)]) (n := 10) (Nat.le_of_ble_eq_true rfl)
  rw [lg_entry_eq]
  generalize (lg_sl ([.ref (b + 99), .ref (b + a1), .ref (b + a2)]) ++ List.replicate (10 - (lg_sl ([.ref (b + 99), .ref (b + a1), .ref (b + a2)])).length) Slot.unset).toArray = ls at hl ⊢
  have hl : lv_has ls 10 [(0, .ref (b + 99)), (1, .ref (b + a1)), (2, .ref (b + a2))] := hl
  have j143 : ∀ (M : zM) (H : Heap) (ls : Array Slot) (locs : List Loc), va_P G.1 zCl (zws G b M N) H → va_S (zA b) s.heap H locs → lv_has ls 10 [(0, .ref (b + 99))] → J_Mo_share_143 P M N → W p l e (headSpec ws_Mo_share rm_Mo_share).room s m ([.ref (b + 99), .ref (b + a1), .ref (b + a2)] : List Value).toArray below meth c H locs 0 0 (MQ below (zQv G b (fun M' N' => P M' ∧ N' = N)) ([.ref (b + 99), .ref (b + a1), .ref (b + a2)] : List Value).toArray s 0 0 (zA b)) (F0 m 143 ls []) := by
    intro M H ls locs hZ hS hl hw
    unfold J_Mo_share_143 at hw
    refine lv_aload_n (pc := 143) hx hb d_Mo_share_143 rfl (lv_at hl 0 rfl) ?_
    refine zg_Mo_62 (pc := 144) hx hb hta hown hK hZ d_Mo_share_144 ?_
    refine lv_aload_n (pc := 147) hx hb d_Mo_share_147 rfl (lv_at hl 0 rfl) ?_
    refine zg_Mo_50 (pc := 148) hx hb hta hown hK hZ d_Mo_share_148 ?_
    refine z_callv (pc := 151) (va_runS (As := [.ref (b + 117), .ref (b + 113)]) (rest := []) ⟨hx, hb, hml, hown, hts⟩ (c_Mo_copy l G b 117 113 M N hw) (va_cwS 2 hts (z_good (zgS wd865 wd866 wd7 wd867)) rfl rfl rfl hd_Mo_copy ⟨Nat.le_of_ble_eq_true rfl, Nat.le_of_ble_eq_true rfl⟩) (z_preS hZ hK hT hS) rfl rfl hl.1 rfl (lv_room (Nat.le_of_ble_eq_true rfl)) d_Mo_share_151 ⟨Nat.le_of_ble_eq_true rfl, Nat.le_of_ble_eq_true rfl⟩) hS (fun M14 N15 H locs hw hZ hS => ?_)
    obtain ⟨hw, eN15⟩ := hw
    rw [eN15] at hZ
    exact z_vret hx hb hr hlocks hK hT hZ hS ⟨hw, rfl⟩ d_Mo_share_154
  have lp22 : ∀ (v3 : Int64) (n : Nat) (v5 : Int32) (v6 : Int32) (M : zM) (H : Heap) (ls : Array Slot) (locs : List Loc), va_P G.1 zCl (zws G b M N) H → va_S (zA b) s.heap H locs → lv_has ls 10 [(0, .ref (b + 99)), (1, .ref (b + a1)), (2, .ref (b + a2)), (3, .long v3), (5, .int v5), (6, .int v6)] → L_Mo_share_22 P a1 a2 v3 N n v5 v6 M → W p l e (headSpec ws_Mo_share rm_Mo_share).room s m ([.ref (b + 99), .ref (b + a1), .ref (b + a2)] : List Value).toArray below meth c H locs 0 0 (MQ below (zQv G b (fun M' N' => P M' ∧ N' = N)) ([.ref (b + 99), .ref (b + a1), .ref (b + a2)] : List Value).toArray s 0 0 (zA b)) (F0 m 22 ls []) := by
    intro v3 n
    induction n with
    | zero => intro v5 v6 M H ls locs hZ hS hl hw; exact False.elim hw
    | succ n22 ih22 =>
      have lp53 : ∀ (v6 : Int32) (v7 : Int32) (n : Nat) (v5 : Int32) (v8 : Int64) (M : zM) (H : Heap) (ls : Array Slot) (locs : List Loc), va_P G.1 zCl (zws G b M N) H → va_S (zA b) s.heap H locs → lv_has ls 10 [(0, .ref (b + 99)), (1, .ref (b + a1)), (2, .ref (b + a2)), (3, .long v3), (5, .int v5), (6, .int v6), (7, .int v7), (8, .long v8)] → L_Mo_share_53 P (L_Mo_share_22 P a1 a2 v3 N n22) a1 a2 v3 v6 v7 N n v5 v8 M → W p l e (headSpec ws_Mo_share rm_Mo_share).room s m ([.ref (b + 99), .ref (b + a1), .ref (b + a2)] : List Value).toArray below meth c H locs 0 0 (MQ below (zQv G b (fun M' N' => P M' ∧ N' = N)) ([.ref (b + 99), .ref (b + a1), .ref (b + a2)] : List Value).toArray s 0 0 (zA b)) (F0 m 53 ls []) := by
        intro v6 v7 n
        induction n with
        | zero => intro v5 v8 M H ls locs hZ hS hl hw; exact False.elim hw
        | succ n53 ih53 =>
          intro v5 v8 M H ls locs hZ hS hl hw
          have hw : B_Mo_share_53 P (L_Mo_share_22 P a1 a2 v3 N n22) a1 a2 v3 v6 v7 N (L_Mo_share_53 P (L_Mo_share_22 P a1 a2 v3 N n22) a1 a2 v3 v6 v7 N n53) v5 v8 M := hw
          unfold B_Mo_share_53 at hw
          refine lv_lload (pc := 53) hx hb d_Mo_share_53 (lv_at hl 7 rfl) ?_
          refine lv_lload (pc := 55) hx hb d_Mo_share_55 (lv_at hl 7 rfl) ?_
          refine lv_lmul (pc := 57) hx hb d_Mo_share_57 ?_
          refine lv_lload_n (pc := 58) hx hb d_Mo_share_58 rfl (lv_at hl 3 rfl) ?_
          refine z_lc_gt (pc := 59) (tgt := 137) hx hb d_Mo_share_59 d_Mo_share_60 (by decide) (fun hc => ?_) (fun hc => ?_)
          · have hw := hw.1 hc
            refine lv_iinc (pc := 137) (k := 5) (v := v6 + (1 : Int32)) (lv' := [(6, .int (v6 + (1 : Int32))), (0, .ref (b + 99)), (1, .ref (b + a1)), (2, .ref (b + a2)), (3, .long v3), (5, .int v5), (7, .int v7), (8, .long v8)]) hx hb d_Mo_share_137 hl rfl (by rfl) (by decide) rfl (fun ls hl => ?_)
            refine lv_goto (pc := 140) (tgt := 22) hx hb d_Mo_share_140 (by decide) ?_
            exact ih22 v5 (v6 + (1 : Int32)) M _ _ _ hZ hS (lv_sub hl [1, 2, 3, 4, 5, 0] rfl) hw
          · have hw := hw.2 hc
            refine lv_iload (pc := 63) hx hb d_Mo_share_63 (lv_at hl 4 rfl) ?_
            refine lv_if_ne (pc := 65) (tgt := 137) hx hb d_Mo_share_65 (by decide) (fun hc => ?_) (fun hc => ?_)
            · have hw := hw.1 hc
              refine lv_iinc (pc := 137) (k := 5) (v := v6 + (1 : Int32)) (lv' := [(6, .int (v6 + (1 : Int32))), (0, .ref (b + 99)), (1, .ref (b + a1)), (2, .ref (b + a2)), (3, .long v3), (5, .int v5), (7, .int v7), (8, .long v8)]) hx hb d_Mo_share_137 hl rfl (by rfl) (by decide) rfl (fun ls hl => ?_)
              refine lv_goto (pc := 140) (tgt := 22) hx hb d_Mo_share_140 (by decide) ?_
              exact ih22 v5 (v6 + (1 : Int32)) M _ _ _ hZ hS (lv_sub hl [1, 2, 3, 4, 5, 0] rfl) hw
            · have hw := hw.2 hc
              refine lv_lload_n (pc := 68) hx hb d_Mo_share_68 rfl (lv_at hl 3 rfl) ?_
              refine lv_lload (pc := 69) hx hb d_Mo_share_69 (lv_at hl 7 rfl) ?_
              obtain ⟨hc, hw⟩ := hw
              refine lv_lrem (pc := 71) hx hb d_Mo_share_71 hc ?_
              refine lv_lconst (pc := 72) (v := 0) hx hb d_Mo_share_72 (by decide) ?_
              refine z_lc_ne (pc := 73) (tgt := 125) hx hb d_Mo_share_73 d_Mo_share_74 (by decide) (fun hc => ?_) (fun hc => ?_)
              · have hw := hw.1 hc
                refine lv_iconst (pc := 125) (v := 0) hx hb d_Mo_share_125 (by decide) ?_
                refine lv_istore (pc := 126) (lv' := [(5, .int (0 : Int32)), (0, .ref (b + 99)), (1, .ref (b + a1)), (2, .ref (b + a2)), (3, .long v3), (6, .int v6), (7, .int v7), (8, .long v8)]) hx hb d_Mo_share_126 hl (by decide) rfl (fun ls hl => ?_)
                refine lv_lload (pc := 128) hx hb d_Mo_share_128 (lv_at hl 7 rfl) ?_
                refine lv_lconst (pc := 130) (v := 1) hx hb d_Mo_share_130 (by decide) ?_
                refine lv_ladd (pc := 131) hx hb d_Mo_share_131 ?_
                refine lv_topl (fun x16 hx16 => ?_)
                have hw := hw x16 hx16
                refine lv_lstore (pc := 132) (lv' := [(8, .long x16), (5, .int (0 : Int32)), (0, .ref (b + 99)), (1, .ref (b + a1)), (2, .ref (b + a2)), (3, .long v3), (6, .int v6), (7, .int v7)]) hx hb d_Mo_share_132 hl (by decide) rfl (fun ls hl => ?_)
                refine lv_goto (pc := 134) (tgt := 53) hx hb d_Mo_share_134 (by decide) ?_
                exact ih53 (0 : Int32) x16 M _ _ _ hZ hS (lv_sub hl [2, 3, 4, 5, 1, 6, 7, 0] rfl) hw
              · have hw := hw.2 hc
                refine lv_aload_n (pc := 77) hx hb d_Mo_share_77 rfl (lv_at hl 0 rfl) ?_
                refine lv_lload (pc := 78) hx hb d_Mo_share_78 (lv_at hl 7 rfl) ?_
                refine lv_iload (pc := 80) hx hb d_Mo_share_80 (lv_at hl 6 rfl) ?_
                refine lv_aload_n (pc := 82) hx hb d_Mo_share_82 rfl (lv_at hl 0 rfl) ?_
                refine zg_Mo_75 (pc := 83) hx hb hta hown hK hZ d_Mo_share_83 ?_
                refine lv_iload (pc := 86) hx hb d_Mo_share_86 (lv_at hl 5 rfl) ?_
                obtain ⟨hc, hw⟩ := hw
                refine z_iald (pc := 88) hx hb hK hZ hc d_Mo_share_88 ?_
                refine lv_i2l (pc := 89) (v := (N 118 v6.toNatClampNeg).toInt64) hx hb d_Mo_share_89 rfl ?_
                refine lv_aload_n (pc := 90) hx hb d_Mo_share_90 rfl (lv_at hl 1 rfl) ?_
                refine lv_aload_n (pc := 91) hx hb d_Mo_share_91 rfl (lv_at hl 2 rfl) ?_
                refine z_calli (pc := 92) (va_runV (C := R_Mo) (b := b + 99) (As := [.long v8, .int v7, .long ((N 118 v6.toNatClampNeg).toInt64), .ref (b + a1), .ref (b + a2)]) (rest := []) ⟨hx, hb, hml, hown, hts⟩ (c_Mo_isShared l G b v8 v7 ((N 118 v6.toNatClampNeg).toInt64) a1 a2 M N hw) (cwV 5 hts (z_good (zgV wd912 wd914 wsel24 wd7 wd915)) rfl rfl rfl ⟨rfl, hd_Mo_isShared⟩ ⟨Nat.le_of_ble_eq_true rfl, Nat.le_of_ble_eq_true rfl⟩) (z_preV zo_Mo rfl rfl hZ hK hT hS) rfl rfl hl.1 rfl (lv_room (Nat.le_of_ble_eq_true rfl)) d_Mo_share_92 ⟨Nat.le_of_ble_eq_true rfl, Nat.le_of_ble_eq_true rfl⟩) hS (fun r17 M18 N19 H locs hw hZ hS => ?_)
                obtain ⟨hw, eN19⟩ := hw
                rw [eN19] at hZ
                refine lv_if_ne (pc := 95) (tgt := 121) hx hb d_Mo_share_95 (by decide) (fun hc => ?_) (fun hc => ?_)
                · have hw := hw.1 hc
                  refine lv_iconst (pc := 121) (v := 1) hx hb d_Mo_share_121 (by decide) ?_
                  refine lv_goto (pc := 122) (tgt := 126) hx hb d_Mo_share_122 (by decide) ?_
                  refine lv_istore (pc := 126) (lv' := [(5, .int (1 : Int32)), (0, .ref (b + 99)), (1, .ref (b + a1)), (2, .ref (b + a2)), (3, .long v3), (6, .int v6), (7, .int v7), (8, .long v8)]) hx hb d_Mo_share_126 hl (by decide) rfl (fun ls hl => ?_)
                  refine lv_lload (pc := 128) hx hb d_Mo_share_128 (lv_at hl 7 rfl) ?_
                  refine lv_lconst (pc := 130) (v := 1) hx hb d_Mo_share_130 (by decide) ?_
                  refine lv_ladd (pc := 131) hx hb d_Mo_share_131 ?_
                  refine lv_topl (fun x20 hx20 => ?_)
                  have hw := hw x20 hx20
                  refine lv_lstore (pc := 132) (lv' := [(8, .long x20), (5, .int (1 : Int32)), (0, .ref (b + 99)), (1, .ref (b + a1)), (2, .ref (b + a2)), (3, .long v3), (6, .int v6), (7, .int v7)]) hx hb d_Mo_share_132 hl (by decide) rfl (fun ls hl => ?_)
                  refine lv_goto (pc := 134) (tgt := 53) hx hb d_Mo_share_134 (by decide) ?_
                  exact ih53 (1 : Int32) x20 M18 _ _ _ hZ hS (lv_sub hl [2, 3, 4, 5, 1, 6, 7, 0] rfl) hw
                · have hw := hw.2 hc
                  refine lv_aload_n (pc := 98) hx hb d_Mo_share_98 rfl (lv_at hl 0 rfl) ?_
                  refine lv_lload_n (pc := 99) hx hb d_Mo_share_99 rfl (lv_at hl 3 rfl) ?_
                  refine lv_lload (pc := 100) hx hb d_Mo_share_100 (lv_at hl 7 rfl) ?_
                  obtain ⟨hc, hw⟩ := hw
                  refine lv_ldiv (pc := 102) hx hb d_Mo_share_102 hc ?_
                  refine lv_iload (pc := 103) hx hb d_Mo_share_103 (lv_at hl 6 rfl) ?_
                  refine lv_aload_n (pc := 105) hx hb d_Mo_share_105 rfl (lv_at hl 0 rfl) ?_
                  refine zg_Mo_75 (pc := 106) hx hb hta hown hK hZ d_Mo_share_106 ?_
                  refine lv_iload (pc := 109) hx hb d_Mo_share_109 (lv_at hl 5 rfl) ?_
                  obtain ⟨hc, hw⟩ := hw
                  refine z_iald (pc := 111) hx hb hK hZ hc d_Mo_share_111 ?_
                  refine lv_i2l (pc := 112) (v := (N 118 v6.toNatClampNeg).toInt64) hx hb d_Mo_share_112 rfl ?_
                  refine lv_aload_n (pc := 113) hx hb d_Mo_share_113 rfl (lv_at hl 1 rfl) ?_
                  refine lv_aload_n (pc := 114) hx hb d_Mo_share_114 rfl (lv_at hl 2 rfl) ?_
                  refine z_calli (pc := 115) (va_runV (C := R_Mo) (b := b + 99) (As := [.long (v3 / v8), .int v7, .long ((N 118 v6.toNatClampNeg).toInt64), .ref (b + a1), .ref (b + a2)]) (rest := []) ⟨hx, hb, hml, hown, hts⟩ (c_Mo_isShared l G b (v3 / v8) v7 ((N 118 v6.toNatClampNeg).toInt64) a1 a2 M18 N hw) (cwV 5 hts (z_good (zgV wd912 wd914 wsel24 wd7 wd915)) rfl rfl rfl ⟨rfl, hd_Mo_isShared⟩ ⟨Nat.le_of_ble_eq_true rfl, Nat.le_of_ble_eq_true rfl⟩) (z_preV zo_Mo rfl rfl hZ hK hT hS) rfl rfl hl.1 rfl (lv_room (Nat.le_of_ble_eq_true rfl)) d_Mo_share_115 ⟨Nat.le_of_ble_eq_true rfl, Nat.le_of_ble_eq_true rfl⟩) hS (fun r21 M22 N23 H locs hw hZ hS => ?_)
                  obtain ⟨hw, eN23⟩ := hw
                  rw [eN23] at hZ
                  refine lv_if_eq (pc := 118) (tgt := 125) hx hb d_Mo_share_118 (by decide) (fun hc => ?_) (fun hc => ?_)
                  · have hw := hw.1 hc
                    refine lv_iconst (pc := 125) (v := 0) hx hb d_Mo_share_125 (by decide) ?_
                    refine lv_istore (pc := 126) (lv' := [(5, .int (0 : Int32)), (0, .ref (b + 99)), (1, .ref (b + a1)), (2, .ref (b + a2)), (3, .long v3), (6, .int v6), (7, .int v7), (8, .long v8)]) hx hb d_Mo_share_126 hl (by decide) rfl (fun ls hl => ?_)
                    refine lv_lload (pc := 128) hx hb d_Mo_share_128 (lv_at hl 7 rfl) ?_
                    refine lv_lconst (pc := 130) (v := 1) hx hb d_Mo_share_130 (by decide) ?_
                    refine lv_ladd (pc := 131) hx hb d_Mo_share_131 ?_
                    refine lv_topl (fun x24 hx24 => ?_)
                    have hw := hw x24 hx24
                    refine lv_lstore (pc := 132) (lv' := [(8, .long x24), (5, .int (0 : Int32)), (0, .ref (b + 99)), (1, .ref (b + a1)), (2, .ref (b + a2)), (3, .long v3), (6, .int v6), (7, .int v7)]) hx hb d_Mo_share_132 hl (by decide) rfl (fun ls hl => ?_)
                    refine lv_goto (pc := 134) (tgt := 53) hx hb d_Mo_share_134 (by decide) ?_
                    exact ih53 (0 : Int32) x24 M22 _ _ _ hZ hS (lv_sub hl [2, 3, 4, 5, 1, 6, 7, 0] rfl) hw
                  · have hw := hw.2 hc
                    refine lv_iconst (pc := 121) (v := 1) hx hb d_Mo_share_121 (by decide) ?_
                    refine lv_goto (pc := 122) (tgt := 126) hx hb d_Mo_share_122 (by decide) ?_
                    refine lv_istore (pc := 126) (lv' := [(5, .int (1 : Int32)), (0, .ref (b + 99)), (1, .ref (b + a1)), (2, .ref (b + a2)), (3, .long v3), (6, .int v6), (7, .int v7), (8, .long v8)]) hx hb d_Mo_share_126 hl (by decide) rfl (fun ls hl => ?_)
                    refine lv_lload (pc := 128) hx hb d_Mo_share_128 (lv_at hl 7 rfl) ?_
                    refine lv_lconst (pc := 130) (v := 1) hx hb d_Mo_share_130 (by decide) ?_
                    refine lv_ladd (pc := 131) hx hb d_Mo_share_131 ?_
                    refine lv_topl (fun x25 hx25 => ?_)
                    have hw := hw x25 hx25
                    refine lv_lstore (pc := 132) (lv' := [(8, .long x25), (5, .int (1 : Int32)), (0, .ref (b + 99)), (1, .ref (b + a1)), (2, .ref (b + a2)), (3, .long v3), (6, .int v6), (7, .int v7)]) hx hb d_Mo_share_132 hl (by decide) rfl (fun ls hl => ?_)
                    refine lv_goto (pc := 134) (tgt := 53) hx hb d_Mo_share_134 (by decide) ?_
                    exact ih53 (1 : Int32) x25 M22 _ _ _ hZ hS (lv_sub hl [2, 3, 4, 5, 1, 6, 7, 0] rfl) hw
      intro v5 v6 M H ls locs hZ hS hl hw
      have hw : B_Mo_share_22 P a1 a2 v3 N (L_Mo_share_22 P a1 a2 v3 N n22) v5 v6 M := hw
      unfold B_Mo_share_22 at hw
      refine lv_iload (pc := 22) hx hb d_Mo_share_22 (lv_at hl 5 rfl) ?_
      refine lv_bipush (pc := 24) (v := 10) hx hb d_Mo_share_24 (by decide) ?_
      refine lv_icmp_ge (pc := 26) (tgt := 143) hx hb d_Mo_share_26 (by decide) (fun hc => ?_) (fun hc => ?_)
      · have hw := hw.1 hc
        exact j143 M _ _ _ hZ hS (lv_sub hl [0] rfl) hw
      · have hw := hw.2 hc
        refine lv_iload (pc := 29) hx hb d_Mo_share_29 (lv_at hl 4 rfl) ?_
        refine lv_if_ne (pc := 31) (tgt := 143) hx hb d_Mo_share_31 (by decide) (fun hc => ?_) (fun hc => ?_)
        · have hw := hw.1 hc
          exact j143 M _ _ _ hZ hS (lv_sub hl [0] rfl) hw
        · have hw := hw.2 hc
          refine lv_aload_n (pc := 34) hx hb d_Mo_share_34 rfl (lv_at hl 0 rfl) ?_
          refine lv_aload_n (pc := 35) hx hb d_Mo_share_35 rfl (lv_at hl 1 rfl) ?_
          refine lv_aload_n (pc := 36) hx hb d_Mo_share_36 rfl (lv_at hl 2 rfl) ?_
          refine lv_aload_n (pc := 37) hx hb d_Mo_share_37 rfl (lv_at hl 0 rfl) ?_
          refine zg_Mo_75 (pc := 38) hx hb hta hown hK hZ d_Mo_share_38 ?_
          refine lv_iload (pc := 41) hx hb d_Mo_share_41 (lv_at hl 5 rfl) ?_
          obtain ⟨hc, hw⟩ := hw
          refine z_iald (pc := 43) hx hb hK hZ hc d_Mo_share_43 ?_
          refine lv_i2l (pc := 44) (v := (N 118 v6.toNatClampNeg).toInt64) hx hb d_Mo_share_44 rfl ?_
          refine z_calli (pc := 45) (va_runV (C := R_Mo) (b := b + 99) (As := [.ref (b + a1), .ref (b + a2), .long ((N 118 v6.toNatClampNeg).toInt64)]) (rest := []) ⟨hx, hb, hml, hown, hts⟩ (c_Mo_euclid l G b a1 a2 ((N 118 v6.toNatClampNeg).toInt64) M N hw) (cwV 3 hts (z_good (zgV wd898 wd900 wsel23 wd7 wd901)) rfl rfl rfl ⟨rfl, hd_Mo_euclid⟩ ⟨Nat.le_of_ble_eq_true rfl, Nat.le_of_ble_eq_true rfl⟩) (z_preV zo_Mo rfl rfl hZ hK hT hS) rfl rfl hl.1 rfl (lv_room (Nat.le_of_ble_eq_true rfl)) d_Mo_share_45 ⟨Nat.le_of_ble_eq_true rfl, Nat.le_of_ble_eq_true rfl⟩) hS (fun r10 M11 N12 H locs hw hZ hS => ?_)
          obtain ⟨hw, eN12⟩ := hw
          rw [eN12] at hZ
          refine lv_istore (pc := 48) (lv' := [(7, .int r10), (0, .ref (b + 99)), (1, .ref (b + a1)), (2, .ref (b + a2)), (3, .long v3), (5, .int v5), (6, .int v6)]) hx hb d_Mo_share_48 hl (by decide) rfl (fun ls hl => ?_)
          refine lv_lconst (pc := 50) (v := 1) hx hb d_Mo_share_50 (by decide) ?_
          refine lv_lstore (pc := 51) (lv' := [(8, .long (1 : Int64)), (7, .int r10), (0, .ref (b + 99)), (1, .ref (b + a1)), (2, .ref (b + a2)), (3, .long v3), (5, .int v5), (6, .int v6)]) hx hb d_Mo_share_51 hl (by decide) rfl (fun ls hl => ?_)
          obtain ⟨n, hw⟩ := hw
          exact lp53 v6 r10 n v5 (1 : Int64) M11 _ _ _ hZ hS (lv_sub hl [2, 3, 4, 5, 6, 7, 1, 0] rfl) hw
  unfold w_Mo_share at hw
  refine lv_aload_n (pc := 0) hx hb d_Mo_share_0 rfl (lv_at hl 1 rfl) ?_
  refine lv_aload_n (pc := 1) hx hb d_Mo_share_1 rfl (lv_at hl 1 rfl) ?_
  refine z_calli (pc := 2) (va_runS (As := [.ref (b + a1)]) (rest := [.ref (b + a1)]) ⟨hx, hb, hml, hown, hts⟩ (c_Mo_degreeOf l G b a1 M N hw) (va_cwS 1 hts (z_good (zgS wd814 wd815 wd7 wd816)) rfl rfl rfl hd_Mo_degreeOf ⟨Nat.le_of_ble_eq_true rfl, Nat.le_of_ble_eq_true rfl⟩) (z_preS hZ hK hT hS) rfl rfl hl.1 rfl (lv_room (Nat.le_of_ble_eq_true rfl)) d_Mo_share_2 ⟨Nat.le_of_ble_eq_true rfl, Nat.le_of_ble_eq_true rfl⟩) hS (fun r1 M2 N3 H locs hw hZ hS => ?_)
  obtain ⟨hw, eM2, eN3⟩ := hw
  rw [eM2, eN3] at hZ
  obtain ⟨hc, hw⟩ := hw
  refine z_lald (pc := 5) hx hb hK hZ hc d_Mo_share_5 ?_
  refine lv_aload_n (pc := 6) hx hb d_Mo_share_6 rfl (lv_at hl 2 rfl) ?_
  refine lv_aload_n (pc := 7) hx hb d_Mo_share_7 rfl (lv_at hl 2 rfl) ?_
  refine z_calli (pc := 8) (va_runS (As := [.ref (b + a2)]) (rest := [.ref (b + a2), .long (M a1 r1.toNatClampNeg)]) ⟨hx, hb, hml, hown, hts⟩ (c_Mo_degreeOf l G b a2 M N hw) (va_cwS 1 hts (z_good (zgS wd814 wd815 wd7 wd816)) rfl rfl rfl hd_Mo_degreeOf ⟨Nat.le_of_ble_eq_true rfl, Nat.le_of_ble_eq_true rfl⟩) (z_preS hZ hK hT hS) rfl rfl hl.1 rfl (lv_room (Nat.le_of_ble_eq_true rfl)) d_Mo_share_8 ⟨Nat.le_of_ble_eq_true rfl, Nat.le_of_ble_eq_true rfl⟩) hS (fun r4 M5 N6 H locs hw hZ hS => ?_)
  obtain ⟨hw, eM5, eN6⟩ := hw
  rw [eM5, eN6] at hZ
  obtain ⟨hc, hw⟩ := hw
  refine z_lald (pc := 11) hx hb hK hZ hc d_Mo_share_11 ?_
  refine z_calll (pc := 12) (va_runS (As := [.long (M a1 r1.toNatClampNeg), .long (M a2 r4.toNatClampNeg)]) (rest := []) ⟨hx, hb, hml, hown, hts⟩ (c_Mo_divisor l G b (M a1 r1.toNatClampNeg) (M a2 r4.toNatClampNeg) M N hw) (va_cwS 2 hts (z_good (zgS wd883 wd884 wd7 wd885)) rfl rfl rfl hd_Mo_divisor ⟨Nat.le_of_ble_eq_true rfl, Nat.le_of_ble_eq_true rfl⟩) (z_preS hZ hK hT hS) rfl rfl hl.1 rfl (lv_room (Nat.le_of_ble_eq_true rfl)) d_Mo_share_12 ⟨Nat.le_of_ble_eq_true rfl, Nat.le_of_ble_eq_true rfl⟩) hS (fun r7 M8 N9 H locs hw hZ hS => ?_)
  obtain ⟨hw, eM8, eN9⟩ := hw
  rw [eM8, eN9] at hZ
  refine lv_lstore_n (pc := 15) (lv' := [(3, .long r7), (0, .ref (b + 99)), (1, .ref (b + a1)), (2, .ref (b + a2))]) hx hb d_Mo_share_15 rfl hl (by decide) rfl (fun ls hl => ?_)
  refine lv_iconst (pc := 16) (v := 0) hx hb d_Mo_share_16 (by decide) ?_
  refine lv_istore (pc := 17) (lv' := [(5, .int (0 : Int32)), (3, .long r7), (0, .ref (b + 99)), (1, .ref (b + a1)), (2, .ref (b + a2))]) hx hb d_Mo_share_17 hl (by decide) rfl (fun ls hl => ?_)
  refine lv_iconst (pc := 19) (v := 0) hx hb d_Mo_share_19 (by decide) ?_
  refine lv_istore (pc := 20) (lv' := [(6, .int (0 : Int32)), (5, .int (0 : Int32)), (3, .long r7), (0, .ref (b + 99)), (1, .ref (b + a1)), (2, .ref (b + a2))]) hx hb d_Mo_share_20 hl (by decide) rfl (fun ls hl => ?_)
  obtain ⟨n, hw⟩ := hw
  exact lp22 r7 n (0 : Int32) (0 : Int32) M _ _ _ hZ hS (lv_sub hl [3, 4, 5, 2, 1, 0] rfl) hw
theorem wsel22 : Cond.selects R_Mo y_Mo_share y_Mo_share ∈ zall := List.mem_filter.mpr ⟨List.mem_append_left _ (List.mem_of_getElem? (i := 22) rfl), by decide +kernel⟩
theorem d_Mo_common_0 : decode prog_10_method_34_code 0 = .ok (.aload_n 0, 1) := by decide +kernel
theorem d_Mo_common_1 : decode prog_10_method_34_code 1 = .ok (.iload_n 1, 1) := by decide +kernel
theorem d_Mo_common_2 : decode prog_10_method_34_code 2 = .ok (.invokestatic 98, 3) := by decide +kernel
theorem d_Mo_common_5 : decode prog_10_method_34_code 5 = .ok (.ifCond .eq 21, 3) := by decide +kernel
theorem d_Mo_common_8 : decode prog_10_method_34_code 8 = .ok (.iload_n 2, 1) := by decide +kernel
theorem d_Mo_common_9 : decode prog_10_method_34_code 9 = .ok (.invokestatic 98, 3) := by decide +kernel
theorem d_Mo_common_12 : decode prog_10_method_34_code 12 = .ok (.ifCond .eq 14, 3) := by decide +kernel
theorem d_Mo_common_15 : decode prog_10_method_34_code 15 = .ok (.iload_n 3, 1) := by decide +kernel
theorem d_Mo_common_16 : decode prog_10_method_34_code 16 = .ok (.invokestatic 98, 3) := by decide +kernel
theorem d_Mo_common_19 : decode prog_10_method_34_code 19 = .ok (.ifCond .eq 7, 3) := by decide +kernel
theorem d_Mo_common_22 : decode prog_10_method_34_code 22 = .ok (.iconst 0, 1) := by decide +kernel
theorem d_Mo_common_23 : decode prog_10_method_34_code 23 = .ok (.goto 4, 3) := by decide +kernel
theorem d_Mo_common_26 : decode prog_10_method_34_code 26 = .ok (.iconst 1, 1) := by decide +kernel
theorem d_Mo_common_27 : decode prog_10_method_34_code 27 = .ok (.putfield 78, 3) := by decide +kernel
theorem d_Mo_common_30 : decode prog_10_method_34_code 30 = .ok (.aload_n 0, 1) := by decide +kernel
theorem d_Mo_common_31 : decode prog_10_method_34_code 31 = .ok (.getfield 78, 3) := by decide +kernel
theorem d_Mo_common_34 : decode prog_10_method_34_code 34 = .ok (.ifCond .le 5, 3) := by decide +kernel
theorem d_Mo_common_37 : decode prog_10_method_34_code 37 = .ok (.iconst 0, 1) := by decide +kernel
theorem d_Mo_common_38 : decode prog_10_method_34_code 38 = .ok (.ireturn, 1) := by decide +kernel
theorem d_Mo_common_39 : decode prog_10_method_34_code 39 = .ok (.aload_n 0, 1) := by decide +kernel
theorem d_Mo_common_40 : decode prog_10_method_34_code 40 = .ok (.iload_n 2, 1) := by decide +kernel
theorem d_Mo_common_41 : decode prog_10_method_34_code 41 = .ok (.aload_n 0, 1) := by decide +kernel
theorem d_Mo_common_42 : decode prog_10_method_34_code 42 = .ok (.getfield 29, 3) := by decide +kernel
theorem d_Mo_common_45 : decode prog_10_method_34_code 45 = .ok (.invokevirtual 104, 3) := by decide +kernel
theorem d_Mo_common_48 : decode prog_10_method_34_code 48 = .ok (.aload_n 0, 1) := by decide +kernel
theorem d_Mo_common_49 : decode prog_10_method_34_code 49 = .ok (.iload_n 3, 1) := by decide +kernel
theorem d_Mo_common_50 : decode prog_10_method_34_code 50 = .ok (.aload_n 0, 1) := by decide +kernel
theorem d_Mo_common_51 : decode prog_10_method_34_code 51 = .ok (.getfield 32, 3) := by decide +kernel
theorem d_Mo_common_54 : decode prog_10_method_34_code 54 = .ok (.invokevirtual 104, 3) := by decide +kernel
theorem d_Mo_common_57 : decode prog_10_method_34_code 57 = .ok (.aload_n 0, 1) := by decide +kernel
theorem d_Mo_common_58 : decode prog_10_method_34_code 58 = .ok (.getfield 29, 3) := by decide +kernel
theorem d_Mo_common_61 : decode prog_10_method_34_code 61 = .ok (.invokestatic 133, 3) := by decide +kernel
theorem d_Mo_common_64 : decode prog_10_method_34_code 64 = .ok (.lstore 4, 2) := by decide +kernel
theorem d_Mo_common_66 : decode prog_10_method_34_code 66 = .ok (.aload_n 0, 1) := by decide +kernel
theorem d_Mo_common_67 : decode prog_10_method_34_code 67 = .ok (.getfield 32, 3) := by decide +kernel
theorem d_Mo_common_70 : decode prog_10_method_34_code 70 = .ok (.invokestatic 133, 3) := by decide +kernel
theorem d_Mo_common_73 : decode prog_10_method_34_code 73 = .ok (.lstore 6, 2) := by decide +kernel
theorem d_Mo_common_75 : decode prog_10_method_34_code 75 = .ok (.lload 4, 2) := by decide +kernel
theorem d_Mo_common_77 : decode prog_10_method_34_code 77 = .ok (.lconst 0, 1) := by decide +kernel
theorem d_Mo_common_78 : decode prog_10_method_34_code 78 = .ok (.lcmp, 1) := by decide +kernel
theorem d_Mo_common_79 : decode prog_10_method_34_code 79 = .ok (.ifCond .eq 10, 3) := by decide +kernel
theorem d_Mo_common_82 : decode prog_10_method_34_code 82 = .ok (.lload 6, 2) := by decide +kernel
theorem d_Mo_common_84 : decode prog_10_method_34_code 84 = .ok (.lconst 0, 1) := by decide +kernel
theorem d_Mo_common_85 : decode prog_10_method_34_code 85 = .ok (.lcmp, 1) := by decide +kernel
theorem d_Mo_common_86 : decode prog_10_method_34_code 86 = .ok (.ifCond .ne 62, 3) := by decide +kernel
theorem d_Mo_common_89 : decode prog_10_method_34_code 89 = .ok (.lload 4, 2) := by decide +kernel
theorem d_Mo_common_91 : decode prog_10_method_34_code 91 = .ok (.lconst 0, 1) := by decide +kernel
theorem d_Mo_common_92 : decode prog_10_method_34_code 92 = .ok (.lcmp, 1) := by decide +kernel
theorem d_Mo_common_93 : decode prog_10_method_34_code 93 = .ok (.ifCond .ne 10, 3) := by decide +kernel
theorem d_Mo_common_96 : decode prog_10_method_34_code 96 = .ok (.aload_n 0, 1) := by decide +kernel
theorem d_Mo_common_97 : decode prog_10_method_34_code 97 = .ok (.getfield 32, 3) := by decide +kernel
theorem d_Mo_common_100 : decode prog_10_method_34_code 100 = .ok (.goto 7, 3) := by decide +kernel
theorem d_Mo_common_103 : decode prog_10_method_34_code 103 = .ok (.aload_n 0, 1) := by decide +kernel
theorem d_Mo_common_104 : decode prog_10_method_34_code 104 = .ok (.getfield 29, 3) := by decide +kernel
theorem d_Mo_common_107 : decode prog_10_method_34_code 107 = .ok (.astore 8, 2) := by decide +kernel
theorem d_Mo_common_109 : decode prog_10_method_34_code 109 = .ok (.aload 8, 2) := by decide +kernel
theorem d_Mo_common_111 : decode prog_10_method_34_code 111 = .ok (.invokestatic 82, 3) := by decide +kernel
theorem d_Mo_common_114 : decode prog_10_method_34_code 114 = .ok (.istore 9, 2) := by decide +kernel
theorem d_Mo_common_116 : decode prog_10_method_34_code 116 = .ok (.iload 9, 2) := by decide +kernel
theorem d_Mo_common_118 : decode prog_10_method_34_code 118 = .ok (.ifCond .lt 21, 3) := by decide +kernel
theorem d_Mo_common_121 : decode prog_10_method_34_code 121 = .ok (.aload 8, 2) := by decide +kernel
theorem d_Mo_common_123 : decode prog_10_method_34_code 123 = .ok (.iload 9, 2) := by decide +kernel
theorem d_Mo_common_125 : decode prog_10_method_34_code 125 = .ok (.laload, 1) := by decide +kernel
theorem d_Mo_common_126 : decode prog_10_method_34_code 126 = .ok (.lconst 0, 1) := by decide +kernel
theorem d_Mo_common_127 : decode prog_10_method_34_code 127 = .ok (.lcmp, 1) := by decide +kernel
theorem d_Mo_common_128 : decode prog_10_method_34_code 128 = .ok (.ifCond .ge 11, 3) := by decide +kernel
theorem d_Mo_common_131 : decode prog_10_method_34_code 131 = .ok (.aload 8, 2) := by decide +kernel
theorem d_Mo_common_133 : decode prog_10_method_34_code 133 = .ok (.ldc2_w 161, 3) := by decide +kernel
theorem d_Mo_common_136 : decode prog_10_method_34_code 136 = .ok (.invokestatic 163, 3) := by decide +kernel
theorem d_Mo_common_139 : decode prog_10_method_34_code 139 = .ok (.aload_n 0, 1) := by decide +kernel
theorem d_Mo_common_140 : decode prog_10_method_34_code 140 = .ok (.iload_n 1, 1) := by decide +kernel
theorem d_Mo_common_141 : decode prog_10_method_34_code 141 = .ok (.aload 8, 2) := by decide +kernel
theorem d_Mo_common_143 : decode prog_10_method_34_code 143 = .ok (.iconst 2, 1) := by decide +kernel
theorem d_Mo_common_144 : decode prog_10_method_34_code 144 = .ok (.invokevirtual 116, 3) := by decide +kernel
theorem d_Mo_common_147 : decode prog_10_method_34_code 147 = .ok (.ireturn, 1) := by decide +kernel
theorem d_Mo_common_148 : decode prog_10_method_34_code 148 = .ok (.aload_n 0, 1) := by decide +kernel
theorem d_Mo_common_149 : decode prog_10_method_34_code 149 = .ok (.getfield 29, 3) := by decide +kernel
theorem d_Mo_common_152 : decode prog_10_method_34_code 152 = .ok (.lload 4, 2) := by decide +kernel
theorem d_Mo_common_154 : decode prog_10_method_34_code 154 = .ok (.invokestatic 163, 3) := by decide +kernel
theorem d_Mo_common_157 : decode prog_10_method_34_code 157 = .ok (.aload_n 0, 1) := by decide +kernel
theorem d_Mo_common_158 : decode prog_10_method_34_code 158 = .ok (.getfield 32, 3) := by decide +kernel
theorem d_Mo_common_161 : decode prog_10_method_34_code 161 = .ok (.lload 6, 2) := by decide +kernel
theorem d_Mo_common_163 : decode prog_10_method_34_code 163 = .ok (.invokestatic 163, 3) := by decide +kernel
theorem d_Mo_common_166 : decode prog_10_method_34_code 166 = .ok (.aload_n 0, 1) := by decide +kernel
theorem d_Mo_common_167 : decode prog_10_method_34_code 167 = .ok (.aload_n 0, 1) := by decide +kernel
theorem d_Mo_common_168 : decode prog_10_method_34_code 168 = .ok (.getfield 29, 3) := by decide +kernel
theorem d_Mo_common_171 : decode prog_10_method_34_code 171 = .ok (.aload_n 0, 1) := by decide +kernel
theorem d_Mo_common_172 : decode prog_10_method_34_code 172 = .ok (.getfield 32, 3) := by decide +kernel
theorem d_Mo_common_175 : decode prog_10_method_34_code 175 = .ok (.invokevirtual 167, 3) := by decide +kernel
theorem d_Mo_common_178 : decode prog_10_method_34_code 178 = .ok (.lload 4, 2) := by decide +kernel
theorem d_Mo_common_180 : decode prog_10_method_34_code 180 = .ok (.lload 6, 2) := by decide +kernel
theorem d_Mo_common_182 : decode prog_10_method_34_code 182 = .ok (.invokestatic 94, 3) := by decide +kernel
theorem d_Mo_common_185 : decode prog_10_method_34_code 185 = .ok (.lstore 8, 2) := by decide +kernel
theorem d_Mo_common_187 : decode prog_10_method_34_code 187 = .ok (.iconst 0, 1) := by decide +kernel
theorem d_Mo_common_188 : decode prog_10_method_34_code 188 = .ok (.istore 10, 2) := by decide +kernel
theorem d_Mo_common_190 : decode prog_10_method_34_code 190 = .ok (.iload 10, 2) := by decide +kernel
theorem d_Mo_common_192 : decode prog_10_method_34_code 192 = .ok (.bipush 16, 2) := by decide +kernel
theorem d_Mo_common_194 : decode prog_10_method_34_code 194 = .ok (.if_icmp .ge 26, 3) := by decide +kernel
theorem d_Mo_common_197 : decode prog_10_method_34_code 197 = .ok (.aload_n 0, 1) := by decide +kernel
theorem d_Mo_common_198 : decode prog_10_method_34_code 198 = .ok (.getfield 35, 3) := by decide +kernel
theorem d_Mo_common_201 : decode prog_10_method_34_code 201 = .ok (.iload 10, 2) := by decide +kernel
theorem d_Mo_common_203 : decode prog_10_method_34_code 203 = .ok (.aload_n 0, 1) := by decide +kernel
theorem d_Mo_common_204 : decode prog_10_method_34_code 204 = .ok (.getfield 50, 3) := by decide +kernel
theorem d_Mo_common_207 : decode prog_10_method_34_code 207 = .ok (.iload 10, 2) := by decide +kernel
theorem d_Mo_common_209 : decode prog_10_method_34_code 209 = .ok (.laload, 1) := by decide +kernel
theorem d_Mo_common_210 : decode prog_10_method_34_code 210 = .ok (.lload 8, 2) := by decide +kernel
theorem d_Mo_common_212 : decode prog_10_method_34_code 212 = .ok (.lmul, 1) := by decide +kernel
theorem d_Mo_common_213 : decode prog_10_method_34_code 213 = .ok (.lastore, 1) := by decide +kernel
theorem d_Mo_common_214 : decode prog_10_method_34_code 214 = .ok (.iinc 10 1, 3) := by decide +kernel
theorem d_Mo_common_217 : decode prog_10_method_34_code 217 = .ok (.goto (-27), 3) := by decide +kernel
theorem d_Mo_common_220 : decode prog_10_method_34_code 220 = .ok (.aload_n 0, 1) := by decide +kernel
theorem d_Mo_common_221 : decode prog_10_method_34_code 221 = .ok (.iload_n 1, 1) := by decide +kernel
theorem d_Mo_common_222 : decode prog_10_method_34_code 222 = .ok (.aload_n 0, 1) := by decide +kernel
theorem d_Mo_common_223 : decode prog_10_method_34_code 223 = .ok (.getfield 35, 3) := by decide +kernel
theorem d_Mo_common_226 : decode prog_10_method_34_code 226 = .ok (.iconst 2, 1) := by decide +kernel
theorem d_Mo_common_227 : decode prog_10_method_34_code 227 = .ok (.invokevirtual 116, 3) := by decide +kernel
theorem d_Mo_common_230 : decode prog_10_method_34_code 230 = .ok (.ireturn, 1) := by decide +kernel
def J_Mo_common_139 (P : Int32 → zM → zN → Prop) (a1 : Int32) (v8 : Nat) (M : zM) (N : zN) : Prop := w_Mo_settle a1 v8 (2 : Int32) M N (fun r45 N47 => P r45 M N47)
def J_Mo_common_107 (P : Int32 → zM → zN → Prop) (a1 : Int32) (t0 : Nat) (M : zM) (N : zN) : Prop := w_Mo_degreeOf t0 M (fun r39 => (r39 < 0 → J_Mo_common_139 P a1 t0 M N) ∧ (¬ r39 < 0 → vp_in r39 (zlong t0) ∧ ((0 : Int64) ≤ (M t0 r39.toNatClampNeg) → J_Mo_common_139 P a1 t0 M N) ∧ (¬ (0 : Int64) ≤ (M t0 r39.toNatClampNeg) → w_Mo_scale t0 (-1 : Int64) M (fun M43 => J_Mo_common_139 P a1 t0 M43 N))))
def J_Mo_common_89 (P : Int32 → zM → zN → Prop) (a1 : Int32) (v4 : Int64) (M : zM) (N : zN) : Prop := (¬ v4 = (0 : Int64) → J_Mo_common_107 P a1 106 M N) ∧ (v4 = (0 : Int64) → J_Mo_common_107 P a1 107 M N)
def B_Mo_common_190 (P : Int32 → zM → zN → Prop) (a1 : Int32) (v8 : Int64) (N : zN) (k190 : Int32 → zM → Prop) (v10 : Int32) (M : zM) : Prop := ((16 : Int32) ≤ v10 → w_Mo_settle a1 108 (2 : Int32) M N (fun r35 N37 => P r35 M N37)) ∧ (¬ (16 : Int32) ≤ v10 → vp_in v10 (zlong 113) ∧ vp_in v10 (zlong 108) ∧ ∀ M38 : zM, M38 = zput M 108 v10.toNatClampNeg ((M 113 v10.toNatClampNeg) * v8) → k190 (v10 + (1 : Int32)) M38)
def L_Mo_common_190 (P : Int32 → zM → zN → Prop) (a1 : Int32) (v8 : Int64) (N : zN) (n : Nat) : Int32 → zM → Prop := Nat.rec (fun _ _ => False) (fun _ k => B_Mo_common_190 P a1 v8 N k) n
def J_Mo_common_27 (P : Int32 → zM → zN → Prop) (a1 : Int32) (a2 : Int32) (a3 : Int32) (t0 : Int32) (M : zM) (N : zN) : Prop := ∀ N10 : zN, N10 = zpui N 99 0 t0 → ((N10 99 0) ≤ 0 → w_Mo_load a2 106 M N10 (fun M12 => w_Mo_load a3 107 M12 N10 (fun M15 => w_Mo_contentOf 106 M15 (fun r17 => w_Mo_contentOf 107 M15 (fun r20 => (r17 = (0 : Int64) → J_Mo_common_89 P a1 r17 M15 N10) ∧ (¬ r17 = (0 : Int64) → (¬ r20 = (0 : Int64) → w_Mo_scale 106 r17 M15 (fun M24 => w_Mo_scale 107 r20 M24 (fun M27 => w_Mo_share 106 107 M27 N10 (fun M30 => w_Mo_divisor r17 r20  (fun r32 => ∃ n, L_Mo_common_190 P a1 r32 N10 n (0 : Int32) M30))))) ∧ (r20 = (0 : Int64) → J_Mo_common_89 P a1 r17 M15 N10))))))) ∧ (¬ (N10 99 0) ≤ 0 → P (0 : Int32) M N10)
def w_Mo_common (a1 : Int32) (a2 : Int32) (a3 : Int32) (M : zM) (N : zN) (P : Int32 → zM → zN → Prop) : Prop := w_Mo_isRegister a1  (fun r1 => (r1 = 0 → J_Mo_common_27 P a1 a2 a3 (1 : Int32) M N) ∧ (¬ r1 = 0 → w_Mo_isRegister a2  (fun r4 => (r4 = 0 → J_Mo_common_27 P a1 a2 a3 (1 : Int32) M N) ∧ (¬ r4 = 0 → w_Mo_isRegister a3  (fun r7 => (r7 = 0 → J_Mo_common_27 P a1 a2 a3 (1 : Int32) M N) ∧ (¬ r7 = 0 → J_Mo_common_27 P a1 a2 a3 (0 : Int32) M N))))))
def ws_Mo_common : List Cond := .code y_Mo_common prog_10_method_34_code 11 (Option.some Jvm.ClassFile.FieldType.int) :: zall
def rm_Mo_common : Room := { frames := 5, cells := 0, slots := 0, locals := 129 }
theorem hd_Mo_common : y_Mo_common.cls ≠ "java/lang/invoke/MethodHandle" ∧ y_Mo_common.cls ≠ "java/lang/invoke/VarHandle" ∧ (parseMethodDescriptor y_Mo_common.desc).map (fun d => d.parameters.length) = some 3 := by decide +kernel
set_option maxHeartbeats 4000000 in
set_option maxRecDepth 100000 in
theorem c_Mo_common (l : Launch) (G : zG) (b : Nat) (a1 : Int32) (a2 : Int32) (a3 : Int32) (M : zM) (N : zN) {P : Int32 → zM → zN → Prop} (hw : w_Mo_common a1 a2 a3 M N P) : Met l y_Mo_common ws_Mo_common rm_Mo_common (zPc G b M N [.ref (b + 99), .int a1, .int a2, .int a3]) (zQi G b (fun r M' N' => P r M' N')) 0 0 (zA b) := by
  refine Met.ofW (cc := prog_10_method_34_code) (maxL := 11) (ret := (Option.some Jvm.ClassFile.FieldType.int)) (by decide) rfl ?_
  intro p e s m args below meth c s₁ B hml hv
  obtain ⟨rfl, hZ, hK, hT⟩ := hv
  have hx := B.exec
  have hb := B.bytes
  have hr := B.returns
  have hts := atoms_spec (ws := ws_Mo_common) B.pre
  have hta : ∀ w ∈ zall, w.before ([.ref (b + 99), .int a1, .int a2, .int a3] : List Value).toArray s = true := fun w h => hts w (List.mem_cons_of_mem _ h)
  have hown : s.vm.findClass R_Mo = some m.cls := findClass_of_methodNamed B.named
  have hlocks := B.notSynchronized
  have hS : va_S (zA b) s.heap s.heap [] := va_S.rf
  have hl := lv_entry ([.ref (b + 99), .int a1, .int a2, .int a3]) (n := 11) (Nat.le_of_ble_eq_true rfl)
  rw [lg_entry_eq]
  generalize (lg_sl ([.ref (b + 99), .int a1, .int a2, .int a3]) ++ List.replicate (11 - (lg_sl ([.ref (b + 99), .int a1, .int a2, .int a3])).length) Slot.unset).toArray = ls at hl ⊢
  have hl : lv_has ls 11 [(0, .ref (b + 99)), (1, .int a1), (2, .int a2), (3, .int a3)] := hl
  have j139 : ∀ (v8 : Nat) (M : zM) (N : zN) (H : Heap) (ls : Array Slot) (locs : List Loc), va_P G.1 zCl (zws G b M N) H → va_S (zA b) s.heap H locs → lv_has ls 11 [(0, .ref (b + 99)), (1, .int a1), (8, .ref (b + v8))] → J_Mo_common_139 P a1 v8 M N → W p l e (headSpec ws_Mo_common rm_Mo_common).room s m ([.ref (b + 99), .int a1, .int a2, .int a3] : List Value).toArray below meth c H locs 0 0 (MQ below (zQi G b (fun r M' N' => P r M' N')) ([.ref (b + 99), .int a1, .int a2, .int a3] : List Value).toArray s 0 0 (zA b)) (F0 m 139 ls []) := by
    intro v8 M N H ls locs hZ hS hl hw
    unfold J_Mo_common_139 at hw
    refine lv_aload_n (pc := 139) hx hb d_Mo_common_139 rfl (lv_at hl 0 rfl) ?_
    refine lv_iload_n (pc := 140) hx hb d_Mo_common_140 rfl (lv_at hl 1 rfl) ?_
    refine lv_aload (pc := 141) hx hb d_Mo_common_141 (lv_at hl 2 rfl) ?_
    refine lv_iconst (pc := 143) (v := 2) hx hb d_Mo_common_143 (by decide) ?_
    refine z_calli (pc := 144) (va_runV (C := R_Mo) (b := b + 99) (As := [.int a1, .ref (b + v8), .int (2 : Int32)]) (rest := []) ⟨hx, hb, hml, hown, hts⟩ (c_Mo_settle l G b a1 v8 (2 : Int32) M N hw) (cwV 3 hts (z_good (zgV wd829 wd831 wsel19 wd7 wd832)) rfl rfl rfl ⟨rfl, hd_Mo_settle⟩ ⟨Nat.le_of_ble_eq_true rfl, Nat.le_of_ble_eq_true rfl⟩) (z_preV zo_Mo rfl rfl hZ hK hT hS) rfl rfl hl.1 rfl (lv_room (Nat.le_of_ble_eq_true rfl)) d_Mo_common_144 ⟨Nat.le_of_ble_eq_true rfl, Nat.le_of_ble_eq_true rfl⟩) hS (fun r45 M46 N47 H locs hw hZ hS => ?_)
    obtain ⟨hw, eM46⟩ := hw
    rw [eM46] at hZ
    exact z_iret hx hb hr hlocks hK hT hZ hS hw d_Mo_common_147
  have j107 : ∀ (t0 : Nat) (M : zM) (N : zN) (H : Heap) (ls : Array Slot) (locs : List Loc), va_P G.1 zCl (zws G b M N) H → va_S (zA b) s.heap H locs → lv_has ls 11 [(0, .ref (b + 99)), (1, .int a1)] → J_Mo_common_107 P a1 t0 M N → W p l e (headSpec ws_Mo_common rm_Mo_common).room s m ([.ref (b + 99), .int a1, .int a2, .int a3] : List Value).toArray below meth c H locs 0 0 (MQ below (zQi G b (fun r M' N' => P r M' N')) ([.ref (b + 99), .int a1, .int a2, .int a3] : List Value).toArray s 0 0 (zA b)) (F0 m 107 ls [.ref (b + t0)]) := by
    intro t0 M N H ls locs hZ hS hl hw
    unfold J_Mo_common_107 at hw
    refine lv_astore (pc := 107) (lv' := [(8, .ref (b + t0)), (0, .ref (b + 99)), (1, .int a1)]) hx hb d_Mo_common_107 hl (by decide) rfl (fun ls hl => ?_)
    refine lv_aload (pc := 109) hx hb d_Mo_common_109 (lv_at hl 0 rfl) ?_
    refine z_calli (pc := 111) (va_runS (As := [.ref (b + t0)]) (rest := []) ⟨hx, hb, hml, hown, hts⟩ (c_Mo_degreeOf l G b t0 M N hw) (va_cwS 1 hts (z_good (zgS wd814 wd815 wd7 wd816)) rfl rfl rfl hd_Mo_degreeOf ⟨Nat.le_of_ble_eq_true rfl, Nat.le_of_ble_eq_true rfl⟩) (z_preS hZ hK hT hS) rfl rfl hl.1 rfl (lv_room (Nat.le_of_ble_eq_true rfl)) d_Mo_common_111 ⟨Nat.le_of_ble_eq_true rfl, Nat.le_of_ble_eq_true rfl⟩) hS (fun r39 M40 N41 H locs hw hZ hS => ?_)
    obtain ⟨hw, eM40, eN41⟩ := hw
    rw [eM40, eN41] at hZ
    refine lv_istore (pc := 114) (lv' := [(9, .int r39), (8, .ref (b + t0)), (0, .ref (b + 99)), (1, .int a1)]) hx hb d_Mo_common_114 hl (by decide) rfl (fun ls hl => ?_)
    refine lv_iload (pc := 116) hx hb d_Mo_common_116 (lv_at hl 0 rfl) ?_
    refine lv_if_lt (pc := 118) (tgt := 139) hx hb d_Mo_common_118 (by decide) (fun hc => ?_) (fun hc => ?_)
    · have hw := hw.1 hc
      exact j139 t0 M N _ _ _ hZ hS (lv_sub hl [2, 3, 1] rfl) hw
    · have hw := hw.2 hc
      refine lv_aload (pc := 121) hx hb d_Mo_common_121 (lv_at hl 1 rfl) ?_
      refine lv_iload (pc := 123) hx hb d_Mo_common_123 (lv_at hl 0 rfl) ?_
      obtain ⟨hc, hw⟩ := hw
      refine z_lald (pc := 125) hx hb hK hZ hc d_Mo_common_125 ?_
      refine lv_lconst (pc := 126) (v := 0) hx hb d_Mo_common_126 (by decide) ?_
      refine z_lc_ge (pc := 127) (tgt := 139) hx hb d_Mo_common_127 d_Mo_common_128 (by decide) (fun hc => ?_) (fun hc => ?_)
      · have hw := hw.1 hc
        exact j139 t0 M N _ _ _ hZ hS (lv_sub hl [2, 3, 1] rfl) hw
      · have hw := hw.2 hc
        refine lv_aload (pc := 131) hx hb d_Mo_common_131 (lv_at hl 1 rfl) ?_
        refine lv_ldc2 (pc := 133) (v := -1) hx hb hown (hta _ wd890) d_Mo_common_133 ?_
        refine z_callv (pc := 136) (va_runS (As := [.ref (b + t0), .long (-1 : Int64)]) (rest := []) ⟨hx, hb, hml, hown, hts⟩ (c_Mo_scale l G b t0 (-1 : Int64) M N hw) (va_cwS 2 hts (z_good (zgS wd891 wd892 wd7 wd893)) rfl rfl rfl hd_Mo_scale ⟨Nat.le_of_ble_eq_true rfl, Nat.le_of_ble_eq_true rfl⟩) (z_preS hZ hK hT hS) rfl rfl hl.1 rfl (lv_room (Nat.le_of_ble_eq_true rfl)) d_Mo_common_136 ⟨Nat.le_of_ble_eq_true rfl, Nat.le_of_ble_eq_true rfl⟩) hS (fun M43 N44 H locs hw hZ hS => ?_)
        obtain ⟨hw, eN44⟩ := hw
        rw [eN44] at hZ
        exact j139 t0 M43 N _ _ _ hZ hS (lv_sub hl [2, 3, 1] rfl) hw
  have j89 : ∀ (v4 : Int64) (M : zM) (N : zN) (H : Heap) (ls : Array Slot) (locs : List Loc), va_P G.1 zCl (zws G b M N) H → va_S (zA b) s.heap H locs → lv_has ls 11 [(0, .ref (b + 99)), (1, .int a1), (4, .long v4)] → J_Mo_common_89 P a1 v4 M N → W p l e (headSpec ws_Mo_common rm_Mo_common).room s m ([.ref (b + 99), .int a1, .int a2, .int a3] : List Value).toArray below meth c H locs 0 0 (MQ below (zQi G b (fun r M' N' => P r M' N')) ([.ref (b + 99), .int a1, .int a2, .int a3] : List Value).toArray s 0 0 (zA b)) (F0 m 89 ls []) := by
    intro v4 M N H ls locs hZ hS hl hw
    unfold J_Mo_common_89 at hw
    refine lv_lload (pc := 89) hx hb d_Mo_common_89 (lv_at hl 2 rfl) ?_
    refine lv_lconst (pc := 91) (v := 0) hx hb d_Mo_common_91 (by decide) ?_
    refine z_lc_ne (pc := 92) (tgt := 103) hx hb d_Mo_common_92 d_Mo_common_93 (by decide) (fun hc => ?_) (fun hc => ?_)
    · have hw := hw.1 hc
      refine lv_aload_n (pc := 103) hx hb d_Mo_common_103 rfl (lv_at hl 0 rfl) ?_
      refine zg_Mo_29 (pc := 104) hx hb hta hown hK hZ d_Mo_common_104 ?_
      exact j107 106 M N _ _ _ hZ hS (lv_sub hl [0, 1] rfl) hw
    · have hw := hw.2 hc
      refine lv_aload_n (pc := 96) hx hb d_Mo_common_96 rfl (lv_at hl 0 rfl) ?_
      refine zg_Mo_32 (pc := 97) hx hb hta hown hK hZ d_Mo_common_97 ?_
      refine lv_goto (pc := 100) (tgt := 107) hx hb d_Mo_common_100 (by decide) ?_
      exact j107 107 M N _ _ _ hZ hS (lv_sub hl [0, 1] rfl) hw
  have lp190 : ∀ (v8 : Int64) (N : zN) (n : Nat) (v10 : Int32) (M : zM) (H : Heap) (ls : Array Slot) (locs : List Loc), va_P G.1 zCl (zws G b M N) H → va_S (zA b) s.heap H locs → lv_has ls 11 [(0, .ref (b + 99)), (1, .int a1), (8, .long v8), (10, .int v10)] → L_Mo_common_190 P a1 v8 N n v10 M → W p l e (headSpec ws_Mo_common rm_Mo_common).room s m ([.ref (b + 99), .int a1, .int a2, .int a3] : List Value).toArray below meth c H locs 0 0 (MQ below (zQi G b (fun r M' N' => P r M' N')) ([.ref (b + 99), .int a1, .int a2, .int a3] : List Value).toArray s 0 0 (zA b)) (F0 m 190 ls []) := by
    intro v8 N n
    induction n with
    | zero => intro v10 M H ls locs hZ hS hl hw; exact False.elim hw
    | succ n190 ih190 =>
      intro v10 M H ls locs hZ hS hl hw
      have hw : B_Mo_common_190 P a1 v8 N (L_Mo_common_190 P a1 v8 N n190) v10 M := hw
      unfold B_Mo_common_190 at hw
      refine lv_iload (pc := 190) hx hb d_Mo_common_190 (lv_at hl 3 rfl) ?_
      refine lv_bipush (pc := 192) (v := 16) hx hb d_Mo_common_192 (by decide) ?_
      refine lv_icmp_ge (pc := 194) (tgt := 220) hx hb d_Mo_common_194 (by decide) (fun hc => ?_) (fun hc => ?_)
      · have hw := hw.1 hc
        refine lv_aload_n (pc := 220) hx hb d_Mo_common_220 rfl (lv_at hl 0 rfl) ?_
        refine lv_iload_n (pc := 221) hx hb d_Mo_common_221 rfl (lv_at hl 1 rfl) ?_
        refine lv_aload_n (pc := 222) hx hb d_Mo_common_222 rfl (lv_at hl 0 rfl) ?_
        refine zg_Mo_35 (pc := 223) hx hb hta hown hK hZ d_Mo_common_223 ?_
        refine lv_iconst (pc := 226) (v := 2) hx hb d_Mo_common_226 (by decide) ?_
        refine z_calli (pc := 227) (va_runV (C := R_Mo) (b := b + 99) (As := [.int a1, .ref (b + 108), .int (2 : Int32)]) (rest := []) ⟨hx, hb, hml, hown, hts⟩ (c_Mo_settle l G b a1 108 (2 : Int32) M N hw) (cwV 3 hts (z_good (zgV wd829 wd831 wsel19 wd7 wd832)) rfl rfl rfl ⟨rfl, hd_Mo_settle⟩ ⟨Nat.le_of_ble_eq_true rfl, Nat.le_of_ble_eq_true rfl⟩) (z_preV zo_Mo rfl rfl hZ hK hT hS) rfl rfl hl.1 rfl (lv_room (Nat.le_of_ble_eq_true rfl)) d_Mo_common_227 ⟨Nat.le_of_ble_eq_true rfl, Nat.le_of_ble_eq_true rfl⟩) hS (fun r35 M36 N37 H locs hw hZ hS => ?_)
        obtain ⟨hw, eM36⟩ := hw
        rw [eM36] at hZ
        exact z_iret hx hb hr hlocks hK hT hZ hS hw d_Mo_common_230
      · have hw := hw.2 hc
        refine lv_aload_n (pc := 197) hx hb d_Mo_common_197 rfl (lv_at hl 0 rfl) ?_
        refine zg_Mo_35 (pc := 198) hx hb hta hown hK hZ d_Mo_common_198 ?_
        refine lv_iload (pc := 201) hx hb d_Mo_common_201 (lv_at hl 3 rfl) ?_
        refine lv_aload_n (pc := 203) hx hb d_Mo_common_203 rfl (lv_at hl 0 rfl) ?_
        refine zg_Mo_50 (pc := 204) hx hb hta hown hK hZ d_Mo_common_204 ?_
        refine lv_iload (pc := 207) hx hb d_Mo_common_207 (lv_at hl 3 rfl) ?_
        obtain ⟨hc, hw⟩ := hw
        refine z_lald (pc := 209) hx hb hK hZ hc d_Mo_common_209 ?_
        refine lv_lload (pc := 210) hx hb d_Mo_common_210 (lv_at hl 2 rfl) ?_
        refine lv_lmul (pc := 212) hx hb d_Mo_common_212 ?_
        obtain ⟨hc, hw⟩ := hw
        refine z_last (pc := 213) hx hb hK hZ hS hc d_Mo_common_213 (fun M38 H locs hM38 hZ hS => ?_)
        have hw := hw M38 hM38
        refine lv_iinc (pc := 214) (k := 3) (v := v10 + (1 : Int32)) (lv' := [(10, .int (v10 + (1 : Int32))), (0, .ref (b + 99)), (1, .int a1), (8, .long v8)]) hx hb d_Mo_common_214 hl rfl (by rfl) (by decide) rfl (fun ls hl => ?_)
        refine lv_goto (pc := 217) (tgt := 190) hx hb d_Mo_common_217 (by decide) ?_
        exact ih190 (v10 + (1 : Int32)) M38 _ _ _ hZ hS (lv_sub hl [1, 2, 3, 0] rfl) hw
  have j27 : ∀ (t0 : Int32) (M : zM) (N : zN) (H : Heap) (ls : Array Slot) (locs : List Loc), va_P G.1 zCl (zws G b M N) H → va_S (zA b) s.heap H locs → lv_has ls 11 [(0, .ref (b + 99)), (1, .int a1), (2, .int a2), (3, .int a3)] → J_Mo_common_27 P a1 a2 a3 t0 M N → W p l e (headSpec ws_Mo_common rm_Mo_common).room s m ([.ref (b + 99), .int a1, .int a2, .int a3] : List Value).toArray below meth c H locs 0 0 (MQ below (zQi G b (fun r M' N' => P r M' N')) ([.ref (b + 99), .int a1, .int a2, .int a3] : List Value).toArray s 0 0 (zA b)) (F0 m 27 ls [.int t0, .ref (b + 99)]) := by
    intro t0 M N H ls locs hZ hS hl hw
    unfold J_Mo_common_27 at hw
    refine zp_Mo_78 (pc := 27) hx hb hta hown hK hZ hS d_Mo_common_27 (fun N10 H locs hN10 hZ hS => ?_)
    have hw := hw N10 hN10
    refine lv_aload_n (pc := 30) hx hb d_Mo_common_30 rfl (lv_at hl 0 rfl) ?_
    refine zg_Mo_78 (pc := 31) hx hb hta hown hK hZ d_Mo_common_31 ?_
    refine lv_if_le (pc := 34) (tgt := 39) hx hb d_Mo_common_34 (by decide) (fun hc => ?_) (fun hc => ?_)
    · have hw := hw.1 hc
      refine lv_aload_n (pc := 39) hx hb d_Mo_common_39 rfl (lv_at hl 0 rfl) ?_
      refine lv_iload_n (pc := 40) hx hb d_Mo_common_40 rfl (lv_at hl 2 rfl) ?_
      refine lv_aload_n (pc := 41) hx hb d_Mo_common_41 rfl (lv_at hl 0 rfl) ?_
      refine zg_Mo_29 (pc := 42) hx hb hta hown hK hZ d_Mo_common_42 ?_
      refine z_callv (pc := 45) (va_runV (C := R_Mo) (b := b + 99) (As := [.int a2, .ref (b + 106)]) (rest := []) ⟨hx, hb, hml, hown, hts⟩ (c_Mo_load l G b a2 106 M N10 hw) (cwV 2 hts (z_good (zgV wd810 wd812 wsel18 wd7 wd813)) rfl rfl rfl ⟨rfl, hd_Mo_load⟩ ⟨Nat.le_of_ble_eq_true rfl, Nat.le_of_ble_eq_true rfl⟩) (z_preV zo_Mo rfl rfl hZ hK hT hS) rfl rfl hl.1 rfl (lv_room (Nat.le_of_ble_eq_true rfl)) d_Mo_common_45 ⟨Nat.le_of_ble_eq_true rfl, Nat.le_of_ble_eq_true rfl⟩) hS (fun M12 N13 H locs hw hZ hS => ?_)
      obtain ⟨hw, eN13⟩ := hw
      rw [eN13] at hZ
      refine lv_aload_n (pc := 48) hx hb d_Mo_common_48 rfl (lv_at hl 0 rfl) ?_
      refine lv_iload_n (pc := 49) hx hb d_Mo_common_49 rfl (lv_at hl 3 rfl) ?_
      refine lv_aload_n (pc := 50) hx hb d_Mo_common_50 rfl (lv_at hl 0 rfl) ?_
      refine zg_Mo_32 (pc := 51) hx hb hta hown hK hZ d_Mo_common_51 ?_
      refine z_callv (pc := 54) (va_runV (C := R_Mo) (b := b + 99) (As := [.int a3, .ref (b + 107)]) (rest := []) ⟨hx, hb, hml, hown, hts⟩ (c_Mo_load l G b a3 107 M12 N10 hw) (cwV 2 hts (z_good (zgV wd810 wd812 wsel18 wd7 wd813)) rfl rfl rfl ⟨rfl, hd_Mo_load⟩ ⟨Nat.le_of_ble_eq_true rfl, Nat.le_of_ble_eq_true rfl⟩) (z_preV zo_Mo rfl rfl hZ hK hT hS) rfl rfl hl.1 rfl (lv_room (Nat.le_of_ble_eq_true rfl)) d_Mo_common_54 ⟨Nat.le_of_ble_eq_true rfl, Nat.le_of_ble_eq_true rfl⟩) hS (fun M15 N16 H locs hw hZ hS => ?_)
      obtain ⟨hw, eN16⟩ := hw
      rw [eN16] at hZ
      refine lv_aload_n (pc := 57) hx hb d_Mo_common_57 rfl (lv_at hl 0 rfl) ?_
      refine zg_Mo_29 (pc := 58) hx hb hta hown hK hZ d_Mo_common_58 ?_
      refine z_calll (pc := 61) (va_runS (As := [.ref (b + 106)]) (rest := []) ⟨hx, hb, hml, hown, hts⟩ (c_Mo_contentOf l G b 106 M15 N10 hw) (va_cwS 1 hts (z_good (zgS wd880 wd881 wd7 wd882)) rfl rfl rfl hd_Mo_contentOf ⟨Nat.le_of_ble_eq_true rfl, Nat.le_of_ble_eq_true rfl⟩) (z_preS hZ hK hT hS) rfl rfl hl.1 rfl (lv_room (Nat.le_of_ble_eq_true rfl)) d_Mo_common_61 ⟨Nat.le_of_ble_eq_true rfl, Nat.le_of_ble_eq_true rfl⟩) hS (fun r17 M18 N19 H locs hw hZ hS => ?_)
      obtain ⟨hw, eM18, eN19⟩ := hw
      rw [eM18, eN19] at hZ
      refine lv_lstore (pc := 64) (lv' := [(4, .long r17), (0, .ref (b + 99)), (1, .int a1), (2, .int a2), (3, .int a3)]) hx hb d_Mo_common_64 hl (by decide) rfl (fun ls hl => ?_)
      refine lv_aload_n (pc := 66) hx hb d_Mo_common_66 rfl (lv_at hl 1 rfl) ?_
      refine zg_Mo_32 (pc := 67) hx hb hta hown hK hZ d_Mo_common_67 ?_
      refine z_calll (pc := 70) (va_runS (As := [.ref (b + 107)]) (rest := []) ⟨hx, hb, hml, hown, hts⟩ (c_Mo_contentOf l G b 107 M15 N10 hw) (va_cwS 1 hts (z_good (zgS wd880 wd881 wd7 wd882)) rfl rfl rfl hd_Mo_contentOf ⟨Nat.le_of_ble_eq_true rfl, Nat.le_of_ble_eq_true rfl⟩) (z_preS hZ hK hT hS) rfl rfl hl.1 rfl (lv_room (Nat.le_of_ble_eq_true rfl)) d_Mo_common_70 ⟨Nat.le_of_ble_eq_true rfl, Nat.le_of_ble_eq_true rfl⟩) hS (fun r20 M21 N22 H locs hw hZ hS => ?_)
      obtain ⟨hw, eM21, eN22⟩ := hw
      rw [eM21, eN22] at hZ
      refine lv_lstore (pc := 73) (lv' := [(6, .long r20), (4, .long r17), (0, .ref (b + 99)), (1, .int a1), (2, .int a2), (3, .int a3)]) hx hb d_Mo_common_73 hl (by decide) rfl (fun ls hl => ?_)
      refine lv_lload (pc := 75) hx hb d_Mo_common_75 (lv_at hl 1 rfl) ?_
      refine lv_lconst (pc := 77) (v := 0) hx hb d_Mo_common_77 (by decide) ?_
      refine z_lc_eq (pc := 78) (tgt := 89) hx hb d_Mo_common_78 d_Mo_common_79 (by decide) (fun hc => ?_) (fun hc => ?_)
      · have hw := hw.1 hc
        exact j89 r17 M15 N10 _ _ _ hZ hS (lv_sub hl [2, 3, 1] rfl) hw
      · have hw := hw.2 hc
        refine lv_lload (pc := 82) hx hb d_Mo_common_82 (lv_at hl 0 rfl) ?_
        refine lv_lconst (pc := 84) (v := 0) hx hb d_Mo_common_84 (by decide) ?_
        refine z_lc_ne (pc := 85) (tgt := 148) hx hb d_Mo_common_85 d_Mo_common_86 (by decide) (fun hc => ?_) (fun hc => ?_)
        · have hw := hw.1 hc
          refine lv_aload_n (pc := 148) hx hb d_Mo_common_148 rfl (lv_at hl 2 rfl) ?_
          refine zg_Mo_29 (pc := 149) hx hb hta hown hK hZ d_Mo_common_149 ?_
          refine lv_lload (pc := 152) hx hb d_Mo_common_152 (lv_at hl 1 rfl) ?_
          refine z_callv (pc := 154) (va_runS (As := [.ref (b + 106), .long r17]) (rest := []) ⟨hx, hb, hml, hown, hts⟩ (c_Mo_scale l G b 106 r17 M15 N10 hw) (va_cwS 2 hts (z_good (zgS wd891 wd892 wd7 wd893)) rfl rfl rfl hd_Mo_scale ⟨Nat.le_of_ble_eq_true rfl, Nat.le_of_ble_eq_true rfl⟩) (z_preS hZ hK hT hS) rfl rfl hl.1 rfl (lv_room (Nat.le_of_ble_eq_true rfl)) d_Mo_common_154 ⟨Nat.le_of_ble_eq_true rfl, Nat.le_of_ble_eq_true rfl⟩) hS (fun M24 N25 H locs hw hZ hS => ?_)
          obtain ⟨hw, eN25⟩ := hw
          rw [eN25] at hZ
          refine lv_aload_n (pc := 157) hx hb d_Mo_common_157 rfl (lv_at hl 2 rfl) ?_
          refine zg_Mo_32 (pc := 158) hx hb hta hown hK hZ d_Mo_common_158 ?_
          refine lv_lload (pc := 161) hx hb d_Mo_common_161 (lv_at hl 0 rfl) ?_
          refine z_callv (pc := 163) (va_runS (As := [.ref (b + 107), .long r20]) (rest := []) ⟨hx, hb, hml, hown, hts⟩ (c_Mo_scale l G b 107 r20 M24 N10 hw) (va_cwS 2 hts (z_good (zgS wd891 wd892 wd7 wd893)) rfl rfl rfl hd_Mo_scale ⟨Nat.le_of_ble_eq_true rfl, Nat.le_of_ble_eq_true rfl⟩) (z_preS hZ hK hT hS) rfl rfl hl.1 rfl (lv_room (Nat.le_of_ble_eq_true rfl)) d_Mo_common_163 ⟨Nat.le_of_ble_eq_true rfl, Nat.le_of_ble_eq_true rfl⟩) hS (fun M27 N28 H locs hw hZ hS => ?_)
          obtain ⟨hw, eN28⟩ := hw
          rw [eN28] at hZ
          refine lv_aload_n (pc := 166) hx hb d_Mo_common_166 rfl (lv_at hl 2 rfl) ?_
          refine lv_aload_n (pc := 167) hx hb d_Mo_common_167 rfl (lv_at hl 2 rfl) ?_
          refine zg_Mo_29 (pc := 168) hx hb hta hown hK hZ d_Mo_common_168 ?_
          refine lv_aload_n (pc := 171) hx hb d_Mo_common_171 rfl (lv_at hl 2 rfl) ?_
          refine zg_Mo_32 (pc := 172) hx hb hta hown hK hZ d_Mo_common_172 ?_
          refine z_callv (pc := 175) (va_runV (C := R_Mo) (b := b + 99) (As := [.ref (b + 106), .ref (b + 107)]) (rest := []) ⟨hx, hb, hml, hown, hts⟩ (c_Mo_share l G b 106 107 M27 N10 hw) (cwV 2 hts (z_good (zgV wd894 wd896 wsel22 wd7 wd897)) rfl rfl rfl ⟨rfl, hd_Mo_share⟩ ⟨Nat.le_of_ble_eq_true rfl, Nat.le_of_ble_eq_true rfl⟩) (z_preV zo_Mo rfl rfl hZ hK hT hS) rfl rfl hl.1 rfl (lv_room (Nat.le_of_ble_eq_true rfl)) d_Mo_common_175 ⟨Nat.le_of_ble_eq_true rfl, Nat.le_of_ble_eq_true rfl⟩) hS (fun M30 N31 H locs hw hZ hS => ?_)
          obtain ⟨hw, eN31⟩ := hw
          rw [eN31] at hZ
          refine lv_lload (pc := 178) hx hb d_Mo_common_178 (lv_at hl 1 rfl) ?_
          refine lv_lload (pc := 180) hx hb d_Mo_common_180 (lv_at hl 0 rfl) ?_
          refine z_calll (pc := 182) (va_runS (As := [.long r17, .long r20]) (rest := []) ⟨hx, hb, hml, hown, hts⟩ (c_Mo_divisor l G b r17 r20 M30 N10 hw) (va_cwS 2 hts (z_good (zgS wd883 wd884 wd7 wd885)) rfl rfl rfl hd_Mo_divisor ⟨Nat.le_of_ble_eq_true rfl, Nat.le_of_ble_eq_true rfl⟩) (z_preS hZ hK hT hS) rfl rfl hl.1 rfl (lv_room (Nat.le_of_ble_eq_true rfl)) d_Mo_common_182 ⟨Nat.le_of_ble_eq_true rfl, Nat.le_of_ble_eq_true rfl⟩) hS (fun r32 M33 N34 H locs hw hZ hS => ?_)
          obtain ⟨hw, eM33, eN34⟩ := hw
          rw [eM33, eN34] at hZ
          refine lv_lstore (pc := 185) (lv' := [(8, .long r32), (6, .long r20), (4, .long r17), (0, .ref (b + 99)), (1, .int a1), (2, .int a2), (3, .int a3)]) hx hb d_Mo_common_185 hl (by decide) rfl (fun ls hl => ?_)
          refine lv_iconst (pc := 187) (v := 0) hx hb d_Mo_common_187 (by decide) ?_
          refine lv_istore (pc := 188) (lv' := [(10, .int (0 : Int32)), (8, .long r32), (6, .long r20), (4, .long r17), (0, .ref (b + 99)), (1, .int a1), (2, .int a2), (3, .int a3)]) hx hb d_Mo_common_188 hl (by decide) rfl (fun ls hl => ?_)
          obtain ⟨n, hw⟩ := hw
          exact lp190 r32 N10 n (0 : Int32) M30 _ _ _ hZ hS (lv_sub hl [4, 5, 1, 0] rfl) hw
        · have hw := hw.2 hc
          exact j89 r17 M15 N10 _ _ _ hZ hS (lv_sub hl [2, 3, 1] rfl) hw
    · have hw := hw.2 hc
      refine lv_iconst (pc := 37) (v := 0) hx hb d_Mo_common_37 (by decide) ?_
      exact z_iret hx hb hr hlocks hK hT hZ hS hw d_Mo_common_38
  unfold w_Mo_common at hw
  refine lv_aload_n (pc := 0) hx hb d_Mo_common_0 rfl (lv_at hl 0 rfl) ?_
  refine lv_iload_n (pc := 1) hx hb d_Mo_common_1 rfl (lv_at hl 1 rfl) ?_
  refine z_calli (pc := 2) (va_runS (As := [.int a1]) (rest := [.ref (b + 99)]) ⟨hx, hb, hml, hown, hts⟩ (c_Mo_isRegister l G b a1 M N hw) (va_cwS 1 hts (z_good (zgS wd805 wd806 wd7 wd807)) rfl rfl rfl hd_Mo_isRegister ⟨Nat.le_of_ble_eq_true rfl, Nat.le_of_ble_eq_true rfl⟩) (z_preS hZ hK hT hS) rfl rfl hl.1 rfl (lv_room (Nat.le_of_ble_eq_true rfl)) d_Mo_common_2 ⟨Nat.le_of_ble_eq_true rfl, Nat.le_of_ble_eq_true rfl⟩) hS (fun r1 M2 N3 H locs hw hZ hS => ?_)
  obtain ⟨hw, eM2, eN3⟩ := hw
  rw [eM2, eN3] at hZ
  refine lv_if_eq (pc := 5) (tgt := 26) hx hb d_Mo_common_5 (by decide) (fun hc => ?_) (fun hc => ?_)
  · have hw := hw.1 hc
    refine lv_iconst (pc := 26) (v := 1) hx hb d_Mo_common_26 (by decide) ?_
    exact j27 (1 : Int32) M N _ _ _ hZ hS hl hw
  · have hw := hw.2 hc
    refine lv_iload_n (pc := 8) hx hb d_Mo_common_8 rfl (lv_at hl 2 rfl) ?_
    refine z_calli (pc := 9) (va_runS (As := [.int a2]) (rest := [.ref (b + 99)]) ⟨hx, hb, hml, hown, hts⟩ (c_Mo_isRegister l G b a2 M N hw) (va_cwS 1 hts (z_good (zgS wd805 wd806 wd7 wd807)) rfl rfl rfl hd_Mo_isRegister ⟨Nat.le_of_ble_eq_true rfl, Nat.le_of_ble_eq_true rfl⟩) (z_preS hZ hK hT hS) rfl rfl hl.1 rfl (lv_room (Nat.le_of_ble_eq_true rfl)) d_Mo_common_9 ⟨Nat.le_of_ble_eq_true rfl, Nat.le_of_ble_eq_true rfl⟩) hS (fun r4 M5 N6 H locs hw hZ hS => ?_)
    obtain ⟨hw, eM5, eN6⟩ := hw
    rw [eM5, eN6] at hZ
    refine lv_if_eq (pc := 12) (tgt := 26) hx hb d_Mo_common_12 (by decide) (fun hc => ?_) (fun hc => ?_)
    · have hw := hw.1 hc
      refine lv_iconst (pc := 26) (v := 1) hx hb d_Mo_common_26 (by decide) ?_
      exact j27 (1 : Int32) M N _ _ _ hZ hS hl hw
    · have hw := hw.2 hc
      refine lv_iload_n (pc := 15) hx hb d_Mo_common_15 rfl (lv_at hl 3 rfl) ?_
      refine z_calli (pc := 16) (va_runS (As := [.int a3]) (rest := [.ref (b + 99)]) ⟨hx, hb, hml, hown, hts⟩ (c_Mo_isRegister l G b a3 M N hw) (va_cwS 1 hts (z_good (zgS wd805 wd806 wd7 wd807)) rfl rfl rfl hd_Mo_isRegister ⟨Nat.le_of_ble_eq_true rfl, Nat.le_of_ble_eq_true rfl⟩) (z_preS hZ hK hT hS) rfl rfl hl.1 rfl (lv_room (Nat.le_of_ble_eq_true rfl)) d_Mo_common_16 ⟨Nat.le_of_ble_eq_true rfl, Nat.le_of_ble_eq_true rfl⟩) hS (fun r7 M8 N9 H locs hw hZ hS => ?_)
      obtain ⟨hw, eM8, eN9⟩ := hw
      rw [eM8, eN9] at hZ
      refine lv_if_eq (pc := 19) (tgt := 26) hx hb d_Mo_common_19 (by decide) (fun hc => ?_) (fun hc => ?_)
      · have hw := hw.1 hc
        refine lv_iconst (pc := 26) (v := 1) hx hb d_Mo_common_26 (by decide) ?_
        exact j27 (1 : Int32) M N _ _ _ hZ hS hl hw
      · have hw := hw.2 hc
        refine lv_iconst (pc := 22) (v := 0) hx hb d_Mo_common_22 (by decide) ?_
        refine lv_goto (pc := 23) (tgt := 27) hx hb d_Mo_common_23 (by decide) ?_
        exact j27 (0 : Int32) M N _ _ _ hZ hS hl hw
theorem d_Mo_isPrimeNumber_0 : decode prog_10_method_35_code 0 = .ok (.lload_n 0, 1) := by decide +kernel
theorem d_Mo_isPrimeNumber_1 : decode prog_10_method_35_code 1 = .ok (.lconst 1, 1) := by decide +kernel
theorem d_Mo_isPrimeNumber_2 : decode prog_10_method_35_code 2 = .ok (.lcmp, 1) := by decide +kernel
theorem d_Mo_isPrimeNumber_3 : decode prog_10_method_35_code 3 = .ok (.ifCond .le 7, 3) := by decide +kernel
theorem d_Mo_isPrimeNumber_6 : decode prog_10_method_35_code 6 = .ok (.iconst 1, 1) := by decide +kernel
theorem d_Mo_isPrimeNumber_7 : decode prog_10_method_35_code 7 = .ok (.goto 4, 3) := by decide +kernel
theorem d_Mo_isPrimeNumber_10 : decode prog_10_method_35_code 10 = .ok (.iconst 0, 1) := by decide +kernel
theorem d_Mo_isPrimeNumber_11 : decode prog_10_method_35_code 11 = .ok (.istore_n 2, 1) := by decide +kernel
theorem d_Mo_isPrimeNumber_12 : decode prog_10_method_35_code 12 = .ok (.ldc2_w 140, 3) := by decide +kernel
theorem d_Mo_isPrimeNumber_15 : decode prog_10_method_35_code 15 = .ok (.lstore_n 3, 1) := by decide +kernel
theorem d_Mo_isPrimeNumber_16 : decode prog_10_method_35_code 16 = .ok (.lload_n 3, 1) := by decide +kernel
theorem d_Mo_isPrimeNumber_17 : decode prog_10_method_35_code 17 = .ok (.lload_n 3, 1) := by decide +kernel
theorem d_Mo_isPrimeNumber_18 : decode prog_10_method_35_code 18 = .ok (.lmul, 1) := by decide +kernel
theorem d_Mo_isPrimeNumber_19 : decode prog_10_method_35_code 19 = .ok (.lload_n 0, 1) := by decide +kernel
theorem d_Mo_isPrimeNumber_20 : decode prog_10_method_35_code 20 = .ok (.lcmp, 1) := by decide +kernel
theorem d_Mo_isPrimeNumber_21 : decode prog_10_method_35_code 21 = .ok (.ifCond .gt 28, 3) := by decide +kernel
theorem d_Mo_isPrimeNumber_24 : decode prog_10_method_35_code 24 = .ok (.iload_n 2, 1) := by decide +kernel
theorem d_Mo_isPrimeNumber_25 : decode prog_10_method_35_code 25 = .ok (.ifCond .eq 24, 3) := by decide +kernel
theorem d_Mo_isPrimeNumber_28 : decode prog_10_method_35_code 28 = .ok (.lload_n 0, 1) := by decide +kernel
theorem d_Mo_isPrimeNumber_29 : decode prog_10_method_35_code 29 = .ok (.lload_n 3, 1) := by decide +kernel
theorem d_Mo_isPrimeNumber_30 : decode prog_10_method_35_code 30 = .ok (.lrem, 1) := by decide +kernel
theorem d_Mo_isPrimeNumber_31 : decode prog_10_method_35_code 31 = .ok (.lconst 0, 1) := by decide +kernel
theorem d_Mo_isPrimeNumber_32 : decode prog_10_method_35_code 32 = .ok (.lcmp, 1) := by decide +kernel
theorem d_Mo_isPrimeNumber_33 : decode prog_10_method_35_code 33 = .ok (.ifCond .eq 7, 3) := by decide +kernel
theorem d_Mo_isPrimeNumber_36 : decode prog_10_method_35_code 36 = .ok (.iconst 1, 1) := by decide +kernel
theorem d_Mo_isPrimeNumber_37 : decode prog_10_method_35_code 37 = .ok (.goto 4, 3) := by decide +kernel
theorem d_Mo_isPrimeNumber_40 : decode prog_10_method_35_code 40 = .ok (.iconst 0, 1) := by decide +kernel
theorem d_Mo_isPrimeNumber_41 : decode prog_10_method_35_code 41 = .ok (.istore_n 2, 1) := by decide +kernel
theorem d_Mo_isPrimeNumber_42 : decode prog_10_method_35_code 42 = .ok (.lload_n 3, 1) := by decide +kernel
theorem d_Mo_isPrimeNumber_43 : decode prog_10_method_35_code 43 = .ok (.lconst 1, 1) := by decide +kernel
theorem d_Mo_isPrimeNumber_44 : decode prog_10_method_35_code 44 = .ok (.ladd, 1) := by decide +kernel
theorem d_Mo_isPrimeNumber_45 : decode prog_10_method_35_code 45 = .ok (.lstore_n 3, 1) := by decide +kernel
theorem d_Mo_isPrimeNumber_46 : decode prog_10_method_35_code 46 = .ok (.goto (-30), 3) := by decide +kernel
theorem d_Mo_isPrimeNumber_49 : decode prog_10_method_35_code 49 = .ok (.iload_n 2, 1) := by decide +kernel
theorem d_Mo_isPrimeNumber_50 : decode prog_10_method_35_code 50 = .ok (.ireturn, 1) := by decide +kernel
def B_Mo_isPrimeNumber_16 (P : Int32 → Prop) (a0 : Int64) (k16 : Int32 → Int64 → Prop) (v2 : Int32) (v3 : Int64) : Prop := (a0 < (v3 * v3) → narrow .boolean (.int v2) = .int v2 ∧ P v2) ∧ (¬ a0 < (v3 * v3) → (v2 = 0 → narrow .boolean (.int v2) = .int v2 ∧ P v2) ∧ (¬ v2 = 0 → ¬ v3 = 0 ∧ ((a0 - a0 / v3 * v3) = (0 : Int64) → ∀ x1 : Int64, x1 = v3 + (1 : Int64) → k16 (0 : Int32) x1) ∧ (¬ (a0 - a0 / v3 * v3) = (0 : Int64) → ∀ x2 : Int64, x2 = v3 + (1 : Int64) → k16 (1 : Int32) x2)))
def L_Mo_isPrimeNumber_16 (P : Int32 → Prop) (a0 : Int64) (n : Nat) : Int32 → Int64 → Prop := Nat.rec (fun _ _ => False) (fun _ k => B_Mo_isPrimeNumber_16 P a0 k) n
def w_Mo_isPrimeNumber (a0 : Int64) (P : Int32 → Prop) : Prop := (a0 ≤ (1 : Int64) → ∃ n, L_Mo_isPrimeNumber_16 P a0 n (0 : Int32) (2 : Int64)) ∧ (¬ a0 ≤ (1 : Int64) → ∃ n, L_Mo_isPrimeNumber_16 P a0 n (1 : Int32) (2 : Int64))
def ws_Mo_isPrimeNumber : List Cond := .code y_Mo_isPrimeNumber prog_10_method_35_code 5 (Option.some Jvm.ClassFile.FieldType.boolean) :: zall
def rm_Mo_isPrimeNumber : Room := { frames := 0, cells := 0, slots := 0, locals := 0 }
theorem hd_Mo_isPrimeNumber : y_Mo_isPrimeNumber.cls ≠ "java/lang/invoke/MethodHandle" ∧ y_Mo_isPrimeNumber.cls ≠ "java/lang/invoke/VarHandle" ∧ (parseMethodDescriptor y_Mo_isPrimeNumber.desc).map (fun d => d.parameters.length) = some 1 := by decide +kernel
set_option maxHeartbeats 4000000 in
set_option maxRecDepth 100000 in
theorem c_Mo_isPrimeNumber (l : Launch) (G : zG) (b : Nat) (a0 : Int64) (M : zM) (N : zN) {P : Int32 → Prop} (hw : w_Mo_isPrimeNumber a0  P) : Met l y_Mo_isPrimeNumber ws_Mo_isPrimeNumber rm_Mo_isPrimeNumber (zPc G b M N [.long a0]) (zQi G b (fun r M' N' => P r ∧ M' = M ∧ N' = N)) 0 0 (zA b) := by
  refine Met.ofW (cc := prog_10_method_35_code) (maxL := 5) (ret := (Option.some Jvm.ClassFile.FieldType.boolean)) (by decide) rfl ?_
  intro p e s m args below meth c s₁ B hml hv
  obtain ⟨rfl, hZ, hK, hT⟩ := hv
  have hx := B.exec
  have hb := B.bytes
  have hr := B.returns
  have hts := atoms_spec (ws := ws_Mo_isPrimeNumber) B.pre
  have hta : ∀ w ∈ zall, w.before ([.long a0] : List Value).toArray s = true := fun w h => hts w (List.mem_cons_of_mem _ h)
  have hown : s.vm.findClass R_Mo = some m.cls := findClass_of_methodNamed B.named
  have hlocks := B.notSynchronized
  have hS : va_S (zA b) s.heap s.heap [] := va_S.rf
  have hl := lv_entry ([.long a0]) (n := 5) (Nat.le_of_ble_eq_true rfl)
  rw [lg_entry_eq]
  generalize (lg_sl ([.long a0]) ++ List.replicate (5 - (lg_sl ([.long a0])).length) Slot.unset).toArray = ls at hl ⊢
  have hl : lv_has ls 5 [(0, .long a0)] := hl
  have lp16 : ∀ (n : Nat) (v2 : Int32) (v3 : Int64) (H : Heap) (ls : Array Slot) (locs : List Loc), va_P G.1 zCl (zws G b M N) H → va_S (zA b) s.heap H locs → lv_has ls 5 [(0, .long a0), (2, .int v2), (3, .long v3)] → L_Mo_isPrimeNumber_16 P a0 n v2 v3 → W p l e (headSpec ws_Mo_isPrimeNumber rm_Mo_isPrimeNumber).room s m ([.long a0] : List Value).toArray below meth c H locs 0 0 (MQ below (zQi G b (fun r M' N' => P r ∧ M' = M ∧ N' = N)) ([.long a0] : List Value).toArray s 0 0 (zA b)) (F0 m 16 ls []) := by
    intro  n
    induction n with
    | zero => intro v2 v3 H ls locs hZ hS hl hw; exact False.elim hw
    | succ n16 ih16 =>
      intro v2 v3 H ls locs hZ hS hl hw
      have hw : B_Mo_isPrimeNumber_16 P a0 (L_Mo_isPrimeNumber_16 P a0 n16) v2 v3 := hw
      unfold B_Mo_isPrimeNumber_16 at hw
      refine lv_lload_n (pc := 16) hx hb d_Mo_isPrimeNumber_16 rfl (lv_at hl 2 rfl) ?_
      refine lv_lload_n (pc := 17) hx hb d_Mo_isPrimeNumber_17 rfl (lv_at hl 2 rfl) ?_
      refine lv_lmul (pc := 18) hx hb d_Mo_isPrimeNumber_18 ?_
      refine lv_lload_n (pc := 19) hx hb d_Mo_isPrimeNumber_19 rfl (lv_at hl 0 rfl) ?_
      refine z_lc_gt (pc := 20) (tgt := 49) hx hb d_Mo_isPrimeNumber_20 d_Mo_isPrimeNumber_21 (by decide) (fun hc => ?_) (fun hc => ?_)
      · have hw := hw.1 hc
        refine lv_iload_n (pc := 49) hx hb d_Mo_isPrimeNumber_49 rfl (lv_at hl 1 rfl) ?_
        exact z_zret hx hb hr hlocks hK hT hZ hS ⟨hw.1, ⟨hw.2, rfl, rfl⟩⟩ d_Mo_isPrimeNumber_50
      · have hw := hw.2 hc
        refine lv_iload_n (pc := 24) hx hb d_Mo_isPrimeNumber_24 rfl (lv_at hl 1 rfl) ?_
        refine lv_if_eq (pc := 25) (tgt := 49) hx hb d_Mo_isPrimeNumber_25 (by decide) (fun hc => ?_) (fun hc => ?_)
        · have hw := hw.1 hc
          refine lv_iload_n (pc := 49) hx hb d_Mo_isPrimeNumber_49 rfl (lv_at hl 1 rfl) ?_
          exact z_zret hx hb hr hlocks hK hT hZ hS ⟨hw.1, ⟨hw.2, rfl, rfl⟩⟩ d_Mo_isPrimeNumber_50
        · have hw := hw.2 hc
          refine lv_lload_n (pc := 28) hx hb d_Mo_isPrimeNumber_28 rfl (lv_at hl 0 rfl) ?_
          refine lv_lload_n (pc := 29) hx hb d_Mo_isPrimeNumber_29 rfl (lv_at hl 2 rfl) ?_
          obtain ⟨hc, hw⟩ := hw
          refine lv_lrem (pc := 30) hx hb d_Mo_isPrimeNumber_30 hc ?_
          refine lv_lconst (pc := 31) (v := 0) hx hb d_Mo_isPrimeNumber_31 (by decide) ?_
          refine z_lc_eq (pc := 32) (tgt := 40) hx hb d_Mo_isPrimeNumber_32 d_Mo_isPrimeNumber_33 (by decide) (fun hc => ?_) (fun hc => ?_)
          · have hw := hw.1 hc
            refine lv_iconst (pc := 40) (v := 0) hx hb d_Mo_isPrimeNumber_40 (by decide) ?_
            refine lv_istore_n (pc := 41) (lv' := [(2, .int (0 : Int32)), (0, .long a0), (3, .long v3)]) hx hb d_Mo_isPrimeNumber_41 rfl hl (by decide) rfl (fun ls hl => ?_)
            refine lv_lload_n (pc := 42) hx hb d_Mo_isPrimeNumber_42 rfl (lv_at hl 2 rfl) ?_
            refine lv_lconst (pc := 43) (v := 1) hx hb d_Mo_isPrimeNumber_43 (by decide) ?_
            refine lv_ladd (pc := 44) hx hb d_Mo_isPrimeNumber_44 ?_
            refine lv_topl (fun x1 hx1 => ?_)
            have hw := hw x1 hx1
            refine lv_lstore_n (pc := 45) (lv' := [(3, .long x1), (2, .int (0 : Int32)), (0, .long a0)]) hx hb d_Mo_isPrimeNumber_45 rfl hl (by decide) rfl (fun ls hl => ?_)
            refine lv_goto (pc := 46) (tgt := 16) hx hb d_Mo_isPrimeNumber_46 (by decide) ?_
            exact ih16 (0 : Int32) x1 _ _ _ hZ hS (lv_sub hl [2, 1, 0] rfl) hw
          · have hw := hw.2 hc
            refine lv_iconst (pc := 36) (v := 1) hx hb d_Mo_isPrimeNumber_36 (by decide) ?_
            refine lv_goto (pc := 37) (tgt := 41) hx hb d_Mo_isPrimeNumber_37 (by decide) ?_
            refine lv_istore_n (pc := 41) (lv' := [(2, .int (1 : Int32)), (0, .long a0), (3, .long v3)]) hx hb d_Mo_isPrimeNumber_41 rfl hl (by decide) rfl (fun ls hl => ?_)
            refine lv_lload_n (pc := 42) hx hb d_Mo_isPrimeNumber_42 rfl (lv_at hl 2 rfl) ?_
            refine lv_lconst (pc := 43) (v := 1) hx hb d_Mo_isPrimeNumber_43 (by decide) ?_
            refine lv_ladd (pc := 44) hx hb d_Mo_isPrimeNumber_44 ?_
            refine lv_topl (fun x2 hx2 => ?_)
            have hw := hw x2 hx2
            refine lv_lstore_n (pc := 45) (lv' := [(3, .long x2), (2, .int (1 : Int32)), (0, .long a0)]) hx hb d_Mo_isPrimeNumber_45 rfl hl (by decide) rfl (fun ls hl => ?_)
            refine lv_goto (pc := 46) (tgt := 16) hx hb d_Mo_isPrimeNumber_46 (by decide) ?_
            exact ih16 (1 : Int32) x2 _ _ _ hZ hS (lv_sub hl [2, 1, 0] rfl) hw
  unfold w_Mo_isPrimeNumber at hw
  refine lv_lload_n (pc := 0) hx hb d_Mo_isPrimeNumber_0 rfl (lv_at hl 0 rfl) ?_
  refine lv_lconst (pc := 1) (v := 1) hx hb d_Mo_isPrimeNumber_1 (by decide) ?_
  refine z_lc_le (pc := 2) (tgt := 10) hx hb d_Mo_isPrimeNumber_2 d_Mo_isPrimeNumber_3 (by decide) (fun hc => ?_) (fun hc => ?_)
  · have hw := hw.1 hc
    refine lv_iconst (pc := 10) (v := 0) hx hb d_Mo_isPrimeNumber_10 (by decide) ?_
    refine lv_istore_n (pc := 11) (lv' := [(2, .int (0 : Int32)), (0, .long a0)]) hx hb d_Mo_isPrimeNumber_11 rfl hl (by decide) rfl (fun ls hl => ?_)
    refine lv_ldc2 (pc := 12) (v := 2) hx hb hown (hta _ wd911) d_Mo_isPrimeNumber_12 ?_
    refine lv_lstore_n (pc := 15) (lv' := [(3, .long (2 : Int64)), (2, .int (0 : Int32)), (0, .long a0)]) hx hb d_Mo_isPrimeNumber_15 rfl hl (by decide) rfl (fun ls hl => ?_)
    obtain ⟨n, hw⟩ := hw
    exact lp16  n (0 : Int32) (2 : Int64) _ _ _ hZ hS (lv_sub hl [2, 1, 0] rfl) hw
  · have hw := hw.2 hc
    refine lv_iconst (pc := 6) (v := 1) hx hb d_Mo_isPrimeNumber_6 (by decide) ?_
    refine lv_goto (pc := 7) (tgt := 11) hx hb d_Mo_isPrimeNumber_7 (by decide) ?_
    refine lv_istore_n (pc := 11) (lv' := [(2, .int (1 : Int32)), (0, .long a0)]) hx hb d_Mo_isPrimeNumber_11 rfl hl (by decide) rfl (fun ls hl => ?_)
    refine lv_ldc2 (pc := 12) (v := 2) hx hb hown (hta _ wd911) d_Mo_isPrimeNumber_12 ?_
    refine lv_lstore_n (pc := 15) (lv' := [(3, .long (2 : Int64)), (2, .int (1 : Int32)), (0, .long a0)]) hx hb d_Mo_isPrimeNumber_15 rfl hl (by decide) rfl (fun ls hl => ?_)
    obtain ⟨n, hw⟩ := hw
    exact lp16  n (1 : Int32) (2 : Int64) _ _ _ hZ hS (lv_sub hl [2, 1, 0] rfl) hw
theorem zg_Mo_26 {p : Program} {l : Launch} {e : Env} {R : Room} {s : State} {m : MethodId} {args : Array Value} {below : List Frame} {meth : Method} {c : Code} {H : Heap} {locs : List Loc} {cells slots : Nat} {Q : State → Prop} {cc : ByteArray} {pc : Nat} {ls : Array Slot} {rest : List Value} {G : zG} {b : Nat} {M : zM} {N : zN} (hx : p.tables.exec = Jvm.exec) (hb : c.code = cc) (hta : ∀ w ∈ zall, w.before args s = true) (hown : s.vm.findClass R_Mo = some m.cls) (hK : va_K G.1 zCl (zty G) s) (hZ : va_P G.1 zCl (zws G b M N) H) (hdg : decode cc pc = .ok (.getfield 26, 3)) (kk : W p l e R s m args below meth c H locs cells slots Q (F0 m (pc + 3) ls (.ref (b + 105) :: rest))) : W p l e R s m args below meth c H locs cells slots Q (F0 m pc ls (.ref (b + 99) :: rest)) :=
  va_get (D := G.1) (ci := 6) (v := .ref (b + 105)) (C := R_Mo) (T := T_Mo) (N := 23) hx hb hta hin_Mo hown hK hZ 99 zo_Mo rfl 9 (by decide) (hta _ wd736) (fun _ h9 => h9) rfl hdg kk
theorem d_Mo_goodPrime_0 : decode prog_10_method_36_code 0 = .ok (.lconst 1, 1) := by decide +kernel
theorem d_Mo_goodPrime_1 : decode prog_10_method_36_code 1 = .ok (.lstore_n 1, 1) := by decide +kernel
theorem d_Mo_goodPrime_2 : decode prog_10_method_36_code 2 = .ok (.iconst 0, 1) := by decide +kernel
theorem d_Mo_goodPrime_3 : decode prog_10_method_36_code 3 = .ok (.istore_n 3, 1) := by decide +kernel
theorem d_Mo_goodPrime_4 : decode prog_10_method_36_code 4 = .ok (.aload_n 0, 1) := by decide +kernel
theorem d_Mo_goodPrime_5 : decode prog_10_method_36_code 5 = .ok (.getfield 26, 3) := by decide +kernel
theorem d_Mo_goodPrime_8 : decode prog_10_method_36_code 8 = .ok (.aload_n 0, 1) := by decide +kernel
theorem d_Mo_goodPrime_9 : decode prog_10_method_36_code 9 = .ok (.getfield 32, 3) := by decide +kernel
theorem d_Mo_goodPrime_12 : decode prog_10_method_36_code 12 = .ok (.invokestatic 120, 3) := by decide +kernel
theorem d_Mo_goodPrime_15 : decode prog_10_method_36_code 15 = .ok (.iload_n 3, 1) := by decide +kernel
theorem d_Mo_goodPrime_16 : decode prog_10_method_36_code 16 = .ok (.ifCond .ne 58, 3) := by decide +kernel
theorem d_Mo_goodPrime_19 : decode prog_10_method_36_code 19 = .ok (.lload_n 1, 1) := by decide +kernel
theorem d_Mo_goodPrime_20 : decode prog_10_method_36_code 20 = .ok (.lconst 1, 1) := by decide +kernel
theorem d_Mo_goodPrime_21 : decode prog_10_method_36_code 21 = .ok (.ladd, 1) := by decide +kernel
theorem d_Mo_goodPrime_22 : decode prog_10_method_36_code 22 = .ok (.lstore_n 1, 1) := by decide +kernel
theorem d_Mo_goodPrime_23 : decode prog_10_method_36_code 23 = .ok (.lload_n 1, 1) := by decide +kernel
theorem d_Mo_goodPrime_24 : decode prog_10_method_36_code 24 = .ok (.invokestatic 170, 3) := by decide +kernel
theorem d_Mo_goodPrime_27 : decode prog_10_method_36_code 27 = .ok (.ifCond .eq 42, 3) := by decide +kernel
theorem d_Mo_goodPrime_30 : decode prog_10_method_36_code 30 = .ok (.aload_n 0, 1) := by decide +kernel
theorem d_Mo_goodPrime_31 : decode prog_10_method_36_code 31 = .ok (.getfield 26, 3) := by decide +kernel
theorem d_Mo_goodPrime_34 : decode prog_10_method_36_code 34 = .ok (.aload_n 0, 1) := by decide +kernel
theorem d_Mo_goodPrime_35 : decode prog_10_method_36_code 35 = .ok (.getfield 26, 3) := by decide +kernel
theorem d_Mo_goodPrime_38 : decode prog_10_method_36_code 38 = .ok (.invokestatic 82, 3) := by decide +kernel
theorem d_Mo_goodPrime_41 : decode prog_10_method_36_code 41 = .ok (.laload, 1) := by decide +kernel
theorem d_Mo_goodPrime_42 : decode prog_10_method_36_code 42 = .ok (.lload_n 1, 1) := by decide +kernel
theorem d_Mo_goodPrime_43 : decode prog_10_method_36_code 43 = .ok (.lrem, 1) := by decide +kernel
theorem d_Mo_goodPrime_44 : decode prog_10_method_36_code 44 = .ok (.lconst 0, 1) := by decide +kernel
theorem d_Mo_goodPrime_45 : decode prog_10_method_36_code 45 = .ok (.lcmp, 1) := by decide +kernel
theorem d_Mo_goodPrime_46 : decode prog_10_method_36_code 46 = .ok (.ifCond .eq 23, 3) := by decide +kernel
theorem d_Mo_goodPrime_49 : decode prog_10_method_36_code 49 = .ok (.aload_n 0, 1) := by decide +kernel
theorem d_Mo_goodPrime_50 : decode prog_10_method_36_code 50 = .ok (.aload_n 0, 1) := by decide +kernel
theorem d_Mo_goodPrime_51 : decode prog_10_method_36_code 51 = .ok (.getfield 26, 3) := by decide +kernel
theorem d_Mo_goodPrime_54 : decode prog_10_method_36_code 54 = .ok (.aload_n 0, 1) := by decide +kernel
theorem d_Mo_goodPrime_55 : decode prog_10_method_36_code 55 = .ok (.getfield 32, 3) := by decide +kernel
theorem d_Mo_goodPrime_58 : decode prog_10_method_36_code 58 = .ok (.lload_n 1, 1) := by decide +kernel
theorem d_Mo_goodPrime_59 : decode prog_10_method_36_code 59 = .ok (.invokevirtual 153, 3) := by decide +kernel
theorem d_Mo_goodPrime_62 : decode prog_10_method_36_code 62 = .ok (.ifCond .ne 7, 3) := by decide +kernel
theorem d_Mo_goodPrime_65 : decode prog_10_method_36_code 65 = .ok (.iconst 1, 1) := by decide +kernel
theorem d_Mo_goodPrime_66 : decode prog_10_method_36_code 66 = .ok (.goto 4, 3) := by decide +kernel
theorem d_Mo_goodPrime_69 : decode prog_10_method_36_code 69 = .ok (.iconst 0, 1) := by decide +kernel
theorem d_Mo_goodPrime_70 : decode prog_10_method_36_code 70 = .ok (.istore_n 3, 1) := by decide +kernel
theorem d_Mo_goodPrime_71 : decode prog_10_method_36_code 71 = .ok (.goto (-56), 3) := by decide +kernel
theorem d_Mo_goodPrime_74 : decode prog_10_method_36_code 74 = .ok (.lload_n 1, 1) := by decide +kernel
theorem d_Mo_goodPrime_75 : decode prog_10_method_36_code 75 = .ok (.lreturn, 1) := by decide +kernel
def B_Mo_goodPrime_15 (P : Int64 → zM → Prop) (k15 : Int64 → Int32 → zM → Prop) (v1 : Int64) (v3 : Int32) (M : zM) : Prop := (¬ v3 = 0 → P v1 M) ∧ (v3 = 0 → ∀ x4 : Int64, x4 = v1 + (1 : Int64) → w_Mo_isPrimeNumber x4  (fun r5 => (r5 = 0 → k15 x4 (0 : Int32) M) ∧ (¬ r5 = 0 → w_Mo_degreeOf 105 M (fun r8 => vp_in r8 (zlong 105) ∧ ¬ x4 = 0 ∧ (((M 105 r8.toNatClampNeg) - (M 105 r8.toNatClampNeg) / x4 * x4) = (0 : Int64) → k15 x4 (0 : Int32) M) ∧ (¬ ((M 105 r8.toNatClampNeg) - (M 105 r8.toNatClampNeg) / x4 * x4) = (0 : Int64) → w_Mo_euclid 105 107 x4 M (fun r11 M12 => (¬ r11 = 0 → k15 x4 (0 : Int32) M12) ∧ (r11 = 0 → k15 x4 (1 : Int32) M12)))))))
def L_Mo_goodPrime_15 (P : Int64 → zM → Prop) (n : Nat) : Int64 → Int32 → zM → Prop := Nat.rec (fun _ _ _ => False) (fun _ k => B_Mo_goodPrime_15 P k) n
def w_Mo_goodPrime  (M : zM) (P : Int64 → zM → Prop) : Prop := w_Mo_derivative 105 107 M (fun M2 => ∃ n, L_Mo_goodPrime_15 P n (1 : Int64) (0 : Int32) M2)
def ws_Mo_goodPrime : List Cond := .code y_Mo_goodPrime prog_10_method_36_code 4 (Option.some Jvm.ClassFile.FieldType.long) :: zall
def rm_Mo_goodPrime : Room := { frames := 3, cells := 0, slots := 0, locals := 88 }
theorem hd_Mo_goodPrime : y_Mo_goodPrime.cls ≠ "java/lang/invoke/MethodHandle" ∧ y_Mo_goodPrime.cls ≠ "java/lang/invoke/VarHandle" ∧ (parseMethodDescriptor y_Mo_goodPrime.desc).map (fun d => d.parameters.length) = some 0 := by decide +kernel
set_option maxHeartbeats 4000000 in
set_option maxRecDepth 100000 in
theorem c_Mo_goodPrime (l : Launch) (G : zG) (b : Nat)  (M : zM) (N : zN) {P : Int64 → zM → Prop} (hw : w_Mo_goodPrime  M P) : Met l y_Mo_goodPrime ws_Mo_goodPrime rm_Mo_goodPrime (zPc G b M N [.ref (b + 99)]) (zQl G b (fun r M' N' => P r M' ∧ N' = N)) 0 0 (zA b) := by
  refine Met.ofW (cc := prog_10_method_36_code) (maxL := 4) (ret := (Option.some Jvm.ClassFile.FieldType.long)) (by decide) rfl ?_
  intro p e s m args below meth c s₁ B hml hv
  obtain ⟨rfl, hZ, hK, hT⟩ := hv
  have hx := B.exec
  have hb := B.bytes
  have hr := B.returns
  have hts := atoms_spec (ws := ws_Mo_goodPrime) B.pre
  have hta : ∀ w ∈ zall, w.before ([.ref (b + 99)] : List Value).toArray s = true := fun w h => hts w (List.mem_cons_of_mem _ h)
  have hown : s.vm.findClass R_Mo = some m.cls := findClass_of_methodNamed B.named
  have hlocks := B.notSynchronized
  have hS : va_S (zA b) s.heap s.heap [] := va_S.rf
  have hl := lv_entry ([.ref (b + 99)]) (n := 4) (Nat.le_of_ble_eq_true rfl)
  rw [lg_entry_eq]
  generalize (lg_sl ([.ref (b + 99)]) ++ List.replicate (4 - (lg_sl ([.ref (b + 99)])).length) Slot.unset).toArray = ls at hl ⊢
  have hl : lv_has ls 4 [(0, .ref (b + 99))] := hl
  have lp15 : ∀ (n : Nat) (v1 : Int64) (v3 : Int32) (M : zM) (H : Heap) (ls : Array Slot) (locs : List Loc), va_P G.1 zCl (zws G b M N) H → va_S (zA b) s.heap H locs → lv_has ls 4 [(0, .ref (b + 99)), (1, .long v1), (3, .int v3)] → L_Mo_goodPrime_15 P n v1 v3 M → W p l e (headSpec ws_Mo_goodPrime rm_Mo_goodPrime).room s m ([.ref (b + 99)] : List Value).toArray below meth c H locs 0 0 (MQ below (zQl G b (fun r M' N' => P r M' ∧ N' = N)) ([.ref (b + 99)] : List Value).toArray s 0 0 (zA b)) (F0 m 15 ls []) := by
    intro  n
    induction n with
    | zero => intro v1 v3 M H ls locs hZ hS hl hw; exact False.elim hw
    | succ n15 ih15 =>
      intro v1 v3 M H ls locs hZ hS hl hw
      have hw : B_Mo_goodPrime_15 P (L_Mo_goodPrime_15 P n15) v1 v3 M := hw
      unfold B_Mo_goodPrime_15 at hw
      refine lv_iload_n (pc := 15) hx hb d_Mo_goodPrime_15 rfl (lv_at hl 2 rfl) ?_
      refine lv_if_ne (pc := 16) (tgt := 74) hx hb d_Mo_goodPrime_16 (by decide) (fun hc => ?_) (fun hc => ?_)
      · have hw := hw.1 hc
        refine lv_lload_n (pc := 74) hx hb d_Mo_goodPrime_74 rfl (lv_at hl 1 rfl) ?_
        exact z_lret hx hb hr hlocks hK hT hZ hS ⟨hw, rfl⟩ d_Mo_goodPrime_75
      · have hw := hw.2 hc
        refine lv_lload_n (pc := 19) hx hb d_Mo_goodPrime_19 rfl (lv_at hl 1 rfl) ?_
        refine lv_lconst (pc := 20) (v := 1) hx hb d_Mo_goodPrime_20 (by decide) ?_
        refine lv_ladd (pc := 21) hx hb d_Mo_goodPrime_21 ?_
        refine lv_topl (fun x4 hx4 => ?_)
        have hw := hw x4 hx4
        refine lv_lstore_n (pc := 22) (lv' := [(1, .long x4), (0, .ref (b + 99)), (3, .int v3)]) hx hb d_Mo_goodPrime_22 rfl hl (by decide) rfl (fun ls hl => ?_)
        refine lv_lload_n (pc := 23) hx hb d_Mo_goodPrime_23 rfl (lv_at hl 0 rfl) ?_
        refine z_calli (pc := 24) (va_runS (As := [.long x4]) (rest := []) ⟨hx, hb, hml, hown, hts⟩ (c_Mo_isPrimeNumber l G b x4 M N hw) (va_cwS 1 hts (z_good (zgS wd940 wd941 wd7 wd942)) rfl rfl rfl hd_Mo_isPrimeNumber ⟨Nat.le_of_ble_eq_true rfl, Nat.le_of_ble_eq_true rfl⟩) (z_preS hZ hK hT hS) rfl rfl hl.1 rfl (lv_room (Nat.le_of_ble_eq_true rfl)) d_Mo_goodPrime_24 ⟨Nat.le_of_ble_eq_true rfl, Nat.le_of_ble_eq_true rfl⟩) hS (fun r5 M6 N7 H locs hw hZ hS => ?_)
        obtain ⟨hw, eM6, eN7⟩ := hw
        rw [eM6, eN7] at hZ
        refine lv_if_eq (pc := 27) (tgt := 69) hx hb d_Mo_goodPrime_27 (by decide) (fun hc => ?_) (fun hc => ?_)
        · have hw := hw.1 hc
          refine lv_iconst (pc := 69) (v := 0) hx hb d_Mo_goodPrime_69 (by decide) ?_
          refine lv_istore_n (pc := 70) (lv' := [(3, .int (0 : Int32)), (1, .long x4), (0, .ref (b + 99))]) hx hb d_Mo_goodPrime_70 rfl hl (by decide) rfl (fun ls hl => ?_)
          refine lv_goto (pc := 71) (tgt := 15) hx hb d_Mo_goodPrime_71 (by decide) ?_
          exact ih15 x4 (0 : Int32) M _ _ _ hZ hS (lv_sub hl [2, 1, 0] rfl) hw
        · have hw := hw.2 hc
          refine lv_aload_n (pc := 30) hx hb d_Mo_goodPrime_30 rfl (lv_at hl 1 rfl) ?_
          refine zg_Mo_26 (pc := 31) hx hb hta hown hK hZ d_Mo_goodPrime_31 ?_
          refine lv_aload_n (pc := 34) hx hb d_Mo_goodPrime_34 rfl (lv_at hl 1 rfl) ?_
          refine zg_Mo_26 (pc := 35) hx hb hta hown hK hZ d_Mo_goodPrime_35 ?_
          refine z_calli (pc := 38) (va_runS (As := [.ref (b + 105)]) (rest := [.ref (b + 105)]) ⟨hx, hb, hml, hown, hts⟩ (c_Mo_degreeOf l G b 105 M N hw) (va_cwS 1 hts (z_good (zgS wd814 wd815 wd7 wd816)) rfl rfl rfl hd_Mo_degreeOf ⟨Nat.le_of_ble_eq_true rfl, Nat.le_of_ble_eq_true rfl⟩) (z_preS hZ hK hT hS) rfl rfl hl.1 rfl (lv_room (Nat.le_of_ble_eq_true rfl)) d_Mo_goodPrime_38 ⟨Nat.le_of_ble_eq_true rfl, Nat.le_of_ble_eq_true rfl⟩) hS (fun r8 M9 N10 H locs hw hZ hS => ?_)
          obtain ⟨hw, eM9, eN10⟩ := hw
          rw [eM9, eN10] at hZ
          obtain ⟨hc, hw⟩ := hw
          refine z_lald (pc := 41) hx hb hK hZ hc d_Mo_goodPrime_41 ?_
          refine lv_lload_n (pc := 42) hx hb d_Mo_goodPrime_42 rfl (lv_at hl 0 rfl) ?_
          obtain ⟨hc, hw⟩ := hw
          refine lv_lrem (pc := 43) hx hb d_Mo_goodPrime_43 hc ?_
          refine lv_lconst (pc := 44) (v := 0) hx hb d_Mo_goodPrime_44 (by decide) ?_
          refine z_lc_eq (pc := 45) (tgt := 69) hx hb d_Mo_goodPrime_45 d_Mo_goodPrime_46 (by decide) (fun hc => ?_) (fun hc => ?_)
          · have hw := hw.1 hc
            refine lv_iconst (pc := 69) (v := 0) hx hb d_Mo_goodPrime_69 (by decide) ?_
            refine lv_istore_n (pc := 70) (lv' := [(3, .int (0 : Int32)), (1, .long x4), (0, .ref (b + 99))]) hx hb d_Mo_goodPrime_70 rfl hl (by decide) rfl (fun ls hl => ?_)
            refine lv_goto (pc := 71) (tgt := 15) hx hb d_Mo_goodPrime_71 (by decide) ?_
            exact ih15 x4 (0 : Int32) M _ _ _ hZ hS (lv_sub hl [2, 1, 0] rfl) hw
          · have hw := hw.2 hc
            refine lv_aload_n (pc := 49) hx hb d_Mo_goodPrime_49 rfl (lv_at hl 1 rfl) ?_
            refine lv_aload_n (pc := 50) hx hb d_Mo_goodPrime_50 rfl (lv_at hl 1 rfl) ?_
            refine zg_Mo_26 (pc := 51) hx hb hta hown hK hZ d_Mo_goodPrime_51 ?_
            refine lv_aload_n (pc := 54) hx hb d_Mo_goodPrime_54 rfl (lv_at hl 1 rfl) ?_
            refine zg_Mo_32 (pc := 55) hx hb hta hown hK hZ d_Mo_goodPrime_55 ?_
            refine lv_lload_n (pc := 58) hx hb d_Mo_goodPrime_58 rfl (lv_at hl 0 rfl) ?_
            refine z_calli (pc := 59) (va_runV (C := R_Mo) (b := b + 99) (As := [.ref (b + 105), .ref (b + 107), .long x4]) (rest := []) ⟨hx, hb, hml, hown, hts⟩ (c_Mo_euclid l G b 105 107 x4 M N hw) (cwV 3 hts (z_good (zgV wd898 wd900 wsel23 wd7 wd901)) rfl rfl rfl ⟨rfl, hd_Mo_euclid⟩ ⟨Nat.le_of_ble_eq_true rfl, Nat.le_of_ble_eq_true rfl⟩) (z_preV zo_Mo rfl rfl hZ hK hT hS) rfl rfl hl.1 rfl (lv_room (Nat.le_of_ble_eq_true rfl)) d_Mo_goodPrime_59 ⟨Nat.le_of_ble_eq_true rfl, Nat.le_of_ble_eq_true rfl⟩) hS (fun r11 M12 N13 H locs hw hZ hS => ?_)
            obtain ⟨hw, eN13⟩ := hw
            rw [eN13] at hZ
            refine lv_if_ne (pc := 62) (tgt := 69) hx hb d_Mo_goodPrime_62 (by decide) (fun hc => ?_) (fun hc => ?_)
            · have hw := hw.1 hc
              refine lv_iconst (pc := 69) (v := 0) hx hb d_Mo_goodPrime_69 (by decide) ?_
              refine lv_istore_n (pc := 70) (lv' := [(3, .int (0 : Int32)), (1, .long x4), (0, .ref (b + 99))]) hx hb d_Mo_goodPrime_70 rfl hl (by decide) rfl (fun ls hl => ?_)
              refine lv_goto (pc := 71) (tgt := 15) hx hb d_Mo_goodPrime_71 (by decide) ?_
              exact ih15 x4 (0 : Int32) M12 _ _ _ hZ hS (lv_sub hl [2, 1, 0] rfl) hw
            · have hw := hw.2 hc
              refine lv_iconst (pc := 65) (v := 1) hx hb d_Mo_goodPrime_65 (by decide) ?_
              refine lv_goto (pc := 66) (tgt := 70) hx hb d_Mo_goodPrime_66 (by decide) ?_
              refine lv_istore_n (pc := 70) (lv' := [(3, .int (1 : Int32)), (1, .long x4), (0, .ref (b + 99))]) hx hb d_Mo_goodPrime_70 rfl hl (by decide) rfl (fun ls hl => ?_)
              refine lv_goto (pc := 71) (tgt := 15) hx hb d_Mo_goodPrime_71 (by decide) ?_
              exact ih15 x4 (1 : Int32) M12 _ _ _ hZ hS (lv_sub hl [2, 1, 0] rfl) hw
  unfold w_Mo_goodPrime at hw
  refine lv_lconst (pc := 0) (v := 1) hx hb d_Mo_goodPrime_0 (by decide) ?_
  refine lv_lstore_n (pc := 1) (lv' := [(1, .long (1 : Int64)), (0, .ref (b + 99))]) hx hb d_Mo_goodPrime_1 rfl hl (by decide) rfl (fun ls hl => ?_)
  refine lv_iconst (pc := 2) (v := 0) hx hb d_Mo_goodPrime_2 (by decide) ?_
  refine lv_istore_n (pc := 3) (lv' := [(3, .int (0 : Int32)), (1, .long (1 : Int64)), (0, .ref (b + 99))]) hx hb d_Mo_goodPrime_3 rfl hl (by decide) rfl (fun ls hl => ?_)
  refine lv_aload_n (pc := 4) hx hb d_Mo_goodPrime_4 rfl (lv_at hl 2 rfl) ?_
  refine zg_Mo_26 (pc := 5) hx hb hta hown hK hZ d_Mo_goodPrime_5 ?_
  refine lv_aload_n (pc := 8) hx hb d_Mo_goodPrime_8 rfl (lv_at hl 2 rfl) ?_
  refine zg_Mo_32 (pc := 9) hx hb hta hown hK hZ d_Mo_goodPrime_9 ?_
  refine z_callv (pc := 12) (va_runS (As := [.ref (b + 105), .ref (b + 107)]) (rest := []) ⟨hx, hb, hml, hown, hts⟩ (c_Mo_derivative l G b 105 107 M N hw) (va_cwS 2 hts (z_good (zgS wd850 wd851 wd7 wd852)) rfl rfl rfl hd_Mo_derivative ⟨Nat.le_of_ble_eq_true rfl, Nat.le_of_ble_eq_true rfl⟩) (z_preS hZ hK hT hS) rfl rfl hl.1 rfl (lv_room (Nat.le_of_ble_eq_true rfl)) d_Mo_goodPrime_12 ⟨Nat.le_of_ble_eq_true rfl, Nat.le_of_ble_eq_true rfl⟩) hS (fun M2 N3 H locs hw hZ hS => ?_)
  obtain ⟨hw, eN3⟩ := hw
  rw [eN3] at hZ
  obtain ⟨n, hw⟩ := hw
  exact lp15  n (1 : Int64) (0 : Int32) M2 _ _ _ hZ hS (lv_sub hl [2, 1, 0] rfl) hw
theorem zg_Mo_53 {p : Program} {l : Launch} {e : Env} {R : Room} {s : State} {m : MethodId} {args : Array Value} {below : List Frame} {meth : Method} {c : Code} {H : Heap} {locs : List Loc} {cells slots : Nat} {Q : State → Prop} {cc : ByteArray} {pc : Nat} {ls : Array Slot} {rest : List Value} {G : zG} {b : Nat} {M : zM} {N : zN} (hx : p.tables.exec = Jvm.exec) (hb : c.code = cc) (hta : ∀ w ∈ zall, w.before args s = true) (hown : s.vm.findClass R_Mo = some m.cls) (hK : va_K G.1 zCl (zty G) s) (hZ : va_P G.1 zCl (zws G b M N) H) (hdg : decode cc pc = .ok (.getfield 53, 3)) (kk : W p l e R s m args below meth c H locs cells slots Q (F0 m (pc + 3) ls (.ref (b + 114) :: rest))) : W p l e R s m args below meth c H locs cells slots Q (F0 m pc ls (.ref (b + 99) :: rest)) :=
  va_get (D := G.1) (ci := 6) (v := .ref (b + 114)) (C := R_Mo) (T := T_Mo) (N := 23) hx hb hta hin_Mo hown hK hZ 99 zo_Mo rfl 18 (by decide) (hta _ wd745) (fun _ h9 => h9) rfl hdg kk
theorem d_Mo_lay_0 : decode prog_10_method_37_code 0 = .ok (.lload_n 1, 1) := by decide +kernel
theorem d_Mo_lay_1 : decode prog_10_method_37_code 1 = .ok (.lstore 6, 2) := by decide +kernel
theorem d_Mo_lay_3 : decode prog_10_method_37_code 3 = .ok (.iconst 0, 1) := by decide +kernel
theorem d_Mo_lay_4 : decode prog_10_method_37_code 4 = .ok (.istore 8, 2) := by decide +kernel
theorem d_Mo_lay_6 : decode prog_10_method_37_code 6 = .ok (.iload 8, 2) := by decide +kernel
theorem d_Mo_lay_8 : decode prog_10_method_37_code 8 = .ok (.bipush 16, 2) := by decide +kernel
theorem d_Mo_lay_10 : decode prog_10_method_37_code 10 = .ok (.if_icmp .ge 48, 3) := by decide +kernel
theorem d_Mo_lay_13 : decode prog_10_method_37_code 13 = .ok (.aload_n 0, 1) := by decide +kernel
theorem d_Mo_lay_14 : decode prog_10_method_37_code 14 = .ok (.getfield 53, 3) := by decide +kernel
theorem d_Mo_lay_17 : decode prog_10_method_37_code 17 = .ok (.iload 8, 2) := by decide +kernel
theorem d_Mo_lay_19 : decode prog_10_method_37_code 19 = .ok (.iload 8, 2) := by decide +kernel
theorem d_Mo_lay_21 : decode prog_10_method_37_code 21 = .ok (.iload_n 3, 1) := by decide +kernel
theorem d_Mo_lay_22 : decode prog_10_method_37_code 22 = .ok (.if_icmp .ge 11, 3) := by decide +kernel
theorem d_Mo_lay_25 : decode prog_10_method_37_code 25 = .ok (.lload 6, 2) := by decide +kernel
theorem d_Mo_lay_27 : decode prog_10_method_37_code 27 = .ok (.lload 4, 2) := by decide +kernel
theorem d_Mo_lay_29 : decode prog_10_method_37_code 29 = .ok (.lrem, 1) := by decide +kernel
theorem d_Mo_lay_30 : decode prog_10_method_37_code 30 = .ok (.goto 14, 3) := by decide +kernel
theorem d_Mo_lay_33 : decode prog_10_method_37_code 33 = .ok (.iload 8, 2) := by decide +kernel
theorem d_Mo_lay_35 : decode prog_10_method_37_code 35 = .ok (.iload_n 3, 1) := by decide +kernel
theorem d_Mo_lay_36 : decode prog_10_method_37_code 36 = .ok (.if_icmp .ne 7, 3) := by decide +kernel
theorem d_Mo_lay_39 : decode prog_10_method_37_code 39 = .ok (.lconst 1, 1) := by decide +kernel
theorem d_Mo_lay_40 : decode prog_10_method_37_code 40 = .ok (.goto 4, 3) := by decide +kernel
theorem d_Mo_lay_43 : decode prog_10_method_37_code 43 = .ok (.lconst 0, 1) := by decide +kernel
theorem d_Mo_lay_44 : decode prog_10_method_37_code 44 = .ok (.lastore, 1) := by decide +kernel
theorem d_Mo_lay_45 : decode prog_10_method_37_code 45 = .ok (.lload 6, 2) := by decide +kernel
theorem d_Mo_lay_47 : decode prog_10_method_37_code 47 = .ok (.lload 4, 2) := by decide +kernel
theorem d_Mo_lay_49 : decode prog_10_method_37_code 49 = .ok (.ldiv, 1) := by decide +kernel
theorem d_Mo_lay_50 : decode prog_10_method_37_code 50 = .ok (.lstore 6, 2) := by decide +kernel
theorem d_Mo_lay_52 : decode prog_10_method_37_code 52 = .ok (.iinc 8 1, 3) := by decide +kernel
theorem d_Mo_lay_55 : decode prog_10_method_37_code 55 = .ok (.goto (-49), 3) := by decide +kernel
theorem d_Mo_lay_58 : decode prog_10_method_37_code 58 = .ok (.return_, 1) := by decide +kernel
def J_Mo_lay_44 (P : zM → Prop) (k6 : Int64 → Int32 → zM → Prop) (a3 : Int32) (a4 : Int64) (v6 : Int64) (v8 : Int32) (t0 : Int64) (t1 : Int32) (M : zM) : Prop := vp_in t1 (zlong 114) ∧ ∀ M1 : zM, M1 = zput M 114 t1.toNatClampNeg t0 → ¬ a4 = 0 ∧ ∀ x2 : Int64, x2 = v6 / a4 → k6 x2 (v8 + (1 : Int32)) M1
def B_Mo_lay_6 (P : zM → Prop) (a3 : Int32) (a4 : Int64) (k6 : Int64 → Int32 → zM → Prop) (v6 : Int64) (v8 : Int32) (M : zM) : Prop := ((16 : Int32) ≤ v8 → P M) ∧ (¬ (16 : Int32) ≤ v8 → (a3 ≤ v8 → (¬ v8 = a3 → J_Mo_lay_44 P k6 a3 a4 v6 v8 (0 : Int64) v8 M) ∧ (v8 = a3 → J_Mo_lay_44 P k6 a3 a4 v6 v8 (1 : Int64) v8 M)) ∧ (¬ a3 ≤ v8 → ¬ a4 = 0 ∧ J_Mo_lay_44 P k6 a3 a4 v6 v8 (v6 - v6 / a4 * a4) v8 M))
def L_Mo_lay_6 (P : zM → Prop) (a3 : Int32) (a4 : Int64) (n : Nat) : Int64 → Int32 → zM → Prop := Nat.rec (fun _ _ _ => False) (fun _ k => B_Mo_lay_6 P a3 a4 k) n
def w_Mo_lay (a1 : Int64) (a3 : Int32) (a4 : Int64) (M : zM) (P : zM → Prop) : Prop := ∃ n, L_Mo_lay_6 P a3 a4 n a1 (0 : Int32) M
def ws_Mo_lay : List Cond := .code y_Mo_lay prog_10_method_37_code 9 (Option.none : Option Jvm.ClassFile.FieldType) :: zall
def rm_Mo_lay : Room := { frames := 0, cells := 0, slots := 0, locals := 0 }
theorem hd_Mo_lay : y_Mo_lay.cls ≠ "java/lang/invoke/MethodHandle" ∧ y_Mo_lay.cls ≠ "java/lang/invoke/VarHandle" ∧ (parseMethodDescriptor y_Mo_lay.desc).map (fun d => d.parameters.length) = some 3 := by decide +kernel
set_option maxHeartbeats 4000000 in
set_option maxRecDepth 100000 in
theorem c_Mo_lay (l : Launch) (G : zG) (b : Nat) (a1 : Int64) (a3 : Int32) (a4 : Int64) (M : zM) (N : zN) {P : zM → Prop} (hw : w_Mo_lay a1 a3 a4 M P) : Met l y_Mo_lay ws_Mo_lay rm_Mo_lay (zPc G b M N [.ref (b + 99), .long a1, .int a3, .long a4]) (zQv G b (fun M' N' => P M' ∧ N' = N)) 0 0 (zA b) := by
  refine Met.ofW (cc := prog_10_method_37_code) (maxL := 9) (ret := (Option.none : Option Jvm.ClassFile.FieldType)) (by decide) rfl ?_
  intro p e s m args below meth c s₁ B hml hv
  obtain ⟨rfl, hZ, hK, hT⟩ := hv
  have hx := B.exec
  have hb := B.bytes
  have hr := B.returns
  have hts := atoms_spec (ws := ws_Mo_lay) B.pre
  have hta : ∀ w ∈ zall, w.before ([.ref (b + 99), .long a1, .int a3, .long a4] : List Value).toArray s = true := fun w h => hts w (List.mem_cons_of_mem _ h)
  have hown : s.vm.findClass R_Mo = some m.cls := findClass_of_methodNamed B.named
  have hlocks := B.notSynchronized
  have hS : va_S (zA b) s.heap s.heap [] := va_S.rf
  have hl := lv_entry ([.ref (b + 99), .long a1, .int a3, .long a4]) (n := 9) (Nat.le_of_ble_eq_true rfl)
  rw [lg_entry_eq]
  generalize (lg_sl ([.ref (b + 99), .long a1, .int a3, .long a4]) ++ List.replicate (9 - (lg_sl ([.ref (b + 99), .long a1, .int a3, .long a4])).length) Slot.unset).toArray = ls at hl ⊢
  have hl : lv_has ls 9 [(0, .ref (b + 99)), (1, .long a1), (3, .int a3), (4, .long a4)] := hl
  have lp6 : ∀ (n : Nat) (v6 : Int64) (v8 : Int32) (M : zM) (H : Heap) (ls : Array Slot) (locs : List Loc), va_P G.1 zCl (zws G b M N) H → va_S (zA b) s.heap H locs → lv_has ls 9 [(0, .ref (b + 99)), (3, .int a3), (4, .long a4), (6, .long v6), (8, .int v8)] → L_Mo_lay_6 P a3 a4 n v6 v8 M → W p l e (headSpec ws_Mo_lay rm_Mo_lay).room s m ([.ref (b + 99), .long a1, .int a3, .long a4] : List Value).toArray below meth c H locs 0 0 (MQ below (zQv G b (fun M' N' => P M' ∧ N' = N)) ([.ref (b + 99), .long a1, .int a3, .long a4] : List Value).toArray s 0 0 (zA b)) (F0 m 6 ls []) := by
    intro  n
    induction n with
    | zero => intro v6 v8 M H ls locs hZ hS hl hw; exact False.elim hw
    | succ n6 ih6 =>
      have j44 : ∀ (v6 : Int64) (v8 : Int32) (t0 : Int64) (t1 : Int32) (M : zM) (H : Heap) (ls : Array Slot) (locs : List Loc), va_P G.1 zCl (zws G b M N) H → va_S (zA b) s.heap H locs → lv_has ls 9 [(0, .ref (b + 99)), (3, .int a3), (4, .long a4), (6, .long v6), (8, .int v8)] → J_Mo_lay_44 P (L_Mo_lay_6 P a3 a4 n6) a3 a4 v6 v8 t0 t1 M → W p l e (headSpec ws_Mo_lay rm_Mo_lay).room s m ([.ref (b + 99), .long a1, .int a3, .long a4] : List Value).toArray below meth c H locs 0 0 (MQ below (zQv G b (fun M' N' => P M' ∧ N' = N)) ([.ref (b + 99), .long a1, .int a3, .long a4] : List Value).toArray s 0 0 (zA b)) (F0 m 44 ls [.long t0, .int t1, .ref (b + 114)]) := by
        intro v6 v8 t0 t1 M H ls locs hZ hS hl hw
        unfold J_Mo_lay_44 at hw
        obtain ⟨hc, hw⟩ := hw
        refine z_last (pc := 44) hx hb hK hZ hS hc d_Mo_lay_44 (fun M1 H locs hM1 hZ hS => ?_)
        have hw := hw M1 hM1
        refine lv_lload (pc := 45) hx hb d_Mo_lay_45 (lv_at hl 3 rfl) ?_
        refine lv_lload (pc := 47) hx hb d_Mo_lay_47 (lv_at hl 2 rfl) ?_
        obtain ⟨hc, hw⟩ := hw
        refine lv_ldiv (pc := 49) hx hb d_Mo_lay_49 hc ?_
        refine lv_topl (fun x2 hx2 => ?_)
        have hw := hw x2 hx2
        refine lv_lstore (pc := 50) (lv' := [(6, .long x2), (0, .ref (b + 99)), (3, .int a3), (4, .long a4), (8, .int v8)]) hx hb d_Mo_lay_50 hl (by decide) rfl (fun ls hl => ?_)
        refine lv_iinc (pc := 52) (k := 4) (v := v8 + (1 : Int32)) (lv' := [(8, .int (v8 + (1 : Int32))), (6, .long x2), (0, .ref (b + 99)), (3, .int a3), (4, .long a4)]) hx hb d_Mo_lay_52 hl rfl (by rfl) (by decide) rfl (fun ls hl => ?_)
        refine lv_goto (pc := 55) (tgt := 6) hx hb d_Mo_lay_55 (by decide) ?_
        exact ih6 x2 (v8 + (1 : Int32)) M1 _ _ _ hZ hS (lv_sub hl [2, 3, 4, 1, 0] rfl) hw
      intro v6 v8 M H ls locs hZ hS hl hw
      have hw : B_Mo_lay_6 P a3 a4 (L_Mo_lay_6 P a3 a4 n6) v6 v8 M := hw
      unfold B_Mo_lay_6 at hw
      refine lv_iload (pc := 6) hx hb d_Mo_lay_6 (lv_at hl 4 rfl) ?_
      refine lv_bipush (pc := 8) (v := 16) hx hb d_Mo_lay_8 (by decide) ?_
      refine lv_icmp_ge (pc := 10) (tgt := 58) hx hb d_Mo_lay_10 (by decide) (fun hc => ?_) (fun hc => ?_)
      · have hw := hw.1 hc
        exact z_vret hx hb hr hlocks hK hT hZ hS ⟨hw, rfl⟩ d_Mo_lay_58
      · have hw := hw.2 hc
        refine lv_aload_n (pc := 13) hx hb d_Mo_lay_13 rfl (lv_at hl 0 rfl) ?_
        refine zg_Mo_53 (pc := 14) hx hb hta hown hK hZ d_Mo_lay_14 ?_
        refine lv_iload (pc := 17) hx hb d_Mo_lay_17 (lv_at hl 4 rfl) ?_
        refine lv_iload (pc := 19) hx hb d_Mo_lay_19 (lv_at hl 4 rfl) ?_
        refine lv_iload_n (pc := 21) hx hb d_Mo_lay_21 rfl (lv_at hl 1 rfl) ?_
        refine lv_icmp_ge (pc := 22) (tgt := 33) hx hb d_Mo_lay_22 (by decide) (fun hc => ?_) (fun hc => ?_)
        · have hw := hw.1 hc
          refine lv_iload (pc := 33) hx hb d_Mo_lay_33 (lv_at hl 4 rfl) ?_
          refine lv_iload_n (pc := 35) hx hb d_Mo_lay_35 rfl (lv_at hl 1 rfl) ?_
          refine lv_icmp_ne (pc := 36) (tgt := 43) hx hb d_Mo_lay_36 (by decide) (fun hc => ?_) (fun hc => ?_)
          · have hw := hw.1 hc
            refine lv_lconst (pc := 43) (v := 0) hx hb d_Mo_lay_43 (by decide) ?_
            exact j44 v6 v8 (0 : Int64) v8 M _ _ _ hZ hS hl hw
          · have hw := hw.2 hc
            refine lv_lconst (pc := 39) (v := 1) hx hb d_Mo_lay_39 (by decide) ?_
            refine lv_goto (pc := 40) (tgt := 44) hx hb d_Mo_lay_40 (by decide) ?_
            exact j44 v6 v8 (1 : Int64) v8 M _ _ _ hZ hS hl hw
        · have hw := hw.2 hc
          refine lv_lload (pc := 25) hx hb d_Mo_lay_25 (lv_at hl 3 rfl) ?_
          refine lv_lload (pc := 27) hx hb d_Mo_lay_27 (lv_at hl 2 rfl) ?_
          obtain ⟨hc, hw⟩ := hw
          refine lv_lrem (pc := 29) hx hb d_Mo_lay_29 hc ?_
          refine lv_goto (pc := 30) (tgt := 44) hx hb d_Mo_lay_30 (by decide) ?_
          exact j44 v6 v8 (v6 - v6 / a4 * a4) v8 M _ _ _ hZ hS hl hw
  unfold w_Mo_lay at hw
  refine lv_lload_n (pc := 0) hx hb d_Mo_lay_0 rfl (lv_at hl 1 rfl) ?_
  refine lv_lstore (pc := 1) (lv' := [(6, .long a1), (0, .ref (b + 99)), (1, .long a1), (3, .int a3), (4, .long a4)]) hx hb d_Mo_lay_1 hl (by decide) rfl (fun ls hl => ?_)
  refine lv_iconst (pc := 3) (v := 0) hx hb d_Mo_lay_3 (by decide) ?_
  refine lv_istore (pc := 4) (lv' := [(8, .int (0 : Int32)), (6, .long a1), (0, .ref (b + 99)), (1, .long a1), (3, .int a3), (4, .long a4)]) hx hb d_Mo_lay_4 hl (by decide) rfl (fun ls hl => ?_)
  obtain ⟨n, hw⟩ := hw
  exact lp6  n a1 (0 : Int32) M _ _ _ hZ hS (lv_sub hl [2, 4, 5, 1, 0] rfl) hw
theorem d_Mo_power_0 : decode prog_10_method_38_code 0 = .ok (.lconst 1, 1) := by decide +kernel
theorem d_Mo_power_1 : decode prog_10_method_38_code 1 = .ok (.lstore_n 3, 1) := by decide +kernel
theorem d_Mo_power_2 : decode prog_10_method_38_code 2 = .ok (.iconst 0, 1) := by decide +kernel
theorem d_Mo_power_3 : decode prog_10_method_38_code 3 = .ok (.istore 5, 2) := by decide +kernel
theorem d_Mo_power_5 : decode prog_10_method_38_code 5 = .ok (.iload 5, 2) := by decide +kernel
theorem d_Mo_power_7 : decode prog_10_method_38_code 7 = .ok (.iload_n 2, 1) := by decide +kernel
theorem d_Mo_power_8 : decode prog_10_method_38_code 8 = .ok (.if_icmp .ge 13, 3) := by decide +kernel
theorem d_Mo_power_11 : decode prog_10_method_38_code 11 = .ok (.lload_n 3, 1) := by decide +kernel
theorem d_Mo_power_12 : decode prog_10_method_38_code 12 = .ok (.lload_n 0, 1) := by decide +kernel
theorem d_Mo_power_13 : decode prog_10_method_38_code 13 = .ok (.lmul, 1) := by decide +kernel
theorem d_Mo_power_14 : decode prog_10_method_38_code 14 = .ok (.lstore_n 3, 1) := by decide +kernel
theorem d_Mo_power_15 : decode prog_10_method_38_code 15 = .ok (.iinc 5 1, 3) := by decide +kernel
theorem d_Mo_power_18 : decode prog_10_method_38_code 18 = .ok (.goto (-13), 3) := by decide +kernel
theorem d_Mo_power_21 : decode prog_10_method_38_code 21 = .ok (.lload_n 3, 1) := by decide +kernel
theorem d_Mo_power_22 : decode prog_10_method_38_code 22 = .ok (.lreturn, 1) := by decide +kernel
def B_Mo_power_5 (P : Int64 → Prop) (a0 : Int64) (a2 : Int32) (k5 : Int64 → Int32 → Prop) (v3 : Int64) (v5 : Int32) : Prop := (a2 ≤ v5 → P v3) ∧ (¬ a2 ≤ v5 → ∀ x1 : Int64, x1 = v3 * a0 → k5 x1 (v5 + (1 : Int32)))
def L_Mo_power_5 (P : Int64 → Prop) (a0 : Int64) (a2 : Int32) (n : Nat) : Int64 → Int32 → Prop := Nat.rec (fun _ _ => False) (fun _ k => B_Mo_power_5 P a0 a2 k) n
def w_Mo_power (a0 : Int64) (a2 : Int32) (P : Int64 → Prop) : Prop := ∃ n, L_Mo_power_5 P a0 a2 n (1 : Int64) (0 : Int32)
def ws_Mo_power : List Cond := .code y_Mo_power prog_10_method_38_code 6 (Option.some Jvm.ClassFile.FieldType.long) :: zall
def rm_Mo_power : Room := { frames := 0, cells := 0, slots := 0, locals := 0 }
theorem hd_Mo_power : y_Mo_power.cls ≠ "java/lang/invoke/MethodHandle" ∧ y_Mo_power.cls ≠ "java/lang/invoke/VarHandle" ∧ (parseMethodDescriptor y_Mo_power.desc).map (fun d => d.parameters.length) = some 2 := by decide +kernel
set_option maxHeartbeats 4000000 in
set_option maxRecDepth 100000 in
theorem c_Mo_power (l : Launch) (G : zG) (b : Nat) (a0 : Int64) (a2 : Int32) (M : zM) (N : zN) {P : Int64 → Prop} (hw : w_Mo_power a0 a2  P) : Met l y_Mo_power ws_Mo_power rm_Mo_power (zPc G b M N [.long a0, .int a2]) (zQl G b (fun r M' N' => P r ∧ M' = M ∧ N' = N)) 0 0 (zA b) := by
  refine Met.ofW (cc := prog_10_method_38_code) (maxL := 6) (ret := (Option.some Jvm.ClassFile.FieldType.long)) (by decide) rfl ?_
  intro p e s m args below meth c s₁ B hml hv
  obtain ⟨rfl, hZ, hK, hT⟩ := hv
  have hx := B.exec
  have hb := B.bytes
  have hr := B.returns
  have hts := atoms_spec (ws := ws_Mo_power) B.pre
  have hta : ∀ w ∈ zall, w.before ([.long a0, .int a2] : List Value).toArray s = true := fun w h => hts w (List.mem_cons_of_mem _ h)
  have hown : s.vm.findClass R_Mo = some m.cls := findClass_of_methodNamed B.named
  have hlocks := B.notSynchronized
  have hS : va_S (zA b) s.heap s.heap [] := va_S.rf
  have hl := lv_entry ([.long a0, .int a2]) (n := 6) (Nat.le_of_ble_eq_true rfl)
  rw [lg_entry_eq]
  generalize (lg_sl ([.long a0, .int a2]) ++ List.replicate (6 - (lg_sl ([.long a0, .int a2])).length) Slot.unset).toArray = ls at hl ⊢
  have hl : lv_has ls 6 [(0, .long a0), (2, .int a2)] := hl
  have lp5 : ∀ (n : Nat) (v3 : Int64) (v5 : Int32) (H : Heap) (ls : Array Slot) (locs : List Loc), va_P G.1 zCl (zws G b M N) H → va_S (zA b) s.heap H locs → lv_has ls 6 [(0, .long a0), (2, .int a2), (3, .long v3), (5, .int v5)] → L_Mo_power_5 P a0 a2 n v3 v5 → W p l e (headSpec ws_Mo_power rm_Mo_power).room s m ([.long a0, .int a2] : List Value).toArray below meth c H locs 0 0 (MQ below (zQl G b (fun r M' N' => P r ∧ M' = M ∧ N' = N)) ([.long a0, .int a2] : List Value).toArray s 0 0 (zA b)) (F0 m 5 ls []) := by
    intro  n
    induction n with
    | zero => intro v3 v5 H ls locs hZ hS hl hw; exact False.elim hw
    | succ n5 ih5 =>
      intro v3 v5 H ls locs hZ hS hl hw
      have hw : B_Mo_power_5 P a0 a2 (L_Mo_power_5 P a0 a2 n5) v3 v5 := hw
      unfold B_Mo_power_5 at hw
      refine lv_iload (pc := 5) hx hb d_Mo_power_5 (lv_at hl 3 rfl) ?_
      refine lv_iload_n (pc := 7) hx hb d_Mo_power_7 rfl (lv_at hl 1 rfl) ?_
      refine lv_icmp_ge (pc := 8) (tgt := 21) hx hb d_Mo_power_8 (by decide) (fun hc => ?_) (fun hc => ?_)
      · have hw := hw.1 hc
        refine lv_lload_n (pc := 21) hx hb d_Mo_power_21 rfl (lv_at hl 2 rfl) ?_
        exact z_lret hx hb hr hlocks hK hT hZ hS ⟨hw, rfl, rfl⟩ d_Mo_power_22
      · have hw := hw.2 hc
        refine lv_lload_n (pc := 11) hx hb d_Mo_power_11 rfl (lv_at hl 2 rfl) ?_
        refine lv_lload_n (pc := 12) hx hb d_Mo_power_12 rfl (lv_at hl 0 rfl) ?_
        refine lv_lmul (pc := 13) hx hb d_Mo_power_13 ?_
        refine lv_topl (fun x1 hx1 => ?_)
        have hw := hw x1 hx1
        refine lv_lstore_n (pc := 14) (lv' := [(3, .long x1), (0, .long a0), (2, .int a2), (5, .int v5)]) hx hb d_Mo_power_14 rfl hl (by decide) rfl (fun ls hl => ?_)
        refine lv_iinc (pc := 15) (k := 3) (v := v5 + (1 : Int32)) (lv' := [(5, .int (v5 + (1 : Int32))), (3, .long x1), (0, .long a0), (2, .int a2)]) hx hb d_Mo_power_15 hl rfl (by rfl) (by decide) rfl (fun ls hl => ?_)
        refine lv_goto (pc := 18) (tgt := 5) hx hb d_Mo_power_18 (by decide) ?_
        exact ih5 x1 (v5 + (1 : Int32)) _ _ _ hZ hS (lv_sub hl [2, 3, 1, 0] rfl) hw
  unfold w_Mo_power at hw
  refine lv_lconst (pc := 0) (v := 1) hx hb d_Mo_power_0 (by decide) ?_
  refine lv_lstore_n (pc := 1) (lv' := [(3, .long (1 : Int64)), (0, .long a0), (2, .int a2)]) hx hb d_Mo_power_1 rfl hl (by decide) rfl (fun ls hl => ?_)
  refine lv_iconst (pc := 2) (v := 0) hx hb d_Mo_power_2 (by decide) ?_
  refine lv_istore (pc := 3) (lv' := [(5, .int (0 : Int32)), (3, .long (1 : Int64)), (0, .long a0), (2, .int a2)]) hx hb d_Mo_power_3 hl (by decide) rfl (fun ls hl => ?_)
  obtain ⟨n, hw⟩ := hw
  exact lp5  n (1 : Int64) (0 : Int32) _ _ _ hZ hS (lv_sub hl [2, 3, 1, 0] rfl) hw
theorem wsel30 : Cond.selects R_Mo y_Mo_lay y_Mo_lay ∈ zall := List.mem_filter.mpr ⟨List.mem_append_left _ (List.mem_of_getElem? (i := 30) rfl), by decide +kernel⟩
theorem zg_Mo_56 {p : Program} {l : Launch} {e : Env} {R : Room} {s : State} {m : MethodId} {args : Array Value} {below : List Frame} {meth : Method} {c : Code} {H : Heap} {locs : List Loc} {cells slots : Nat} {Q : State → Prop} {cc : ByteArray} {pc : Nat} {ls : Array Slot} {rest : List Value} {G : zG} {b : Nat} {M : zM} {N : zN} (hx : p.tables.exec = Jvm.exec) (hb : c.code = cc) (hta : ∀ w ∈ zall, w.before args s = true) (hown : s.vm.findClass R_Mo = some m.cls) (hK : va_K G.1 zCl (zty G) s) (hZ : va_P G.1 zCl (zws G b M N) H) (hdg : decode cc pc = .ok (.getfield 56, 3)) (kk : W p l e R s m args below meth c H locs cells slots Q (F0 m (pc + 3) ls (.ref (b + 115) :: rest))) : W p l e R s m args below meth c H locs cells slots Q (F0 m pc ls (.ref (b + 99) :: rest)) :=
  va_get (D := G.1) (ci := 6) (v := .ref (b + 115)) (C := R_Mo) (T := T_Mo) (N := 23) hx hb hta hin_Mo hown hK hZ 99 zo_Mo rfl 19 (by decide) (hta _ wd746) (fun _ h9 => h9) rfl hdg kk
theorem zg_Mo_59 {p : Program} {l : Launch} {e : Env} {R : Room} {s : State} {m : MethodId} {args : Array Value} {below : List Frame} {meth : Method} {c : Code} {H : Heap} {locs : List Loc} {cells slots : Nat} {Q : State → Prop} {cc : ByteArray} {pc : Nat} {ls : Array Slot} {rest : List Value} {G : zG} {b : Nat} {M : zM} {N : zN} (hx : p.tables.exec = Jvm.exec) (hb : c.code = cc) (hta : ∀ w ∈ zall, w.before args s = true) (hown : s.vm.findClass R_Mo = some m.cls) (hK : va_K G.1 zCl (zty G) s) (hZ : va_P G.1 zCl (zws G b M N) H) (hdg : decode cc pc = .ok (.getfield 59, 3)) (kk : W p l e R s m args below meth c H locs cells slots Q (F0 m (pc + 3) ls (.ref (b + 116) :: rest))) : W p l e R s m args below meth c H locs cells slots Q (F0 m pc ls (.ref (b + 99) :: rest)) :=
  va_get (D := G.1) (ci := 6) (v := .ref (b + 116)) (C := R_Mo) (T := T_Mo) (N := 23) hx hb hta hin_Mo hown hK hZ 99 zo_Mo rfl 20 (by decide) (hta _ wd747) (fun _ h9 => h9) rfl hdg kk
theorem wsel31 : Cond.selects R_Mo y_Mo_dividesModulo y_Mo_dividesModulo ∈ zall := List.mem_filter.mpr ⟨List.mem_append_left _ (List.mem_of_getElem? (i := 31) rfl), by decide +kernel⟩
theorem d_Mo_refine_0 : decode prog_10_method_39_code 0 = .ok (.iconst 0, 1) := by decide +kernel
theorem d_Mo_refine_1 : decode prog_10_method_39_code 1 = .ok (.istore 7, 2) := by decide +kernel
theorem d_Mo_refine_3 : decode prog_10_method_39_code 3 = .ok (.lload 5, 2) := by decide +kernel
theorem d_Mo_refine_5 : decode prog_10_method_39_code 5 = .ok (.iload_n 1, 1) := by decide +kernel
theorem d_Mo_refine_6 : decode prog_10_method_39_code 6 = .ok (.invokestatic 174, 3) := by decide +kernel
theorem d_Mo_refine_9 : decode prog_10_method_39_code 9 = .ok (.lstore 8, 2) := by decide +kernel
theorem d_Mo_refine_11 : decode prog_10_method_39_code 11 = .ok (.lconst 0, 1) := by decide +kernel
theorem d_Mo_refine_12 : decode prog_10_method_39_code 12 = .ok (.lstore 10, 2) := by decide +kernel
theorem d_Mo_refine_14 : decode prog_10_method_39_code 14 = .ok (.lload 10, 2) := by decide +kernel
theorem d_Mo_refine_16 : decode prog_10_method_39_code 16 = .ok (.lload 8, 2) := by decide +kernel
theorem d_Mo_refine_18 : decode prog_10_method_39_code 18 = .ok (.lcmp, 1) := by decide +kernel
theorem d_Mo_refine_19 : decode prog_10_method_39_code 19 = .ok (.ifCond .ge 102, 3) := by decide +kernel
theorem d_Mo_refine_22 : decode prog_10_method_39_code 22 = .ok (.iload 7, 2) := by decide +kernel
theorem d_Mo_refine_24 : decode prog_10_method_39_code 24 = .ok (.ifCond .ne 97, 3) := by decide +kernel
theorem d_Mo_refine_27 : decode prog_10_method_39_code 27 = .ok (.aload_n 0, 1) := by decide +kernel
theorem d_Mo_refine_28 : decode prog_10_method_39_code 28 = .ok (.lload 10, 2) := by decide +kernel
theorem d_Mo_refine_30 : decode prog_10_method_39_code 30 = .ok (.iload_n 1, 1) := by decide +kernel
theorem d_Mo_refine_31 : decode prog_10_method_39_code 31 = .ok (.lload 5, 2) := by decide +kernel
theorem d_Mo_refine_33 : decode prog_10_method_39_code 33 = .ok (.invokevirtual 178, 3) := by decide +kernel
theorem d_Mo_refine_36 : decode prog_10_method_39_code 36 = .ok (.iconst 0, 1) := by decide +kernel
theorem d_Mo_refine_37 : decode prog_10_method_39_code 37 = .ok (.istore 12, 2) := by decide +kernel
theorem d_Mo_refine_39 : decode prog_10_method_39_code 39 = .ok (.iload 12, 2) := by decide +kernel
theorem d_Mo_refine_41 : decode prog_10_method_39_code 41 = .ok (.bipush 16, 2) := by decide +kernel
theorem d_Mo_refine_43 : decode prog_10_method_39_code 43 = .ok (.if_icmp .ge 49, 3) := by decide +kernel
theorem d_Mo_refine_46 : decode prog_10_method_39_code 46 = .ok (.aload_n 0, 1) := by decide +kernel
theorem d_Mo_refine_47 : decode prog_10_method_39_code 47 = .ok (.getfield 56, 3) := by decide +kernel
theorem d_Mo_refine_50 : decode prog_10_method_39_code 50 = .ok (.iload 12, 2) := by decide +kernel
theorem d_Mo_refine_52 : decode prog_10_method_39_code 52 = .ok (.iload 12, 2) := by decide +kernel
theorem d_Mo_refine_54 : decode prog_10_method_39_code 54 = .ok (.iload_n 1, 1) := by decide +kernel
theorem d_Mo_refine_55 : decode prog_10_method_39_code 55 = .ok (.if_icmp .ge 23, 3) := by decide +kernel
theorem d_Mo_refine_58 : decode prog_10_method_39_code 58 = .ok (.aload_n 0, 1) := by decide +kernel
theorem d_Mo_refine_59 : decode prog_10_method_39_code 59 = .ok (.getfield 59, 3) := by decide +kernel
theorem d_Mo_refine_62 : decode prog_10_method_39_code 62 = .ok (.iload 12, 2) := by decide +kernel
theorem d_Mo_refine_64 : decode prog_10_method_39_code 64 = .ok (.laload, 1) := by decide +kernel
theorem d_Mo_refine_65 : decode prog_10_method_39_code 65 = .ok (.lload_n 3, 1) := by decide +kernel
theorem d_Mo_refine_66 : decode prog_10_method_39_code 66 = .ok (.aload_n 0, 1) := by decide +kernel
theorem d_Mo_refine_67 : decode prog_10_method_39_code 67 = .ok (.getfield 53, 3) := by decide +kernel
theorem d_Mo_refine_70 : decode prog_10_method_39_code 70 = .ok (.iload 12, 2) := by decide +kernel
theorem d_Mo_refine_72 : decode prog_10_method_39_code 72 = .ok (.laload, 1) := by decide +kernel
theorem d_Mo_refine_73 : decode prog_10_method_39_code 73 = .ok (.lmul, 1) := by decide +kernel
theorem d_Mo_refine_74 : decode prog_10_method_39_code 74 = .ok (.ladd, 1) := by decide +kernel
theorem d_Mo_refine_75 : decode prog_10_method_39_code 75 = .ok (.goto 10, 3) := by decide +kernel
theorem d_Mo_refine_78 : decode prog_10_method_39_code 78 = .ok (.aload_n 0, 1) := by decide +kernel
theorem d_Mo_refine_79 : decode prog_10_method_39_code 79 = .ok (.getfield 53, 3) := by decide +kernel
theorem d_Mo_refine_82 : decode prog_10_method_39_code 82 = .ok (.iload 12, 2) := by decide +kernel
theorem d_Mo_refine_84 : decode prog_10_method_39_code 84 = .ok (.laload, 1) := by decide +kernel
theorem d_Mo_refine_85 : decode prog_10_method_39_code 85 = .ok (.lastore, 1) := by decide +kernel
theorem d_Mo_refine_86 : decode prog_10_method_39_code 86 = .ok (.iinc 12 1, 3) := by decide +kernel
theorem d_Mo_refine_89 : decode prog_10_method_39_code 89 = .ok (.goto (-50), 3) := by decide +kernel
theorem d_Mo_refine_92 : decode prog_10_method_39_code 92 = .ok (.aload_n 0, 1) := by decide +kernel
theorem d_Mo_refine_93 : decode prog_10_method_39_code 93 = .ok (.aload_n 0, 1) := by decide +kernel
theorem d_Mo_refine_94 : decode prog_10_method_39_code 94 = .ok (.getfield 56, 3) := by decide +kernel
theorem d_Mo_refine_97 : decode prog_10_method_39_code 97 = .ok (.iload_n 1, 1) := by decide +kernel
theorem d_Mo_refine_98 : decode prog_10_method_39_code 98 = .ok (.aload_n 0, 1) := by decide +kernel
theorem d_Mo_refine_99 : decode prog_10_method_39_code 99 = .ok (.getfield 26, 3) := by decide +kernel
theorem d_Mo_refine_102 : decode prog_10_method_39_code 102 = .ok (.iload_n 2, 1) := by decide +kernel
theorem d_Mo_refine_103 : decode prog_10_method_39_code 103 = .ok (.lload_n 3, 1) := by decide +kernel
theorem d_Mo_refine_104 : decode prog_10_method_39_code 104 = .ok (.lload 5, 2) := by decide +kernel
theorem d_Mo_refine_106 : decode prog_10_method_39_code 106 = .ok (.lmul, 1) := by decide +kernel
theorem d_Mo_refine_107 : decode prog_10_method_39_code 107 = .ok (.invokevirtual 182, 3) := by decide +kernel
theorem d_Mo_refine_110 : decode prog_10_method_39_code 110 = .ok (.istore 7, 2) := by decide +kernel
theorem d_Mo_refine_112 : decode prog_10_method_39_code 112 = .ok (.lload 10, 2) := by decide +kernel
theorem d_Mo_refine_114 : decode prog_10_method_39_code 114 = .ok (.lconst 1, 1) := by decide +kernel
theorem d_Mo_refine_115 : decode prog_10_method_39_code 115 = .ok (.ladd, 1) := by decide +kernel
theorem d_Mo_refine_116 : decode prog_10_method_39_code 116 = .ok (.lstore 10, 2) := by decide +kernel
theorem d_Mo_refine_118 : decode prog_10_method_39_code 118 = .ok (.goto (-104), 3) := by decide +kernel
theorem d_Mo_refine_121 : decode prog_10_method_39_code 121 = .ok (.aload_n 0, 1) := by decide +kernel
theorem d_Mo_refine_122 : decode prog_10_method_39_code 122 = .ok (.getfield 56, 3) := by decide +kernel
theorem d_Mo_refine_125 : decode prog_10_method_39_code 125 = .ok (.aload_n 0, 1) := by decide +kernel
theorem d_Mo_refine_126 : decode prog_10_method_39_code 126 = .ok (.getfield 59, 3) := by decide +kernel
theorem d_Mo_refine_129 : decode prog_10_method_39_code 129 = .ok (.invokestatic 124, 3) := by decide +kernel
theorem d_Mo_refine_132 : decode prog_10_method_39_code 132 = .ok (.return_, 1) := by decide +kernel
def J_Mo_refine_121 (P : zM → Prop) (M : zM) : Prop := w_Mo_copy 115 116 M (fun M8 => P M8)
def B_Mo_refine_39 (P : zM → Prop) (k14 : Int32 → Int64 → zM → Prop) (a1 : Int32) (a2 : Int32) (a3 : Int64) (a5 : Int64) (v8 : Int64) (v10 : Int64) (k39 : Int32 → zM → Prop) (v12 : Int32) (M : zM) : Prop := ((16 : Int32) ≤ v12 → w_Mo_dividesModulo 115 a1 105 a2 (a3 * a5) M (fun r10 M11 => ∀ x13 : Int64, x13 = v10 + (1 : Int64) → k14 r10 x13 M11)) ∧ (¬ (16 : Int32) ≤ v12 → (a1 ≤ v12 → vp_in v12 (zlong 114) ∧ vp_in v12 (zlong 115) ∧ ∀ M14 : zM, M14 = zput M 115 v12.toNatClampNeg (M 114 v12.toNatClampNeg) → k39 (v12 + (1 : Int32)) M14) ∧ (¬ a1 ≤ v12 → vp_in v12 (zlong 116) ∧ vp_in v12 (zlong 114) ∧ vp_in v12 (zlong 115) ∧ ∀ M15 : zM, M15 = zput M 115 v12.toNatClampNeg ((M 116 v12.toNatClampNeg) + (a3 * (M 114 v12.toNatClampNeg))) → k39 (v12 + (1 : Int32)) M15))
def L_Mo_refine_39 (P : zM → Prop) (k14 : Int32 → Int64 → zM → Prop) (a1 : Int32) (a2 : Int32) (a3 : Int64) (a5 : Int64) (v8 : Int64) (v10 : Int64) (n : Nat) : Int32 → zM → Prop := Nat.rec (fun _ _ => False) (fun _ k => B_Mo_refine_39 P k14 a1 a2 a3 a5 v8 v10 k) n
def B_Mo_refine_14 (P : zM → Prop) (a1 : Int32) (a2 : Int32) (a3 : Int64) (a5 : Int64) (v8 : Int64) (k14 : Int32 → Int64 → zM → Prop) (v7 : Int32) (v10 : Int64) (M : zM) : Prop := (v8 ≤ v10 → J_Mo_refine_121 P M) ∧ (¬ v8 ≤ v10 → (¬ v7 = 0 → J_Mo_refine_121 P M) ∧ (v7 = 0 → w_Mo_lay v10 a1 a5 M (fun M5 => ∃ n, L_Mo_refine_39 P k14 a1 a2 a3 a5 v8 v10 n (0 : Int32) M5)))
def L_Mo_refine_14 (P : zM → Prop) (a1 : Int32) (a2 : Int32) (a3 : Int64) (a5 : Int64) (v8 : Int64) (n : Nat) : Int32 → Int64 → zM → Prop := Nat.rec (fun _ _ _ => False) (fun _ k => B_Mo_refine_14 P a1 a2 a3 a5 v8 k) n
def w_Mo_refine (a1 : Int32) (a2 : Int32) (a3 : Int64) (a5 : Int64) (M : zM) (P : zM → Prop) : Prop := w_Mo_power a5 a1  (fun r1 => ∃ n, L_Mo_refine_14 P a1 a2 a3 a5 r1 n (0 : Int32) (0 : Int64) M)
def ws_Mo_refine : List Cond := .code y_Mo_refine prog_10_method_39_code 13 (Option.none : Option Jvm.ClassFile.FieldType) :: zall
def rm_Mo_refine : Room := { frames := 2, cells := 0, slots := 0, locals := 55 }
theorem hd_Mo_refine : y_Mo_refine.cls ≠ "java/lang/invoke/MethodHandle" ∧ y_Mo_refine.cls ≠ "java/lang/invoke/VarHandle" ∧ (parseMethodDescriptor y_Mo_refine.desc).map (fun d => d.parameters.length) = some 4 := by decide +kernel
set_option maxHeartbeats 4000000 in
set_option maxRecDepth 100000 in
theorem c_Mo_refine (l : Launch) (G : zG) (b : Nat) (a1 : Int32) (a2 : Int32) (a3 : Int64) (a5 : Int64) (M : zM) (N : zN) {P : zM → Prop} (hw : w_Mo_refine a1 a2 a3 a5 M P) : Met l y_Mo_refine ws_Mo_refine rm_Mo_refine (zPc G b M N [.ref (b + 99), .int a1, .int a2, .long a3, .long a5]) (zQv G b (fun M' N' => P M' ∧ N' = N)) 0 0 (zA b) := by
  refine Met.ofW (cc := prog_10_method_39_code) (maxL := 13) (ret := (Option.none : Option Jvm.ClassFile.FieldType)) (by decide) rfl ?_
  intro p e s m args below meth c s₁ B hml hv
  obtain ⟨rfl, hZ, hK, hT⟩ := hv
  have hx := B.exec
  have hb := B.bytes
  have hr := B.returns
  have hts := atoms_spec (ws := ws_Mo_refine) B.pre
  have hta : ∀ w ∈ zall, w.before ([.ref (b + 99), .int a1, .int a2, .long a3, .long a5] : List Value).toArray s = true := fun w h => hts w (List.mem_cons_of_mem _ h)
  have hown : s.vm.findClass R_Mo = some m.cls := findClass_of_methodNamed B.named
  have hlocks := B.notSynchronized
  have hS : va_S (zA b) s.heap s.heap [] := va_S.rf
  have hl := lv_entry ([.ref (b + 99), .int a1, .int a2, .long a3, .long a5]) (n := 13) (Nat.le_of_ble_eq_true rfl)
  rw [lg_entry_eq]
  generalize (lg_sl ([.ref (b + 99), .int a1, .int a2, .long a3, .long a5]) ++ List.replicate (13 - (lg_sl ([.ref (b + 99), .int a1, .int a2, .long a3, .long a5])).length) Slot.unset).toArray = ls at hl ⊢
  have hl : lv_has ls 13 [(0, .ref (b + 99)), (1, .int a1), (2, .int a2), (3, .long a3), (5, .long a5)] := hl
  have j121 : ∀ (M : zM) (H : Heap) (ls : Array Slot) (locs : List Loc), va_P G.1 zCl (zws G b M N) H → va_S (zA b) s.heap H locs → lv_has ls 13 [(0, .ref (b + 99))] → J_Mo_refine_121 P M → W p l e (headSpec ws_Mo_refine rm_Mo_refine).room s m ([.ref (b + 99), .int a1, .int a2, .long a3, .long a5] : List Value).toArray below meth c H locs 0 0 (MQ below (zQv G b (fun M' N' => P M' ∧ N' = N)) ([.ref (b + 99), .int a1, .int a2, .long a3, .long a5] : List Value).toArray s 0 0 (zA b)) (F0 m 121 ls []) := by
    intro M H ls locs hZ hS hl hw
    unfold J_Mo_refine_121 at hw
    refine lv_aload_n (pc := 121) hx hb d_Mo_refine_121 rfl (lv_at hl 0 rfl) ?_
    refine zg_Mo_56 (pc := 122) hx hb hta hown hK hZ d_Mo_refine_122 ?_
    refine lv_aload_n (pc := 125) hx hb d_Mo_refine_125 rfl (lv_at hl 0 rfl) ?_
    refine zg_Mo_59 (pc := 126) hx hb hta hown hK hZ d_Mo_refine_126 ?_
    refine z_callv (pc := 129) (va_runS (As := [.ref (b + 115), .ref (b + 116)]) (rest := []) ⟨hx, hb, hml, hown, hts⟩ (c_Mo_copy l G b 115 116 M N hw) (va_cwS 2 hts (z_good (zgS wd865 wd866 wd7 wd867)) rfl rfl rfl hd_Mo_copy ⟨Nat.le_of_ble_eq_true rfl, Nat.le_of_ble_eq_true rfl⟩) (z_preS hZ hK hT hS) rfl rfl hl.1 rfl (lv_room (Nat.le_of_ble_eq_true rfl)) d_Mo_refine_129 ⟨Nat.le_of_ble_eq_true rfl, Nat.le_of_ble_eq_true rfl⟩) hS (fun M8 N9 H locs hw hZ hS => ?_)
    obtain ⟨hw, eN9⟩ := hw
    rw [eN9] at hZ
    exact z_vret hx hb hr hlocks hK hT hZ hS ⟨hw, rfl⟩ d_Mo_refine_132
  have lp14 : ∀ (v8 : Int64) (n : Nat) (v7 : Int32) (v10 : Int64) (M : zM) (H : Heap) (ls : Array Slot) (locs : List Loc), va_P G.1 zCl (zws G b M N) H → va_S (zA b) s.heap H locs → lv_has ls 13 [(0, .ref (b + 99)), (1, .int a1), (2, .int a2), (3, .long a3), (5, .long a5), (7, .int v7), (8, .long v8), (10, .long v10)] → L_Mo_refine_14 P a1 a2 a3 a5 v8 n v7 v10 M → W p l e (headSpec ws_Mo_refine rm_Mo_refine).room s m ([.ref (b + 99), .int a1, .int a2, .long a3, .long a5] : List Value).toArray below meth c H locs 0 0 (MQ below (zQv G b (fun M' N' => P M' ∧ N' = N)) ([.ref (b + 99), .int a1, .int a2, .long a3, .long a5] : List Value).toArray s 0 0 (zA b)) (F0 m 14 ls []) := by
    intro v8 n
    induction n with
    | zero => intro v7 v10 M H ls locs hZ hS hl hw; exact False.elim hw
    | succ n14 ih14 =>
      have lp39 : ∀ (v10 : Int64) (n : Nat) (v12 : Int32) (M : zM) (H : Heap) (ls : Array Slot) (locs : List Loc), va_P G.1 zCl (zws G b M N) H → va_S (zA b) s.heap H locs → lv_has ls 13 [(0, .ref (b + 99)), (1, .int a1), (2, .int a2), (3, .long a3), (5, .long a5), (8, .long v8), (10, .long v10), (12, .int v12)] → L_Mo_refine_39 P (L_Mo_refine_14 P a1 a2 a3 a5 v8 n14) a1 a2 a3 a5 v8 v10 n v12 M → W p l e (headSpec ws_Mo_refine rm_Mo_refine).room s m ([.ref (b + 99), .int a1, .int a2, .long a3, .long a5] : List Value).toArray below meth c H locs 0 0 (MQ below (zQv G b (fun M' N' => P M' ∧ N' = N)) ([.ref (b + 99), .int a1, .int a2, .long a3, .long a5] : List Value).toArray s 0 0 (zA b)) (F0 m 39 ls []) := by
        intro v10 n
        induction n with
        | zero => intro v12 M H ls locs hZ hS hl hw; exact False.elim hw
        | succ n39 ih39 =>
          intro v12 M H ls locs hZ hS hl hw
          have hw : B_Mo_refine_39 P (L_Mo_refine_14 P a1 a2 a3 a5 v8 n14) a1 a2 a3 a5 v8 v10 (L_Mo_refine_39 P (L_Mo_refine_14 P a1 a2 a3 a5 v8 n14) a1 a2 a3 a5 v8 v10 n39) v12 M := hw
          unfold B_Mo_refine_39 at hw
          refine lv_iload (pc := 39) hx hb d_Mo_refine_39 (lv_at hl 7 rfl) ?_
          refine lv_bipush (pc := 41) (v := 16) hx hb d_Mo_refine_41 (by decide) ?_
          refine lv_icmp_ge (pc := 43) (tgt := 92) hx hb d_Mo_refine_43 (by decide) (fun hc => ?_) (fun hc => ?_)
          · have hw := hw.1 hc
            refine lv_aload_n (pc := 92) hx hb d_Mo_refine_92 rfl (lv_at hl 0 rfl) ?_
            refine lv_aload_n (pc := 93) hx hb d_Mo_refine_93 rfl (lv_at hl 0 rfl) ?_
            refine zg_Mo_56 (pc := 94) hx hb hta hown hK hZ d_Mo_refine_94 ?_
            refine lv_iload_n (pc := 97) hx hb d_Mo_refine_97 rfl (lv_at hl 1 rfl) ?_
            refine lv_aload_n (pc := 98) hx hb d_Mo_refine_98 rfl (lv_at hl 0 rfl) ?_
            refine zg_Mo_26 (pc := 99) hx hb hta hown hK hZ d_Mo_refine_99 ?_
            refine lv_iload_n (pc := 102) hx hb d_Mo_refine_102 rfl (lv_at hl 2 rfl) ?_
            refine lv_lload_n (pc := 103) hx hb d_Mo_refine_103 rfl (lv_at hl 3 rfl) ?_
            refine lv_lload (pc := 104) hx hb d_Mo_refine_104 (lv_at hl 4 rfl) ?_
            refine lv_lmul (pc := 106) hx hb d_Mo_refine_106 ?_
            refine z_calli (pc := 107) (va_runV (C := R_Mo) (b := b + 99) (As := [.ref (b + 115), .int a1, .ref (b + 105), .int a2, .long (a3 * a5)]) (rest := []) ⟨hx, hb, hml, hown, hts⟩ (c_Mo_dividesModulo l G b 115 a1 105 a2 (a3 * a5) M N hw) (cwV 5 hts (z_good (zgV wd950 wd952 wsel31 wd7 wd953)) rfl rfl rfl ⟨rfl, hd_Mo_dividesModulo⟩ ⟨Nat.le_of_ble_eq_true rfl, Nat.le_of_ble_eq_true rfl⟩) (z_preV zo_Mo rfl rfl hZ hK hT hS) rfl rfl hl.1 rfl (lv_room (Nat.le_of_ble_eq_true rfl)) d_Mo_refine_107 ⟨Nat.le_of_ble_eq_true rfl, Nat.le_of_ble_eq_true rfl⟩) hS (fun r10 M11 N12 H locs hw hZ hS => ?_)
            obtain ⟨hw, eN12⟩ := hw
            rw [eN12] at hZ
            refine lv_istore (pc := 110) (lv' := [(7, .int r10), (0, .ref (b + 99)), (1, .int a1), (2, .int a2), (3, .long a3), (5, .long a5), (8, .long v8), (10, .long v10), (12, .int v12)]) hx hb d_Mo_refine_110 hl (by decide) rfl (fun ls hl => ?_)
            refine lv_lload (pc := 112) hx hb d_Mo_refine_112 (lv_at hl 7 rfl) ?_
            refine lv_lconst (pc := 114) (v := 1) hx hb d_Mo_refine_114 (by decide) ?_
            refine lv_ladd (pc := 115) hx hb d_Mo_refine_115 ?_
            refine lv_topl (fun x13 hx13 => ?_)
            have hw := hw x13 hx13
            refine lv_lstore (pc := 116) (lv' := [(10, .long x13), (7, .int r10), (0, .ref (b + 99)), (1, .int a1), (2, .int a2), (3, .long a3), (5, .long a5), (8, .long v8), (12, .int v12)]) hx hb d_Mo_refine_116 hl (by decide) rfl (fun ls hl => ?_)
            refine lv_goto (pc := 118) (tgt := 14) hx hb d_Mo_refine_118 (by decide) ?_
            exact ih14 r10 x13 M11 _ _ _ hZ hS (lv_sub hl [2, 3, 4, 5, 6, 1, 7, 0] rfl) hw
          · have hw := hw.2 hc
            refine lv_aload_n (pc := 46) hx hb d_Mo_refine_46 rfl (lv_at hl 0 rfl) ?_
            refine zg_Mo_56 (pc := 47) hx hb hta hown hK hZ d_Mo_refine_47 ?_
            refine lv_iload (pc := 50) hx hb d_Mo_refine_50 (lv_at hl 7 rfl) ?_
            refine lv_iload (pc := 52) hx hb d_Mo_refine_52 (lv_at hl 7 rfl) ?_
            refine lv_iload_n (pc := 54) hx hb d_Mo_refine_54 rfl (lv_at hl 1 rfl) ?_
            refine lv_icmp_ge (pc := 55) (tgt := 78) hx hb d_Mo_refine_55 (by decide) (fun hc => ?_) (fun hc => ?_)
            · have hw := hw.1 hc
              refine lv_aload_n (pc := 78) hx hb d_Mo_refine_78 rfl (lv_at hl 0 rfl) ?_
              refine zg_Mo_53 (pc := 79) hx hb hta hown hK hZ d_Mo_refine_79 ?_
              refine lv_iload (pc := 82) hx hb d_Mo_refine_82 (lv_at hl 7 rfl) ?_
              obtain ⟨hc, hw⟩ := hw
              refine z_lald (pc := 84) hx hb hK hZ hc d_Mo_refine_84 ?_
              obtain ⟨hc, hw⟩ := hw
              refine z_last (pc := 85) hx hb hK hZ hS hc d_Mo_refine_85 (fun M14 H locs hM14 hZ hS => ?_)
              have hw := hw M14 hM14
              refine lv_iinc (pc := 86) (k := 7) (v := v12 + (1 : Int32)) (lv' := [(12, .int (v12 + (1 : Int32))), (0, .ref (b + 99)), (1, .int a1), (2, .int a2), (3, .long a3), (5, .long a5), (8, .long v8), (10, .long v10)]) hx hb d_Mo_refine_86 hl rfl (by rfl) (by decide) rfl (fun ls hl => ?_)
              refine lv_goto (pc := 89) (tgt := 39) hx hb d_Mo_refine_89 (by decide) ?_
              exact ih39 (v12 + (1 : Int32)) M14 _ _ _ hZ hS (lv_sub hl [1, 2, 3, 4, 5, 6, 7, 0] rfl) hw
            · have hw := hw.2 hc
              refine lv_aload_n (pc := 58) hx hb d_Mo_refine_58 rfl (lv_at hl 0 rfl) ?_
              refine zg_Mo_59 (pc := 59) hx hb hta hown hK hZ d_Mo_refine_59 ?_
              refine lv_iload (pc := 62) hx hb d_Mo_refine_62 (lv_at hl 7 rfl) ?_
              obtain ⟨hc, hw⟩ := hw
              refine z_lald (pc := 64) hx hb hK hZ hc d_Mo_refine_64 ?_
              refine lv_lload_n (pc := 65) hx hb d_Mo_refine_65 rfl (lv_at hl 3 rfl) ?_
              refine lv_aload_n (pc := 66) hx hb d_Mo_refine_66 rfl (lv_at hl 0 rfl) ?_
              refine zg_Mo_53 (pc := 67) hx hb hta hown hK hZ d_Mo_refine_67 ?_
              refine lv_iload (pc := 70) hx hb d_Mo_refine_70 (lv_at hl 7 rfl) ?_
              obtain ⟨hc, hw⟩ := hw
              refine z_lald (pc := 72) hx hb hK hZ hc d_Mo_refine_72 ?_
              refine lv_lmul (pc := 73) hx hb d_Mo_refine_73 ?_
              refine lv_ladd (pc := 74) hx hb d_Mo_refine_74 ?_
              refine lv_goto (pc := 75) (tgt := 85) hx hb d_Mo_refine_75 (by decide) ?_
              obtain ⟨hc, hw⟩ := hw
              refine z_last (pc := 85) hx hb hK hZ hS hc d_Mo_refine_85 (fun M15 H locs hM15 hZ hS => ?_)
              have hw := hw M15 hM15
              refine lv_iinc (pc := 86) (k := 7) (v := v12 + (1 : Int32)) (lv' := [(12, .int (v12 + (1 : Int32))), (0, .ref (b + 99)), (1, .int a1), (2, .int a2), (3, .long a3), (5, .long a5), (8, .long v8), (10, .long v10)]) hx hb d_Mo_refine_86 hl rfl (by rfl) (by decide) rfl (fun ls hl => ?_)
              refine lv_goto (pc := 89) (tgt := 39) hx hb d_Mo_refine_89 (by decide) ?_
              exact ih39 (v12 + (1 : Int32)) M15 _ _ _ hZ hS (lv_sub hl [1, 2, 3, 4, 5, 6, 7, 0] rfl) hw
      intro v7 v10 M H ls locs hZ hS hl hw
      have hw : B_Mo_refine_14 P a1 a2 a3 a5 v8 (L_Mo_refine_14 P a1 a2 a3 a5 v8 n14) v7 v10 M := hw
      unfold B_Mo_refine_14 at hw
      refine lv_lload (pc := 14) hx hb d_Mo_refine_14 (lv_at hl 7 rfl) ?_
      refine lv_lload (pc := 16) hx hb d_Mo_refine_16 (lv_at hl 6 rfl) ?_
      refine z_lc_ge (pc := 18) (tgt := 121) hx hb d_Mo_refine_18 d_Mo_refine_19 (by decide) (fun hc => ?_) (fun hc => ?_)
      · have hw := hw.1 hc
        exact j121 M _ _ _ hZ hS (lv_sub hl [0] rfl) hw
      · have hw := hw.2 hc
        refine lv_iload (pc := 22) hx hb d_Mo_refine_22 (lv_at hl 5 rfl) ?_
        refine lv_if_ne (pc := 24) (tgt := 121) hx hb d_Mo_refine_24 (by decide) (fun hc => ?_) (fun hc => ?_)
        · have hw := hw.1 hc
          exact j121 M _ _ _ hZ hS (lv_sub hl [0] rfl) hw
        · have hw := hw.2 hc
          refine lv_aload_n (pc := 27) hx hb d_Mo_refine_27 rfl (lv_at hl 0 rfl) ?_
          refine lv_lload (pc := 28) hx hb d_Mo_refine_28 (lv_at hl 7 rfl) ?_
          refine lv_iload_n (pc := 30) hx hb d_Mo_refine_30 rfl (lv_at hl 1 rfl) ?_
          refine lv_lload (pc := 31) hx hb d_Mo_refine_31 (lv_at hl 4 rfl) ?_
          refine z_callv (pc := 33) (va_runV (C := R_Mo) (b := b + 99) (As := [.long v10, .int a1, .long a5]) (rest := []) ⟨hx, hb, hml, hown, hts⟩ (c_Mo_lay l G b v10 a1 a5 M N hw) (cwV 3 hts (z_good (zgV wd946 wd948 wsel30 wd7 wd949)) rfl rfl rfl ⟨rfl, hd_Mo_lay⟩ ⟨Nat.le_of_ble_eq_true rfl, Nat.le_of_ble_eq_true rfl⟩) (z_preV zo_Mo rfl rfl hZ hK hT hS) rfl rfl hl.1 rfl (lv_room (Nat.le_of_ble_eq_true rfl)) d_Mo_refine_33 ⟨Nat.le_of_ble_eq_true rfl, Nat.le_of_ble_eq_true rfl⟩) hS (fun M5 N6 H locs hw hZ hS => ?_)
          obtain ⟨hw, eN6⟩ := hw
          rw [eN6] at hZ
          refine lv_iconst (pc := 36) (v := 0) hx hb d_Mo_refine_36 (by decide) ?_
          refine lv_istore (pc := 37) (lv' := [(12, .int (0 : Int32)), (0, .ref (b + 99)), (1, .int a1), (2, .int a2), (3, .long a3), (5, .long a5), (7, .int v7), (8, .long v8), (10, .long v10)]) hx hb d_Mo_refine_37 hl (by decide) rfl (fun ls hl => ?_)
          obtain ⟨n, hw⟩ := hw
          exact lp39 v10 n (0 : Int32) M5 _ _ _ hZ hS (lv_sub hl [1, 2, 3, 4, 5, 7, 8, 0] rfl) hw
  unfold w_Mo_refine at hw
  refine lv_iconst (pc := 0) (v := 0) hx hb d_Mo_refine_0 (by decide) ?_
  refine lv_istore (pc := 1) (lv' := [(7, .int (0 : Int32)), (0, .ref (b + 99)), (1, .int a1), (2, .int a2), (3, .long a3), (5, .long a5)]) hx hb d_Mo_refine_1 hl (by decide) rfl (fun ls hl => ?_)
  refine lv_lload (pc := 3) hx hb d_Mo_refine_3 (lv_at hl 5 rfl) ?_
  refine lv_iload_n (pc := 5) hx hb d_Mo_refine_5 rfl (lv_at hl 2 rfl) ?_
  refine z_calll (pc := 6) (va_runS (As := [.long a5, .int a1]) (rest := []) ⟨hx, hb, hml, hown, hts⟩ (c_Mo_power l G b a5 a1 M N hw) (va_cwS 2 hts (z_good (zgS wd943 wd944 wd7 wd945)) rfl rfl rfl hd_Mo_power ⟨Nat.le_of_ble_eq_true rfl, Nat.le_of_ble_eq_true rfl⟩) (z_preS hZ hK hT hS) rfl rfl hl.1 rfl (lv_room (Nat.le_of_ble_eq_true rfl)) d_Mo_refine_6 ⟨Nat.le_of_ble_eq_true rfl, Nat.le_of_ble_eq_true rfl⟩) hS (fun r1 M2 N3 H locs hw hZ hS => ?_)
  obtain ⟨hw, eM2, eN3⟩ := hw
  rw [eM2, eN3] at hZ
  refine lv_lstore (pc := 9) (lv' := [(8, .long r1), (7, .int (0 : Int32)), (0, .ref (b + 99)), (1, .int a1), (2, .int a2), (3, .long a3), (5, .long a5)]) hx hb d_Mo_refine_9 hl (by decide) rfl (fun ls hl => ?_)
  refine lv_lconst (pc := 11) (v := 0) hx hb d_Mo_refine_11 (by decide) ?_
  refine lv_lstore (pc := 12) (lv' := [(10, .long (0 : Int64)), (8, .long r1), (7, .int (0 : Int32)), (0, .ref (b + 99)), (1, .int a1), (2, .int a2), (3, .long a3), (5, .long a5)]) hx hb d_Mo_refine_12 hl (by decide) rfl (fun ls hl => ?_)
  obtain ⟨n, hw⟩ := hw
  exact lp14 r1 n (0 : Int32) (0 : Int64) M _ _ _ hZ hS (lv_sub hl [3, 4, 5, 6, 7, 2, 1, 0] rfl) hw
