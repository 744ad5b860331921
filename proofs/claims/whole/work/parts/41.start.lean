theorem z_l1 {w : Cond} (h : w ∈ tables_1_1) : w ∈ lw_tbl := List.mem_append_right _ (List.mem_append_left _ h)
theorem z_l2 {w : Cond} (h : w ∈ tables_1_2) : w ∈ lw_tbl := List.mem_append_right _ (List.mem_append_right _ (List.mem_append_left _ h))
theorem z_l3 {w : Cond} (h : w ∈ tables_1_3) : w ∈ lw_tbl := List.mem_append_right _ (List.mem_append_right _ (List.mem_append_right _ (List.mem_append_left _ h)))
theorem z_l4 {w : Cond} (h : w ∈ tables_1_4) : w ∈ lw_tbl := List.mem_append_right _ (List.mem_append_right _ (List.mem_append_right _ (List.mem_append_right _ (List.mem_append_left _ h))))
theorem z_l5 {w : Cond} (h : w ∈ tables_1_5) : w ∈ lw_tbl := List.mem_append_right _ (List.mem_append_right _ (List.mem_append_right _ (List.mem_append_right _ (List.mem_append_right _ (h)))))
theorem z_tables {args : Array Value} {s : State} (hta : ∀ w ∈ zall, w.before args s = true) (hO : (Cond.arrayOver (.array .long)).before args s = true) : ∃ G : zG, va_K G.1 zCl (zty G) s := by
  obtain ⟨c0, i0, k0⟩ := u_known hta hin_CD (hta _ wd38)
  obtain ⟨c1, i1, k1⟩ := u_known hta hin_Fa (hta _ wd165)
  obtain ⟨c2, i2, k2⟩ := u_known hta hin_Li (hta _ wd107)
  obtain ⟨c3, i3, k3⟩ := u_known hta hin_MP (hta _ wd64)
  obtain ⟨c4, i4, k4⟩ := u_known hta hin_Sp (hta _ wd32)
  obtain ⟨c5, i5, k5⟩ := u_known hta hin_IS (hta _ wd22)
  obtain ⟨c6, i6, k6⟩ := u_known hta hin_Mo (hta _ wd712)
  obtain ⟨cJ, kJ, pJ, j1, j2, j3⟩ := Cond.arrayClass_spec (hta _ wd62)
  obtain ⟨cI, kI, pI, l1, l2, l3⟩ := Cond.arrayClass_spec (hta _ wd105)
  obtain ⟨comp, cA, kA, a1, a2, a3, a4, a5⟩ := arrayOverA_spec hO
  refine ⟨((fun k => ([c0, c1, c2, c3, c4, c5, c6] : List ClassId).getD k 0, fun k => ([i0, i1, i2, i3, i4, i5, i6] : List (Nat → Nat)).getD k (fun _ => 0)), cJ, cI, cA), ?_, ?_⟩
  · intro c q hq
    match c, hq with
    | 0, hq => cases hq; exact k0
    | 1, hq => cases hq; exact k1
    | 2, hq => cases hq; exact k2
    | 3, hq => cases hq; exact k3
    | 4, hq => cases hq; exact k4
    | 5, hq => cases hq; exact k5
    | 6, hq => cases hq; exact k6
    | k + 7, hq => simp at hq
  · intro k q hq
    match k, hq with
    | 0, hq => cases hq; exact ⟨fun n z => ⟨fun k h => (by cases h), kJ, j2, pJ, j3⟩, j1⟩
    | 1, hq => cases hq; exact ⟨fun n z => ⟨fun k h => (by cases h), kI, l2, pI, l3⟩, l1⟩
    | 2, hq => cases hq; exact ⟨fun n z => ⟨fun k h => (by cases h), kA, a3, comp, a4⟩, a5⟩
    | k + 3, hq => simp at hq
set_option maxRecDepth 100000 in
theorem z_statics {args : Array Value} {s : State} {b : Nat} (hb : s.heap.size = b) (hts : ∀ w ∈ lw_tbl, w.before args s = true) (hta : ∀ w ∈ zall, w.before args s = true) (hgv : (Jvm.Cond.and given_1 narrow_1).before args s = true) : zT b s s.heap := by
  have hf := flat_of_before _ hgv
  have hA : ∀ a : Nat, a < s.heap.size → ¬ zA b a := fun a h h2 => by have h3 : b ≤ a := h2; omega
  refine ⟨⟨?_, ?_, ?_⟩, ?_, ?_, ?_, ?_⟩
  · intro k h1 h2
    have hk : k = 1 ∨ k = 2 ∨ k = 3 ∨ k = 4 ∨ k = 5 := by omega
    rcases hk with rfl | rfl | rfl | rfl | rfl
    · exact va_Nw.of rfl (hts _ (z_l1 (List.mem_of_getElem? (i := 228) rfl)))
    · exact va_Nw.of rfl (hts _ (z_l2 (List.mem_of_getElem? (i := 58) rfl)))
    · exact va_Nw.of rfl (hts _ (z_l2 (List.mem_of_getElem? (i := 109) rfl)))
    · exact va_Nw.of rfl (hts _ (z_l2 (List.mem_of_getElem? (i := 176) rfl)))
    · exact va_Nw.of rfl (hts _ (z_l3 (List.mem_of_getElem? (i := 174) rfl)))
  · exact List.forall_mem_cons.mpr ⟨va_Nw.of rfl (hts _ (z_l1 (List.mem_of_getElem? (i := 229) rfl))), List.forall_mem_cons.mpr ⟨va_Nw.of rfl (hts _ (z_l1 (List.mem_of_getElem? (i := 230) rfl))), List.forall_mem_cons.mpr ⟨va_Nw.of rfl (hts _ (z_l1 (List.mem_of_getElem? (i := 231) rfl))), List.forall_mem_cons.mpr ⟨va_Nw.of rfl (hts _ (z_l1 (List.mem_of_getElem? (i := 232) rfl))), List.forall_mem_cons.mpr ⟨va_Nw.of rfl (hts _ (z_l1 (List.mem_of_getElem? (i := 233) rfl))), List.forall_mem_cons.mpr ⟨va_Nw.of rfl (hts _ (z_l1 (List.mem_of_getElem? (i := 234) rfl))), fun _ h => absurd h List.not_mem_nil⟩⟩⟩⟩⟩⟩
  · intro i j a b c d e
    have hi : i = 1 ∨ i = 2 ∨ i = 3 ∨ i = 4 ∨ i = 5 := by omega
    have hj : j = 1 ∨ j = 2 ∨ j = 3 ∨ j = 4 ∨ j = 5 := by omega
    rcases hi with rfl | rfl | rfl | rfl | rfl <;> rcases hj with rfl | rfl | rfl | rfl | rfl <;> first | exact absurd rfl e | exact va_Nc.of (hf _ (by decide +kernel))
  · exact vx_Zqof (hts _ (z_l2 (List.mem_of_getElem? (i := 13) rfl))) (hta _ wd8) (hf _ (by decide +kernel)) hA
  · exact vx_Zqof (hts _ (z_l2 (List.mem_of_getElem? (i := 15) rfl))) (hta _ wd8) (hf _ (by decide +kernel)) hA
  · obtain ⟨t, h1, h2⟩ := va_Tof (tm := .static "IntegerSplitter$CommonDivisor" "LARGE_PRIMES" "[J") (ty := .long) (N := 9) (f := fun j => .long (zlp j)) (A := zA b) (by decide) (hf _ (by decide +kernel)) (va_eqt (z := Int32.ofNat 9) (hf _ (by decide +kernel))) (fun j hj => va_eqtl (hf _ (va_run (f := fun j => Cond.eq (.elem (.static "IntegerSplitter$CommonDivisor" "LARGE_PRIMES" "[J") (.int (Int32.ofNat j))) (.long (zlp j))) (p := 9) (by decide +kernel) j hj))) hA
    exact ⟨t, va_Zref (hts _ (z_l2 (List.mem_of_getElem? (i := 221) rfl))) (hta _ wd3) h1 hA, h2⟩
  · obtain ⟨t, h1, h2⟩ := va_Tof (tm := .static "IntegerSplitter$Splitter" "SMALL_PRIMES" "[I") (ty := .int) (N := 46) (f := fun j => .int (zsp j)) (A := zA b) (by decide) (hf _ (by decide +kernel)) (va_eqt (z := Int32.ofNat 46) (hf _ (by decide +kernel))) (fun j hj => va_eqt (hf _ (va_run (f := fun j => Cond.eq (.elem (.static "IntegerSplitter$Splitter" "SMALL_PRIMES" "[I") (.int (Int32.ofNat j))) (.int (zsp j))) (p := 21) (by decide +kernel) j hj))) hA
    exact ⟨t, va_Zref (hts _ (z_l3 (List.mem_of_getElem? (i := 48) rfl))) (hta _ wd2) h1 hA, h2⟩
theorem z_nest {args : Array Value} {s : State} (hts : ∀ w ∈ lw_tbl, w.before args s = true) : zNn s := List.forall_mem_cons.mpr ⟨va_Nw.of rfl (hts _ (z_l1 (List.mem_of_getElem? (i := 33) rfl))), List.forall_mem_cons.mpr ⟨va_Nw.of rfl (hts _ (z_l1 (List.mem_of_getElem? (i := 39) rfl))), List.forall_mem_cons.mpr ⟨va_Nw.of rfl (hts _ (z_l1 (List.mem_of_getElem? (i := 65) rfl))), List.forall_mem_cons.mpr ⟨va_Nw.of rfl (hts _ (z_l1 (List.mem_of_getElem? (i := 108) rfl))), List.forall_mem_cons.mpr ⟨va_Nw.of rfl (hts _ (z_l1 (List.mem_of_getElem? (i := 166) rfl))), fun _ h => absurd h List.not_mem_nil⟩⟩⟩⟩⟩
def zM0 : zM := fun k j => if k = 51 ∧ j = 1 then 1 else 0
def zN0 : zN := fun k => if k = 118 then upd (upd (upd (upd (upd (upd (upd (upd (upd (upd (fun _ => 0) (0 : Int32).toNatClampNeg 1000000007) (1 : Int32).toNatClampNeg 1000000009) (2 : Int32).toNatClampNeg 1000000021) (3 : Int32).toNatClampNeg 1000000033) (4 : Int32).toNatClampNeg 1000000087) (5 : Int32).toNatClampNeg 1000000093) (6 : Int32).toNatClampNeg 1000000097) (7 : Int32).toNatClampNeg 1000000103) (8 : Int32).toNatClampNeg 1000000123) (9 : Int32).toNatClampNeg 1000000181 else fun _ => 0
set_option maxHeartbeats 4000000 in
set_option maxRecDepth 100000 in
theorem z_cells0 {G : zG} {b : Nat} : (es_IS G (b + 0) ++ es_Mo G (b + 99) ++ [.inl (G.2.1, 1, .inr (.inl (fun _ => 0)))] : List va_E) = (List.range 120).map (fun k => zcell G b (zM0 k) (zN0 k) k) := by rfl
theorem z_world {G : zG} {b : Nat} : zcs b (es_IS G (b + 0) ++ es_Mo G (b + 99) ++ [.inl (G.2.1, 1, .inr (.inl (fun _ => 0)))]) = zws G b zM0 zN0 := by
  rw [z_cells0]
  apply List.ext_getElem?
  intro k
  rw [zcs_get]
  by_cases hk : k < 120
  · rw [z_at hk, List.getElem?_map, List.getElem?_range hk]; rfl
  · rw [z_ge hk, List.getElem?_eq_none (by simp; omega)]; rfl
set_option maxHeartbeats 4000000 in
set_option maxRecDepth 100000 in
theorem z_start {p : Program} {e : Env} {s : State} {m : MethodId} {below : List Frame} {meth : Method} {c : Code} (l : Launch) (hst : l.stackTraces = false) {sb Ln : Nat} {xs : Nat → Int32} (hLn : Ln ≤ 2560) (C0 : lw_At p s m meth c sb Ln xs) (hm : ∃ n, L_La_law_23 xs Ln n 0 zM0 zN0) : W p l e room_1 s m #[Value.ref sb] below meth c s.heap [] 0 0 (lw_Z below #[Value.ref sb] s) (entryFrame m ([Value.ref sb] : List Value).toArray 8) := by
  have C1 := C0
  obtain ⟨hx, hb, hr, hml, hown, hts, hX, hXl, hlocks, hgv⟩ := C0
  have hta : ∀ w ∈ zall, w.before #[Value.ref sb] s = true := fun w h => hts w (List.mem_filter.mp h).1
  have hown : s.vm.findClass R_La = some m.cls := hown
  have hO : va_AOA .long s := va_AOA.of (hts _ (z_l1 (List.mem_of_getElem? (i := 30) rfl)))
  obtain ⟨G, hK⟩ := z_tables hta (va_AOA.use hO)
  have hN := z_nest hts
  obtain ⟨b, hbz⟩ : ∃ b, s.heap.size = b := ⟨_, rfl⟩
  have hT := z_statics hbz hts hta hgv
  have hC : zC G b [] s.heap := ⟨fun k q h => by simp [zcs] at h, by rw [hbz]; rfl⟩
  have hS : va_S (zA b) s.heap s.heap [] := va_S.rf
  have hl := lv_entry ([Value.ref sb]) (n := 8) (Nat.le_of_ble_eq_true rfl)
  rw [lg_entry_eq]
  generalize (lg_sl ([Value.ref sb]) ++ List.replicate (8 - (lg_sl ([Value.ref sb])).length) Slot.unset).toArray = ls at hl ⊢
  have hl : lv_has ls 8 [(0, .ref sb)] := hl
  refine zC_newo (pc := 0) (ci := 5) (fs := [.null, .null, .null, .null, .null, .null, .null]) (C := R_IS) (T := T_IS) (N := 7) (k := 0) hx hb hta hin_IS ty_IS tyok_IS hown (hta _ wd21) (hta _ wd22) (hta _ wd1) hK hC hS rfl rfl (by decide) (Nat.le_of_ble_eq_true rfl) (Nat.le_of_ble_eq_true rfl) d_La_law_0 (fun H hC hS => ?_)
  refine lv_dup (pc := 3) hx hb d_La_law_3 rfl ?_
  refine z_ctor (pc := 4) (pre := []) (es' := es_IS G (b + 0)) (o' := b + 0) hC rfl (va_runI (As := []) (rest := [.ref (b + 0)]) ⟨hx, hb, hml, hown, hts⟩ (c_IS_init l G (b + 0)) (cwI 0 hts (z_goodL (zgI wd25)) rfl rfl rfl (hta _ wd1) (hta _ wd23) (hta _ wd24) rfl hd_IS_init ⟨Nat.le_of_ble_eq_true rfl, Nat.le_of_ble_eq_true rfl⟩) (zC_preI hC rfl hK hN hO) rfl rfl hl.1 rfl (lv_room (Nat.le_of_ble_eq_true rfl)) d_La_law_4 ⟨Nat.le_of_ble_eq_true rfl, Nat.le_of_ble_eq_true rfl⟩) hS (fun H locs hC hS => ?_)
  rw [List.nil_append] at hC
  refine lv_astore_n (pc := 7) (lv' := [(1, .ref (b + 0)), (0, .ref sb)]) hx hb d_La_law_7 rfl hl (by decide) rfl (fun ls hl => ?_)
  refine zC_newo (pc := 8) (ci := 6) (fs := [.int 0, .null, .int 0, .int 0, .null, .null, .int 0, .null, .null, .null, .null, .null, .null, .null, .null, .null, .null, .null, .null, .null, .null, .null, .null]) (C := R_Mo) (T := T_Mo) (N := 23) (k := 99) hx hb hta hin_Mo ty_Mo tyok_Mo hown (hta _ wd711) (hta _ wd712) (hta _ wd7) hK hC hS len_IS rfl (by decide) (Nat.le_of_ble_eq_true rfl) (Nat.le_of_ble_eq_true rfl) d_La_law_8 (fun H hC hS => ?_)
  refine lv_dup (pc := 11) hx hb d_La_law_11 rfl ?_
  refine z_ctor (pc := 12) (pre := es_IS G (b + 0)) (es' := es_Mo G (b + 99)) (o' := b + 99) hC (by rw [len_IS]) (va_runI (As := []) (rest := [.ref (b + 99)]) ⟨hx, hb, hml, hown, hts⟩ (c_Mo_init l G (b + 99)) (cwI 0 hts (z_goodL (zgI wd715)) rfl rfl rfl (hta _ wd7) (hta _ wd713) (hta _ wd714) rfl hd_Mo_init ⟨Nat.le_of_ble_eq_true rfl, Nat.le_of_ble_eq_true rfl⟩) (zC_preI hC (by rw [len_IS]) hK hN hO) rfl rfl hl.1 rfl (lv_room (Nat.le_of_ble_eq_true rfl)) d_La_law_12 ⟨Nat.le_of_ble_eq_true rfl, Nat.le_of_ble_eq_true rfl⟩) hS (fun H locs hC hS => ?_)
  refine lv_astore_n (pc := 15) (lv' := [(2, .ref (b + 99)), (1, .ref (b + 0)), (0, .ref sb)]) hx hb d_La_law_15 rfl hl (by decide) rfl (fun ls hl => ?_)
  refine lv_iconst (pc := 16) (v := 1) hx hb d_La_law_16 (by decide) ?_
  refine zC_newl (pc := 17) (K := 1) (k := 119) hx hb (hta _ wd62) hK hC hS (by rw [List.length_append, len_IS, len_Mo]) (by decide +kernel) (by decide +kernel) (by decide +kernel) (Nat.le_of_ble_eq_true rfl) (Nat.le_of_ble_eq_true rfl) d_La_law_17 (fun H hC hS => ?_)
  have hZ := hC.1
  rw [z_world] at hZ
  refine lv_astore_n (pc := 19) (lv' := [(3, .ref (b + 119)), (2, .ref (b + 99)), (1, .ref (b + 0)), (0, .ref sb)]) hx hb d_La_law_19 rfl hl (by decide) rfl (fun ls hl => ?_)
  refine lv_iconst (pc := 20) (v := 0) hx hb d_La_law_20 (by decide) ?_
  refine lv_istore (pc := 21) (lv' := [(4, .int 0), (3, .ref (b + 119)), (2, .ref (b + 99)), (1, .ref (b + 0)), (0, .ref sb)]) hx hb d_La_law_21 hl (by decide) rfl (fun ls hl => ?_)
  obtain ⟨n, hm⟩ := hm
  refine W.widen (k := 120 + 8 * 0) (n := zS0 + 48 * 0) (by decide) (by decide) ?_
  exact c_La_loop l hst G hbz hLn C1 hK hT n 0 zM0 zN0 0 _ _ _ rfl (Nat.zero_le _) hZ hS (lv_sub hl [4, 3, 2, 1, 0] rfl) hm
