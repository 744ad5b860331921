theorem z_l1 {w : Cond} (h : w ∈ tables_1_1) : w ∈ lw_tbl := List.mem_append_right _ (List.mem_append_left _ h)
theorem z_l2 {w : Cond} (h : w ∈ tables_1_2) : w ∈ lw_tbl := List.mem_append_right _ (List.mem_append_right _ (List.mem_append_left _ h))
theorem z_l3 {w : Cond} (h : w ∈ tables_1_3) : w ∈ lw_tbl := List.mem_append_right _ (List.mem_append_right _ (List.mem_append_right _ (List.mem_append_left _ h)))
theorem z_l4 {w : Cond} (h : w ∈ tables_1_4) : w ∈ lw_tbl := List.mem_append_right _ (List.mem_append_right _ (List.mem_append_right _ (List.mem_append_right _ (List.mem_append_left _ h))))
theorem z_l5 {w : Cond} (h : w ∈ tables_1_5) : w ∈ lw_tbl := List.mem_append_right _ (List.mem_append_right _ (List.mem_append_right _ (List.mem_append_right _ (List.mem_append_right _ (h)))))
theorem z_tables {args : Array Value} {s : State} (hta : ∀ w ∈ zall, w.before args s = true) (hO : (Cond.arrayOver (.array .long)).before args s = true) : ∃ G : zG, va_K G.1 zCl (zty G) s := by
  obtain ⟨c0, i0, k0⟩ := u_known hta hin_CD (hta _ wd38)
  obtain ⟨c1, i1, k1⟩ := u_known hta hin_Fa (hta _ wd165)
  obtain ⟨c2, i2, k2⟩ := u_known hta hin_Li (hta _ wd107)
  obtain ⟨c3, i3, k3⟩ := u_known hta hin_MP (hta _ wd64)
  obtain ⟨c4, i4, k4⟩ := u_known hta hin_Sp (hta _ wd32)
  obtain ⟨c5, i5, k5⟩ := u_known hta hin_IS (hta _ wd22)
  obtain ⟨c6, i6, k6⟩ := u_known hta hin_Mo (hta _ wd712)
  obtain ⟨cJ, kJ, pJ, j1, j2, j3⟩ := Cond.arrayClass_spec (hta _ wd62)
  obtain ⟨cI, kI, pI, l1, l2, l3⟩ := Cond.arrayClass_spec (hta _ wd105)
  obtain ⟨comp, cA, kA, a1, a2, a3, a4, a5⟩ := arrayOverA_spec hO
  refine ⟨((fun k => ([c0, c1, c2, c3, c4, c5, c6] : List ClassId).getD k 0, fun k => ([i0, i1, i2, i3, i4, i5, i6] : List (Nat → Nat)).getD k (fun _ => 0)), cJ, cI, cA), ?_, ?_⟩
  · intro c q hq
    match c, hq with
    | 0, hq => cases hq; exact k0
    | 1, hq => cases hq; exact k1
    | 2, hq => cases hq; exact k2
    | 3, hq => cases hq; exact k3
    | 4, hq => cases hq; exact k4
    | 5, hq => cases hq; exact k5
    | 6, hq => cases hq; exact k6
    | k + 7, hq => simp at hq
  · intro k q hq
    match k, hq with
    | 0, hq => cases hq; exact ⟨fun n z => ⟨fun k h => (by cases h), kJ, j2, pJ, j3⟩, j1⟩
    | 1, hq => cases hq; exact ⟨fun n z => ⟨fun k h => (by cases h), kI, l2, pI, l3⟩, l1⟩
    | 2, hq => cases hq; exact ⟨fun n z => ⟨fun k h => (by cases h), kA, a3, comp, a4⟩, a5⟩
    | k + 3, hq => simp at hq
set_option maxRecDepth 100000 in
theorem z_statics {args : Array Value} {s : State} {b : Nat} (hb : s.heap.size = b) (hts : ∀ w ∈ lw_tbl, w.before args s = true) (hta : ∀ w ∈ zall, w.before args s = true) (hgv : (Jvm.Cond.and given_1 narrow_1).before args s = true) : zT b s s.heap := by
  have hf := flat_of_before _ hgv
  have hA : ∀ a : Nat, a < s.heap.size → ¬ zA b a := fun a h h2 => by have h3 : b ≤ a := h2; omega
  refine ⟨⟨?_, ?_, ?_⟩, ?_, ?_, ?_, ?_⟩
  · intro k h1 h2
    have hk : k = 1 ∨ k = 2 ∨ k = 3 ∨ k = 4 ∨ k = 5 := by omega
    rcases hk with rfl | rfl | rfl | rfl | rfl
    · exact va_Nw.of rfl (hts _ (z_l1 (List.mem_of_getElem? (i := 228) rfl)))
    · exact va_Nw.of rfl (hts _ (z_l2 (List.mem_of_getElem? (i := 58) rfl)))
    · exact va_Nw.of rfl (hts _ (z_l2 (List.mem_of_getElem? (i := 109) rfl)))
    · exact va_Nw.of rfl (hts _ (z_l2 (List.mem_of_getElem? (i := 176) rfl)))
    · exact va_Nw.of rfl (hts _ (z_l3 (List.mem_of_getElem? (i := 174) rfl)))
  · exact List.forall_mem_cons.mpr ⟨va_Nw.of rfl (hts _ (z_l1 (List.mem_of_getElem? (i := 229) rfl))), List.forall_mem_cons.mpr ⟨va_Nw.of rfl (hts _ (z_l1 (List.mem_of_getElem? (i := 230) rfl))), List.forall_mem_cons.mpr ⟨va_Nw.of rfl (hts _ (z_l1 (List.mem_of_getElem? (i := 231) rfl))), List.forall_mem_cons.mpr ⟨va_Nw.of rfl (hts _ (z_l1 (List.mem_of_getElem? (i := 232) rfl))), List.forall_mem_cons.mpr ⟨va_Nw.of rfl (hts _ (z_l1 (List.mem_of_getElem? (i := 233) rfl))), List.forall_mem_cons.mpr ⟨va_Nw.of rfl (hts _ (z_l1 (List.mem_of_getElem? (i := 234) rfl))), fun _ h => absurd h List.not_mem_nil⟩⟩⟩⟩⟩⟩
  · intro i j a b c d e
    have hi : i = 1 ∨ i = 2 ∨ i = 3 ∨ i = 4 ∨ i = 5 := by omega
    have hj : j = 1 ∨ j = 2 ∨ j = 3 ∨ j = 4 ∨ j = 5 := by omega
    rcases hi with rfl | rfl | rfl | rfl | rfl <;> rcases hj with rfl | rfl | rfl | rfl | rfl <;> first | exact absurd rfl e | exact va_Nc.of (hf _ (by decide +kernel))
  · exact vx_Zqof (hts _ (z_l2 (List.mem_of_getElem? (i := 13) rfl))) (hta _ wd8) (hf _ (by decide +kernel)) hA
  · exact vx_Zqof (hts _ (z_l2 (List.mem_of_getElem? (i := 15) rfl))) (hta _ wd8) (hf _ (by decide +kernel)) hA
  · obtain ⟨t, h1, h2⟩ := va_Tof (tm := .static "IntegerSplitter$CommonDivisor" "LARGE_PRIMES" "[J") (ty := .long) (N := 9) (f := fun j => .long (zlp j)) (A := zA b) (by decide) (hf _ (by decide +kernel)) (va_eqt (z := Int32.ofNat 9) (hf _ (by decide +kernel))) (fun j hj => va_eqtl (hf _ (va_run (f := fun j => Cond.eq (.elem (.static "IntegerSplitter$CommonDivisor" "LARGE_PRIMES" "[J") (.int (Int32.ofNat j))) (.long (zlp j))) (p := 9) (by decide +kernel) j hj))) hA
    exact ⟨t, va_Zref (hts _ (z_l2 (List.mem_of_getElem? (i := 221) rfl))) (hta _ wd3) h1 hA, h2⟩
  · obtain ⟨t, h1, h2⟩ := va_Tof (tm := .static "IntegerSplitter$Splitter" "SMALL_PRIMES" "[I") (ty := .int) (N := 46) (f := fun j => .int (zsp j)) (A := zA b) (by decide) (hf _ (by decide +kernel)) (va_eqt (z := Int32.ofNat 46) (hf _ (by decide +kernel))) (fun j hj => va_eqt (hf _ (va_run (f := fun j => Cond.eq (.elem (.static "IntegerSplitter$Splitter" "SMALL_PRIMES" "[I") (.int (Int32.ofNat j))) (.int (zsp j))) (p := 21) (by decide +kernel) j hj))) hA
    exact ⟨t, va_Zref (hts _ (z_l3 (List.mem_of_getElem? (i := 48) rfl))) (hta _ wd2) h1 hA, h2⟩
theorem z_nest {args : Array Value} {s : State} (hts : ∀ w ∈ lw_tbl, w.before args s = true) : zNn s := List.forall_mem_cons.mpr ⟨va_Nw.of rfl (hts _ (z_l1 (List.mem_of_getElem? (i := 33) rfl))), List.forall_mem_cons.mpr ⟨va_Nw.of rfl (hts _ (z_l1 (List.mem_of_getElem? (i := 39) rfl))), List.forall_mem_cons.mpr ⟨va_Nw.of rfl (hts _ (z_l1 (List.mem_of_getElem? (i := 65) rfl))), List.forall_mem_cons.mpr ⟨va_Nw.of rfl (hts _ (z_l1 (List.mem_of_getElem? (i := 108) rfl))), List.forall_mem_cons.mpr ⟨va_Nw.of rfl (hts _ (z_l1 (List.mem_of_getElem? (i := 166) rfl))), fun _ h => absurd h List.not_mem_nil⟩⟩⟩⟩⟩
def zM0 : zM := fun k => if k = 51 then (fun j => if j = 1 then 1 else 0) else fun _ => 0
def zN0 : zN := fun k => if k = 118 then upd (upd (upd (upd (upd (upd (upd (upd (upd (upd (fun _ => 0) (0 : Int32).toNatClampNeg 1000000007) (1 : Int32).toNatClampNeg 1000000009) (2 : Int32).toNatClampNeg 1000000021) (3 : Int32).toNatClampNeg 1000000033) (4 : Int32).toNatClampNeg 1000000087) (5 : Int32).toNatClampNeg 1000000093) (6 : Int32).toNatClampNeg 1000000097) (7 : Int32).toNatClampNeg 1000000103) (8 : Int32).toNatClampNeg 1000000123) (9 : Int32).toNatClampNeg 1000000181 else fun _ => 0
def zsg (G : zG) (b k n : Nat) : List va_E := (List.range' k n).map (fun k => zcell G b (zM0 k) (zN0 k) k)
theorem zM0_ne {k : Nat} (h : k ≠ 51) : zM0 k = fun _ => 0 := if_neg h
theorem zs_nil {G : zG} {b k : Nat} : [] = zsg G b k 0 := rfl
theorem zs_app {G : zG} {b k n k2 m r : Nat} {A B : List va_E} (h1 : A = zsg G b k n) (h2 : B = zsg G b k2 m) (e : k + n = k2) (e2 : n + m = r) : A ++ B = zsg G b k r := by
  subst e e2
  rw [h1, h2]
  unfold zsg
  rw [← List.map_append, List.range'_append_1]
theorem zs_cons {G : zG} {b k n : Nat} {a : va_E} {A : List va_E} (h : a = zcell G b (zM0 k) (zN0 k) k) (h1 : A = zsg G b (k + 1) n) : a :: A = zsg G b k (n + 1) := by
  rw [h, h1]; rfl
theorem zs_L {G : zG} {b k K : Nat} (h : zlong k = K) (hp : 0 < K) (h3 : k ≠ 51) : [.inl (G.2.1, K, .inr (.inl (fun _ => 0)))] = zsg G b k 1 := by
  show _ = [zcell G b (zM0 k) (zN0 k) k]
  rw [zc_L (by omega), h, zM0_ne h3]
theorem zs_R {G : zG} {b : Nat} (n k : Nat) (h : ∀ j, j < n → zlong (k + j) = 8 ∧ k + j ≠ 51) : List.replicate n (.inl (G.2.1, 8, .inr (.inl (fun _ => 0)))) = zsg G b k n := by
  induction n generalizing k with
  | zero => rfl
  | succ n ih =>
    rw [List.replicate_succ]
    have h0 : zlong k = 8 ∧ k ≠ 51 := h 0 (by omega)
    refine zs_cons ?_ (ih (k + 1) (fun j hj => ?_))
    · rw [zc_L (by omega), zM0_ne h0.2, h0.1]
    · have := h (j + 1) (by omega)
      rw [show k + 1 + j = k + (j + 1) by omega]
      exact this
theorem zs_I {G : zG} {b k K : Nat} {f : Nat → Int32} (h0 : zlong k = 0) (h : zint k = K) (hp : 0 < K) (h3 : zN0 k = f) : [.inl (G.2.2.1, K, .inl f)] = zsg G b k 1 := by
  show _ = [zcell G b (zM0 k) (zN0 k) k]
  unfold zcell
  rw [if_neg (by omega), if_pos (by omega), h, h3]
theorem zs_G {G : zG} {b k K : Nat} {x : Nat → Nat} (h0 : zlong k = 0) (h1 : zint k = 0) (h : zgn k = K) (hp : 0 < K) (h3 : ∀ i, x i = b + (k + 1 + i)) : [.inl (G.2.2.2, K, .inr (.inr (.inr (.inr (fun i => some (x i))))))] = zsg G b k 1 := by
  show _ = [zcell G b (zM0 k) (zN0 k) k]
  unfold zcell
  rw [if_neg (by omega), if_neg (by omega), if_pos (by omega), h, show x = fun i => b + (k + 1 + i) from funext h3]
theorem sg_CD_10 {G : zG} {b : Nat} : es_CD G (b + 10) = zsg G b 10 7 := zs_cons (n := 6) rfl (zs_app (k := 11) (n := 5) (k2 := 16) (m := 1) (r := 6) (zs_app (k := 11) (n := 4) (k2 := 15) (m := 1) (r := 5) (zs_app (k := 11) (n := 3) (k2 := 14) (m := 1) (r := 4) (zs_app (k := 11) (n := 2) (k2 := 13) (m := 1) (r := 3) (zs_app (k := 11) (n := 1) (k2 := 12) (m := 1) (r := 2) (zs_L (k := 11) (K := 8) (by decide) (by decide) (by decide)) (zs_L (k := 12) (K := 8) (by decide) (by decide) (by decide)) rfl rfl) (zs_L (k := 13) (K := 8) (by decide) (by decide) (by decide)) rfl rfl) (zs_L (k := 14) (K := 8) (by decide) (by decide) (by decide)) rfl rfl) (zs_L (k := 15) (K := 8) (by decide) (by decide) (by decide)) rfl rfl) (zs_L (k := 16) (K := 8) (by decide) (by decide) (by decide)) rfl rfl)
theorem sg_MP_17 {G : zG} {b : Nat} : es_MP G (b + 17) = zsg G b 17 34 := zs_cons (n := 33) rfl (zs_app (k := 18) (n := 32) (k2 := 50) (m := 1) (r := 33) (zs_app (k := 18) (n := 31) (k2 := 49) (m := 1) (r := 32) (zs_app (k := 18) (n := 30) (k2 := 48) (m := 1) (r := 31) (zs_app (k := 18) (n := 29) (k2 := 47) (m := 1) (r := 30) (zs_app (k := 18) (n := 28) (k2 := 46) (m := 1) (r := 29) (zs_app (k := 18) (n := 27) (k2 := 45) (m := 1) (r := 28) (zs_app (k := 18) (n := 19) (k2 := 37) (m := 8) (r := 27) (zs_app (k := 18) (n := 18) (k2 := 36) (m := 1) (r := 19) (zs_app (k := 18) (n := 10) (k2 := 28) (m := 8) (r := 18) (zs_app (k := 18) (n := 9) (k2 := 27) (m := 1) (r := 10) (zs_app (k := 18) (n := 1) (k2 := 19) (m := 8) (r := 9) (zs_G (k := 18) (K := 8) (by decide) (by decide) (by decide) (by decide) (fun i => by omega)) (zs_R 8 19 (by decide)) rfl rfl) (zs_G (k := 27) (K := 8) (by decide) (by decide) (by decide) (by decide) (fun i => by omega)) rfl rfl) (zs_R 8 28 (by decide)) rfl rfl) (zs_G (k := 36) (K := 8) (by decide) (by decide) (by decide) (by decide) (fun i => by omega)) rfl rfl) (zs_R 8 37 (by decide)) rfl rfl) (zs_I (k := 45) (K := 8) (by decide) (by decide) (by decide) rfl) rfl rfl) (zs_L (k := 46) (K := 8) (by decide) (by decide) (by decide)) rfl rfl) (zs_L (k := 47) (K := 8) (by decide) (by decide) (by decide)) rfl rfl) (zs_L (k := 48) (K := 8) (by decide) (by decide) (by decide)) rfl rfl) (zs_L (k := 49) (K := 8) (by decide) (by decide) (by decide)) rfl rfl) (zs_L (k := 50) (K := 8) (by decide) (by decide) (by decide)) rfl rfl)
theorem sg_Li_51 {G : zG} {b : Nat} : es_Li G (b + 51) = zsg G b 51 22 := zs_cons (n := 21) rfl (zs_app (k := 52) (n := 20) (k2 := 72) (m := 1) (r := 21) (zs_app (k := 52) (n := 19) (k2 := 71) (m := 1) (r := 20) (zs_app (k := 52) (n := 18) (k2 := 70) (m := 1) (r := 19) (zs_app (k := 52) (n := 10) (k2 := 62) (m := 8) (r := 18) (zs_app (k := 52) (n := 9) (k2 := 61) (m := 1) (r := 10) (zs_app (k := 52) (n := 1) (k2 := 53) (m := 8) (r := 9) (zs_G (k := 52) (K := 8) (by decide) (by decide) (by decide) (by decide) (fun i => by omega)) (zs_R 8 53 (by decide)) rfl rfl) (zs_G (k := 61) (K := 8) (by decide) (by decide) (by decide) (by decide) (fun i => by omega)) rfl rfl) (zs_R 8 62 (by decide)) rfl rfl) (zs_L (k := 70) (K := 8) (by decide) (by decide) (by decide)) rfl rfl) (zs_L (k := 71) (K := 8) (by decide) (by decide) (by decide)) rfl rfl) (zs_L (k := 72) (K := 8) (by decide) (by decide) (by decide)) rfl rfl)
theorem sg_Sp_9 {G : zG} {b : Nat} : es_Sp G (b + 9) = zsg G b 9 70 := zs_cons (n := 69) rfl (zs_app (k := 10) (n := 68) (k2 := 78) (m := 1) (r := 69) (zs_app (k := 10) (n := 67) (k2 := 77) (m := 1) (r := 68) (zs_app (k := 10) (n := 66) (k2 := 76) (m := 1) (r := 67) (zs_app (k := 10) (n := 65) (k2 := 75) (m := 1) (r := 66) (zs_app (k := 10) (n := 64) (k2 := 74) (m := 1) (r := 65) (zs_app (k := 10) (n := 63) (k2 := 73) (m := 1) (r := 64) (zs_app (k := 10) (n := 41) (k2 := 51) (m := 22) (r := 63) (zs_app (k := 10) (n := 7) (k2 := 17) (m := 34) (r := 41) sg_CD_10 sg_MP_17 rfl rfl) sg_Li_51 rfl rfl) (zs_L (k := 73) (K := 8) (by decide) (by decide) (by decide)) rfl rfl) (zs_L (k := 74) (K := 8) (by decide) (by decide) (by decide)) rfl rfl) (zs_L (k := 75) (K := 8) (by decide) (by decide) (by decide)) rfl rfl) (zs_L (k := 76) (K := 8) (by decide) (by decide) (by decide)) rfl rfl) (zs_L (k := 77) (K := 8) (by decide) (by decide) (by decide)) rfl rfl) (zs_L (k := 78) (K := 8) (by decide) (by decide) (by decide)) rfl rfl)
theorem sg_Fa_79 {G : zG} {b : Nat} : es_Fa G (b + 79) = zsg G b 79 10 := zs_cons (n := 9) rfl (zs_app (k := 80) (n := 8) (k2 := 88) (m := 1) (r := 9) (zs_app (k := 80) (n := 1) (k2 := 81) (m := 7) (r := 8) (zs_G (k := 80) (K := 7) (by decide) (by decide) (by decide) (by decide) (fun i => by omega)) (zs_R 7 81 (by decide)) rfl rfl) (zs_I (k := 88) (K := 7) (by decide) (by decide) (by decide) rfl) rfl rfl)
theorem sg_Fa_89 {G : zG} {b : Nat} : es_Fa G (b + 89) = zsg G b 89 10 := zs_cons (n := 9) rfl (zs_app (k := 90) (n := 8) (k2 := 98) (m := 1) (r := 9) (zs_app (k := 90) (n := 1) (k2 := 91) (m := 7) (r := 8) (zs_G (k := 90) (K := 7) (by decide) (by decide) (by decide) (by decide) (fun i => by omega)) (zs_R 7 91 (by decide)) rfl rfl) (zs_I (k := 98) (K := 7) (by decide) (by decide) (by decide) rfl) rfl rfl)
theorem sg_IS_0 {G : zG} {b : Nat} : es_IS G (b + 0) = zsg G b 0 99 := zs_cons (n := 98) rfl (zs_app (k := 1) (n := 88) (k2 := 89) (m := 10) (r := 98) (zs_app (k := 1) (n := 78) (k2 := 79) (m := 10) (r := 88) (zs_app (k := 1) (n := 8) (k2 := 9) (m := 70) (r := 78) (zs_app (k := 1) (n := 7) (k2 := 8) (m := 1) (r := 8) (zs_app (k := 1) (n := 6) (k2 := 7) (m := 1) (r := 7) (zs_app (k := 1) (n := 5) (k2 := 6) (m := 1) (r := 6) (zs_app (k := 1) (n := 1) (k2 := 2) (m := 4) (r := 5) (zs_G (k := 1) (K := 4) (by decide) (by decide) (by decide) (by decide) (fun i => by omega)) (zs_R 4 2 (by decide)) rfl rfl) (zs_L (k := 6) (K := 16) (by decide) (by decide) (by decide)) rfl rfl) (zs_L (k := 7) (K := 8) (by decide) (by decide) (by decide)) rfl rfl) (zs_L (k := 8) (K := 8) (by decide) (by decide) (by decide)) rfl rfl) sg_Sp_9 rfl rfl) sg_Fa_79 rfl rfl) sg_Fa_89 rfl rfl)
theorem sg_Mo_99 {G : zG} {b : Nat} : es_Mo G (b + 99) = zsg G b 99 20 := zs_cons (n := 19) rfl (zs_app (k := 100) (n := 18) (k2 := 118) (m := 1) (r := 19) (zs_app (k := 100) (n := 17) (k2 := 117) (m := 1) (r := 18) (zs_app (k := 100) (n := 16) (k2 := 116) (m := 1) (r := 17) (zs_app (k := 100) (n := 15) (k2 := 115) (m := 1) (r := 16) (zs_app (k := 100) (n := 14) (k2 := 114) (m := 1) (r := 15) (zs_app (k := 100) (n := 13) (k2 := 113) (m := 1) (r := 14) (zs_app (k := 100) (n := 12) (k2 := 112) (m := 1) (r := 13) (zs_app (k := 100) (n := 11) (k2 := 111) (m := 1) (r := 12) (zs_app (k := 100) (n := 10) (k2 := 110) (m := 1) (r := 11) (zs_app (k := 100) (n := 9) (k2 := 109) (m := 1) (r := 10) (zs_app (k := 100) (n := 8) (k2 := 108) (m := 1) (r := 9) (zs_app (k := 100) (n := 7) (k2 := 107) (m := 1) (r := 8) (zs_app (k := 100) (n := 6) (k2 := 106) (m := 1) (r := 7) (zs_app (k := 100) (n := 5) (k2 := 105) (m := 1) (r := 6) (zs_app (k := 100) (n := 4) (k2 := 104) (m := 1) (r := 5) (zs_app (k := 100) (n := 3) (k2 := 103) (m := 1) (r := 4) (zs_app (k := 100) (n := 2) (k2 := 102) (m := 1) (r := 3) (zs_app (k := 100) (n := 1) (k2 := 101) (m := 1) (r := 2) (zs_app (k := 100) (n := 0) (k2 := 100) (m := 1) (r := 1) (zs_nil (k := 100)) (zs_I (k := 100) (K := 32) (by decide) (by decide) (by decide) rfl) rfl rfl) (zs_I (k := 101) (K := 7) (by decide) (by decide) (by decide) rfl) rfl rfl) (zs_L (k := 102) (K := 56) (by decide) (by decide) (by decide)) rfl rfl) (zs_L (k := 103) (K := 56) (by decide) (by decide) (by decide)) rfl rfl) (zs_L (k := 104) (K := 16) (by decide) (by decide) (by decide)) rfl rfl) (zs_L (k := 105) (K := 16) (by decide) (by decide) (by decide)) rfl rfl) (zs_L (k := 106) (K := 16) (by decide) (by decide) (by decide)) rfl rfl) (zs_L (k := 107) (K := 16) (by decide) (by decide) (by decide)) rfl rfl) (zs_L (k := 108) (K := 16) (by decide) (by decide) (by decide)) rfl rfl) (zs_L (k := 109) (K := 16) (by decide) (by decide) (by decide)) rfl rfl) (zs_L (k := 110) (K := 16) (by decide) (by decide) (by decide)) rfl rfl) (zs_L (k := 111) (K := 16) (by decide) (by decide) (by decide)) rfl rfl) (zs_L (k := 112) (K := 16) (by decide) (by decide) (by decide)) rfl rfl) (zs_L (k := 113) (K := 16) (by decide) (by decide) (by decide)) rfl rfl) (zs_L (k := 114) (K := 16) (by decide) (by decide) (by decide)) rfl rfl) (zs_L (k := 115) (K := 16) (by decide) (by decide) (by decide)) rfl rfl) (zs_L (k := 116) (K := 16) (by decide) (by decide) (by decide)) rfl rfl) (zs_L (k := 117) (K := 16) (by decide) (by decide) (by decide)) rfl rfl) (zs_I (k := 118) (K := 10) (by decide) (by decide) (by decide) rfl) rfl rfl)
theorem z_cells0 {G : zG} {b : Nat} : (es_IS G (b + 0) ++ es_Mo G (b + 99) ++ [.inl (G.2.1, 1, .inr (.inl (fun _ => 0)))] : List va_E) = (List.range 120).map (fun k => zcell G b (zM0 k) (zN0 k) k) := by
  rw [zs_app (k := 0) (n := 119) (k2 := 119) (m := 1) (r := 120) (zs_app (k := 0) (n := 99) (k2 := 99) (m := 20) (r := 119) sg_IS_0 sg_Mo_99 rfl rfl) (zs_L (k := 119) (K := 1) (by decide) (by decide) (by decide)) rfl rfl]
  unfold zsg
  rw [List.range_eq_range']
theorem z_world {G : zG} {b : Nat} : zcs b (es_IS G (b + 0) ++ es_Mo G (b + 99) ++ [.inl (G.2.1, 1, .inr (.inl (fun _ => 0)))]) = zws G b zM0 zN0 := by
  rw [z_cells0]
  apply List.ext_getElem?
  intro k
  rw [zcs_get]
  by_cases hk : k < 120
  · rw [z_at hk, List.getElem?_map, List.getElem?_range hk]; rfl
  · rw [z_ge hk, List.getElem?_eq_none (by simp; omega)]; rfl
set_option maxHeartbeats 4000000 in
set_option maxRecDepth 100000 in
theorem z_start {p : Program} {e : Env} {s : State} {m : MethodId} {below : List Frame} {meth : Method} {c : Code} (l : Launch) (hst : l.stackTraces = false) {sb Ln : Nat} {xs : Nat → Int32} (hLn : Ln ≤ 2560) (C0 : lw_At p s m meth c sb Ln xs) (hm : ∃ n, L_La_law_23 xs Ln n 0 zM0 zN0) : W p l e room_1 s m #[Value.ref sb] below meth c s.heap [] 0 0 (lw_Z below #[Value.ref sb] s) (entryFrame m ([Value.ref sb] : List Value).toArray 8) := by
  have C1 := C0
  obtain ⟨hx, hb, hr, hml, hown, hts, hX, hXl, hlocks, hgv⟩ := C0
  have hta : ∀ w ∈ zall, w.before #[Value.ref sb] s = true := fun w h => hts w (List.mem_filter.mp h).1
  have hown : s.vm.findClass R_La = some m.cls := hown
  have hO : va_AOA .long s := va_AOA.of (hts _ (z_l1 (List.mem_of_getElem? (i := 30) rfl)))
  obtain ⟨G, hK⟩ := z_tables hta (va_AOA.use hO)
  have hN := z_nest hts
  obtain ⟨b, hbz⟩ : ∃ b, s.heap.size = b := ⟨_, rfl⟩
  have hT := z_statics hbz hts hta hgv
  have hC : zC G b [] s.heap := ⟨fun k q h => by simp [zcs] at h, by rw [hbz]; rfl⟩
  have hS : va_S (zA b) s.heap s.heap [] := va_S.rf
  have hl := lv_entry ([Value.ref sb]) (n := 8) (Nat.le_of_ble_eq_true rfl)
  rw [lg_entry_eq]
  generalize (lg_sl ([Value.ref sb]) ++ List.replicate (8 - (lg_sl ([Value.ref sb])).length) Slot.unset).toArray = ls at hl ⊢
  have hl : lv_has ls 8 [(0, .ref sb)] := hl
  refine zC_newo (pc := 0) (ci := 5) (fs := [.null, .null, .null, .null, .null, .null, .null]) (C := R_IS) (T := T_IS) (N := 7) (k := 0) hx hb hta hin_IS ty_IS tyok_IS hown (hta _ wd21) (hta _ wd22) (hta _ wd1) hK hC hS rfl rfl (by decide) (Nat.le_of_ble_eq_true rfl) (Nat.le_of_ble_eq_true rfl) d_La_law_0 (fun H hC hS => ?_)
  refine lv_dup (pc := 3) hx hb d_La_law_3 rfl ?_
  refine z_ctor (pc := 4) (pre := []) (es' := es_IS G (b + 0)) (o' := b + 0) hC rfl (va_runI (As := []) (rest := [.ref (b + 0)]) ⟨hx, hb, hml, hown, hts⟩ (c_IS_init l G (b + 0)) (cwI 0 hts (z_goodL (zgI wd25)) rfl rfl rfl (hta _ wd1) (hta _ wd23) (hta _ wd24) rfl hd_IS_init ⟨Nat.le_of_ble_eq_true rfl, Nat.le_of_ble_eq_true rfl⟩) (zC_preI hC rfl hK hN hO) rfl rfl hl.1 rfl (lv_room (Nat.le_of_ble_eq_true rfl)) d_La_law_4 ⟨Nat.le_of_ble_eq_true rfl, Nat.le_of_ble_eq_true rfl⟩) hS (fun H locs hC hS => ?_)
  rw [List.nil_append] at hC
  refine lv_astore_n (pc := 7) (lv' := [(1, .ref (b + 0)), (0, .ref sb)]) hx hb d_La_law_7 rfl hl (by decide) rfl (fun ls hl => ?_)
  refine zC_newo (pc := 8) (ci := 6) (fs := [.int 0, .null, .int 0, .int 0, .null, .null, .int 0, .null, .null, .null, .null, .null, .null, .null, .null, .null, .null, .null, .null, .null, .null, .null, .null]) (C := R_Mo) (T := T_Mo) (N := 23) (k := 99) hx hb hta hin_Mo ty_Mo tyok_Mo hown (hta _ wd711) (hta _ wd712) (hta _ wd7) hK hC hS len_IS rfl (by decide) (Nat.le_of_ble_eq_true rfl) (Nat.le_of_ble_eq_true rfl) d_La_law_8 (fun H hC hS => ?_)
  refine lv_dup (pc := 11) hx hb d_La_law_11 rfl ?_
  refine z_ctor (pc := 12) (pre := es_IS G (b + 0)) (es' := es_Mo G (b + 99)) (o' := b + 99) hC (by rw [len_IS]) (va_runI (As := []) (rest := [.ref (b + 99)]) ⟨hx, hb, hml, hown, hts⟩ (c_Mo_init l G (b + 99)) (cwI 0 hts (z_goodL (zgI wd715)) rfl rfl rfl (hta _ wd7) (hta _ wd713) (hta _ wd714) rfl hd_Mo_init ⟨Nat.le_of_ble_eq_true rfl, Nat.le_of_ble_eq_true rfl⟩) (zC_preI hC (by rw [len_IS]) hK hN hO) rfl rfl hl.1 rfl (lv_room (Nat.le_of_ble_eq_true rfl)) d_La_law_12 ⟨Nat.le_of_ble_eq_true rfl, Nat.le_of_ble_eq_true rfl⟩) hS (fun H locs hC hS => ?_)
  refine lv_astore_n (pc := 15) (lv' := [(2, .ref (b + 99)), (1, .ref (b + 0)), (0, .ref sb)]) hx hb d_La_law_15 rfl hl (by decide) rfl (fun ls hl => ?_)
  refine lv_iconst (pc := 16) (v := 1) hx hb d_La_law_16 (by decide) ?_
  refine zC_newl (pc := 17) (K := 1) (k := 119) hx hb (hta _ wd62) hK hC hS (by rw [List.length_append, len_IS, len_Mo]) (by decide +kernel) (by decide +kernel) (by decide +kernel) (Nat.le_of_ble_eq_true rfl) (Nat.le_of_ble_eq_true rfl) d_La_law_17 (fun H hC hS => ?_)
  have hZ := hC.1
  rw [z_world] at hZ
  refine lv_astore_n (pc := 19) (lv' := [(3, .ref (b + 119)), (2, .ref (b + 99)), (1, .ref (b + 0)), (0, .ref sb)]) hx hb d_La_law_19 rfl hl (by decide) rfl (fun ls hl => ?_)
  refine lv_iconst (pc := 20) (v := 0) hx hb d_La_law_20 (by decide) ?_
  refine lv_istore (pc := 21) (lv' := [(4, .int 0), (3, .ref (b + 119)), (2, .ref (b + 99)), (1, .ref (b + 0)), (0, .ref sb)]) hx hb d_La_law_21 hl (by decide) rfl (fun ls hl => ?_)
  obtain ⟨n, hm⟩ := hm
  refine W.widen (k := 120 + 8 * 0) (n := zS0 + 48 * 0) (by decide) (by decide) ?_
  exact c_La_loop l hst G hbz hLn C1 hK hT n 0 zM0 zN0 0 _ _ _ rfl (Nat.zero_le _) hZ hS (lv_sub hl [4, 3, 2, 1, 0] rfl) hm
