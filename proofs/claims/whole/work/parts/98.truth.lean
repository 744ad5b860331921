/-! The law. -/
def zst (M : zM) (N : zN) : Prop := zreg M N ∧ zfct M N ∧ zgr N
theorem zst_kp {M M' : zM} {N N' : zN} (h : zst M N) (r : zreg M' N') (k : zkp M N M' N') : zst M' N' := ⟨r, zfct_keep h.2.1 (fun a x y => k.1 a x (by omega)) (k.1 102 (by decide) (by decide)) (k.2.1 79 (by decide) (by decide)) (k.2.1 88 (by decide) (by decide)) (k.2.1 101 (by decide) (by decide)) (k.2.2 2 (by decide)) (k.2.2 3 (by decide)), zgr_keep h.2.2 (k.2.1 118 (by decide) (by decide))⟩
theorem zst_kq {M M' : zM} {N N' : zN} (h : zst M N) (r : zreg M' N') (k : zkq M N M' N') : zst M' N' := ⟨r, zfct_keep h.2.1 (fun a x y => k.1 a x (by omega)) (k.1 102 (by decide) (by decide)) (k.2.1 79 (by decide) (by decide) (by decide)) (k.2.1 88 (by decide) (by decide) (by decide)) (k.2.1 101 (by decide) (by decide) (by decide)) (k.2.2 2 (by decide)) (k.2.2 3 (by decide)), zgr_keep h.2.2 (k.2.1 118 (by decide) (by decide) (by decide))⟩
theorem zst_0 : zst zM0 zN0 := by
  have n0 : ∀ k, k ≠ 118 → zN0 k = fun _ => 0 := fun k h => if_neg h
  refine ⟨fun r i hr hi => ?_, ⟨0, by decide, ?_, ?_, ?_, fun k hk => absurd hk (Nat.not_lt_zero _)⟩, ?_⟩
  · rw [zM0_ne (by omega), n0 100 (by decide)]
    exact ⟨rfl, (by decide : (-99999 : Int) ≤ (0 : Int32).toInt), (by decide : (0 : Int32).toInt ≤ 99999)⟩
  · rw [n0 79 (by decide)]; rfl
  · rw [n0 99 (by decide)]; rfl
  · rw [zM0_ne (by decide), n0 99 (by decide)]; rfl
  · unfold zgr; decide +kernel
theorem z_step {xs : Nat → Int32} {L j : Nat} {k23 : Int32 → zM → zN → Prop} {M : zM} {N : zN} (hL : L ≤ 2560) (hj : 5 * j + 5 ≤ L) (h : zst M N) (nx : ∀ M' N', zst M' N' → k23 (nI (5 * j) + 5) M' N') : B_La_law_23 xs L k23 (nI (5 * j)) M N := by
  have i0 : vp_in (nI (5 * j)) L := vp_in_nI (by omega) (by omega)
  have i1 : vp_in (nI (5 * j) + 1) L := by rw [nI_1]; exact vp_in_nI (by omega) (by omega)
  have i2 : vp_in (nI (5 * j) + 2) L := by rw [show (2 : Int32) = nI 2 from rfl, nI_add]; exact vp_in_nI (by omega) (by omega)
  have i3 : vp_in (nI (5 * j) + 3) L := by rw [show (3 : Int32) = nI 3 from rfl, nI_add]; exact vp_in_nI (by omega) (by omega)
  have i4 : vp_in (nI (5 * j) + 4) L := by rw [show (4 : Int32) = nI 4 from rfl, nI_add]; exact vp_in_nI (by omega) (by omega)
  have kp : ∀ M' N', zreg M' N' → zkp M N M' N' → k23 (nI (5 * j) + 5) M' N' := fun M' N' r k => nx M' N' (zst_kp h r k)
  have kq : ∀ M' N', zreg M' N' → zkq M N M' N' → k23 (nI (5 * j) + 5) M' N' := fun M' N' r k => nx M' N' (zst_kq h r k)
  have kf : ∀ M' N', zreg M' N' → zfct M' N' → zgr N' → k23 (nI (5 * j) + 5) M' N' := fun M' N' a b c => nx M' N' ⟨a, b, c⟩
  have hI := h.1
  have hF := h.2.1
  have hG := h.2.2
  refine ⟨fun _ => trivial, fun _ => ⟨i0, ?_, ?_, ?_, ?_, ?_, ?_, ?_, ?_, ?_, ?_, ?_, ?_, ?_, ?_, ?_, ?_, ?_, ?_, ?_, ?_⟩⟩
  · exact fun _ => ⟨i1, i2, i3, u_put i1 i2 i3 hI kp⟩
  · exact fun _ => ⟨i1, i2, u_coefficient i1 i2 hI kp⟩
  · exact fun _ => ⟨i1, u_degree i1 hI kp⟩
  · exact fun _ => ⟨i1, i2, i3, i4, fun e => u_add hI kp (fun q M1 hh => ⟨i1, i2, i3, i4, fun _ => hh, fun c => absurd e c⟩), fun e => u_add hI kp (fun q M1 hh => ⟨i1, i2, i3, i4, fun c => absurd c e, fun _ => hh⟩)⟩
  · exact fun _ => ⟨i1, i2, i3, u_multiply hI kp (fun q M1 hh => ⟨i1, i2, i3, hh⟩)⟩
  · exact fun _ => ⟨i1, i2, u_derive hI kp (fun q M1 hh => ⟨i1, i2, hh⟩)⟩
  · exact fun _ => ⟨i1, i2, i3, u_shift hI kp (fun q M1 hh => ⟨i1, i2, i3, hh⟩)⟩
  · exact fun _ => ⟨i1, i2, i3, u_divide hI kp (fun q M1 hh => ⟨i1, i2, i3, hh⟩)⟩
  · exact fun _ => ⟨i1, i2, i3, u_common hI hG kp (fun q M1 hh => ⟨i1, i2, i3, hh⟩)⟩
  · exact fun _ => ⟨i1, i2, u_value hI kp (fun q M1 hh => ⟨i1, i2, hh⟩)⟩
  · exact fun _ => ⟨i1, u_content hI kp (fun q M1 hh => ⟨i1, hh⟩)⟩
  · exact fun _ => ⟨i1, u_factor hI hF hG kf (fun q M1 N1 hh => ⟨i1, hh⟩)⟩
  · exact fun _ => u_unit hI hF kp
  · exact fun _ => ⟨i1, u_multiplicity hI hF kp (fun q M1 hh => ⟨i1, hh⟩)⟩
  · exact fun _ => ⟨i1, i2, u_factorAt hI hF kp (fun q M1 hh => ⟨i1, i2, hh⟩)⟩
  · exact fun _ => ⟨i1, i2, u_take hI hF kp (fun q M1 hh => ⟨i1, i2, hh⟩)⟩
  · exact fun _ => ⟨i1, u_prime hI hF hG kf (fun q M1 N1 hh => ⟨i1, hh⟩)⟩
  · exact fun _ => ⟨i1, i2, u_modular hI kq (fun q M1 N1 hh => ⟨i1, i2, hh⟩)⟩
  · exact fun _ => ⟨i1, i2, u_roots hI kp (fun q M1 hh => ⟨i1, i2, hh⟩)⟩
  · exact fun _ => nx M N h
theorem z_truth {xs : Nat → Int32} {L : Nat} (hL : L ≤ 2560) : ∃ n, L_La_law_23 xs L n 0 zM0 zN0 := by
  have hlt : ∀ j, 5 * j ≤ L → L < 5 * j + 5 → (nI L - (5 : Int32)) < nI (5 * j) := fun j h1 h2 => by
    by_cases c : 5 ≤ L
    · rw [show (5 : Int32) = nI 5 from rfl, pk_sub c]
      exact nI_lt (by omega) (by omega)
    · have := pk_sneg (a := L) (b := 5) (by omega) (by omega)
      exact Int32.lt_of_lt_of_le this (nI_pos' (by omega))
  have key : ∀ u j (M : zM) (N : zN), j + u = L / 5 → zst M N → L_La_law_23 xs L (u + 1) (nI (5 * j)) M N := by
    intro u
    induction u with
    | zero =>
      intro j M N hj h
      exact ⟨fun _ => trivial, fun c => absurd (hlt j (by omega) (by omega)) c⟩
    | succ u ih =>
      intro j M N hj h
      refine z_step hL (by omega) h (fun M' N' h' => ?_)
      rw [show (5 : Int32) = nI 5 from rfl, nI_add]
      exact ih (j + 1) M' N' (by omega) h'
  exact ⟨L / 5 + 1, key (L / 5) 0 zM0 zN0 (by omega) zst_0⟩
