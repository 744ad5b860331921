/-! The sharp bound as it is used; a good small prime. -/
theorem q3_lead {a b c d : Int} {u : Pl} {m : Nat} (h : dl (m + 1) u) : (a * u.1 m) * (a * u.1 m) ≤ s2 (q3 a b c d u) ∧ (d * u.1 m) * (d * u.1 m) ≤ s2 (q3 a b c d u) := by
  have top : ∀ a b c d : Int, (q3 a b c d u).1 (m + 3) = a * u.1 m := fun a b c d => by
    show a * (plU (plU (plU u))).1 (m + 1 + 1 + 1) + (b * (plU (plU u)).1 (m + 2 + 1) + (c * (plU u).1 (m + 2 + 1) + d * u.1 (m + 3))) = _
    rw [plU_top, plU_top, plU_top, plU_top, plU_top, show (plU u).1 (m + 2 + 1) = u.1 (m + 2) from plU_top, h (m + 1) (by omega), h (m + 2) (by omega), h (m + 3) (by omega)]
    omega
  have h1 := s2_one (q3 a b c d u) (m + 3)
  have h2 := s2_one (q3 d c b a u) (m + 3)
  rw [top] at h1 h2
  rw [← s2_q3t] at h2
  exact ⟨h1, h2⟩
theorem s2_reg {f : Pl} (hf : dl 8 f) (hH : ∀ i, ab (f.1 i) ≤ 99999) : s2 f ≤ 79998400008 := by
  unfold s2
  rw [ip_of hf]
  refine Int.le_trans (psum_le (g := fun _ => 9999800001) (fun i _ => ?_)) ?_
  · have := absq (x := f.1 i) (y := 99999) (hH i)
    omega
  · rw [psum_c]; decide
theorem bnd3 {f g h : Pl} {m : Nat} (hf : dl 8 f) (hH : ∀ i, ab (f.1 i) ≤ 99999) (hne : ∃ i, f.1 i ≠ 0) (hg : dl 4 g) (hh : dl (m + 1) h) (hl : h.1 m ≠ 0) (e : ∀ x, ev f x = ev g x * ev h x) (i : Nat) : ab (g.1 i) * ab (h.1 m) ≤ 883167 := by
  have ef : f = q3 (g.1 3) (g.1 2) (g.1 1) (g.1 0) h := ev_ext (fun x => by
    rw [ev_q3, e x, ev_of hg]
    congr 1
    show 0 + g.1 0 * x ^ 0 + g.1 1 * x ^ 1 + g.1 2 * x ^ 2 + g.1 3 * x ^ 3 = _
    have h1 : x ^ 1 = x := by rw [Int.pow_succ, Int.pow_zero, Int.one_mul]
    have h2 : x ^ 2 = x * x := by rw [Int.pow_succ, h1]
    have h3 : x ^ 3 = x * x * x := by rw [Int.pow_succ, h2]
    rw [Int.pow_zero, h1, h2, h3]
    grind)
  have hT := s2_reg hf hH
  have hT1 := s2_pos hne
  rw [ef] at hT hT1
  have hq : ∀ y : Int, 4 * ((y * h.1 m) * (y * h.1 m)) ≤ 39 * s2 (q3 (g.1 3) (g.1 2) (g.1 1) (g.1 0) h) → ab y * ab (h.1 m) ≤ 883167 := fun y hy => by
    rw [← ab_mul]
    refine Classical.byContradiction (fun c => ?_)
    have h1 : (883168 : Int) * 883168 ≤ (y * h.1 m) * (y * h.1 m) := absq (x := 883168) (y := y * h.1 m) (by show (883168 : Int) ≤ _; omega)
    omega
  have hs := s2_nn (q3 (g.1 3) (g.1 2) (g.1 1) (g.1 0) h)
  obtain ⟨l1, l2⟩ := q3_lead (a := g.1 3) (b := g.1 2) (c := g.1 1) (d := g.1 0) hh
  obtain ⟨c1, c2⟩ := cubic (a := g.1 3) (b := g.1 2) (c := g.1 1) (d := g.1 0) hh hl hT1
  by_cases i4 : i < 4
  · have : i = 0 ∨ i = 1 ∨ i = 2 ∨ i = 3 := by omega
    rcases this with r | r | r | r <;> rw [r]
    · exact hq _ (by omega)
    · exact hq _ c2
    · exact hq _ c1
    · exact hq _ (by omega)
  · rw [hg i (by omega)]
    show 0 * _ ≤ _
    rw [Int.zero_mul]
    decide
def smP : List Nat := [2, 3, 5, 7, 11, 13, 17, 19, 23, 29, 31, 37, 41, 43, 47, 53, 59, 61, 67, 71, 73, 79, 83, 89, 97, 101, 103, 107, 109, 113, 127, 131, 137, 139, 149, 151, 157, 163, 167, 173, 179, 181, 191, 193, 197, 199]
theorem smP_c : ∀ p, p ∈ smP → 1 < p ∧ p < 200 ∧ ∀ d, d < p → 1 < d → ¬ d ∣ p := by decide +kernel
theorem smP_p : ∀ p, p ∈ smP → prm (p : Int) := fun p hp => prm_of (smP_c p hp).1 (fun d a b => (smP_c p hp).2.2 d b a)
def dstb : List Int → Bool
  | [] => true
  | p :: ps => !(lprod ps % p == 0) && dstb ps
theorem dstb_ok : ∀ {ps : List Int}, dstb ps = true → dst ps
  | [], _ => trivial
  | p :: ps, h => by
    have h' : (!(lprod ps % p == 0) && dstb ps) = true := h
    rw [Bool.and_eq_true] at h'
    refine ⟨fun c => ?_, dstb_ok h'.2⟩
    rw [Int.emod_eq_zero_of_dvd c] at h'
    exact absurd h'.1 (by decide)
theorem smP_d : dst (smP.map (fun p : Nat => (p : Int))) := dstb_ok (by decide +kernel)
/-- p takes nothing from O's degree, and no square divides O modulo p -/
def gsm (p : Int) (O : Pl) (k : Nat) : Prop := (¬ p ∣ O.1 k) ∧ cop p O (plT O)
theorem good_small {W O G w : Pl} {n g : Nat} (hz : gz W (plT W) G O w) (hW : prim W) (W1 : W.1 n ≠ 0) (W2 : dl (n + 1) W) (hn : 1 ≤ n) (n7 : n ≤ 7) (sA : nm W ≤ 799992) (sB : nm (plT W) ≤ 2799972) (G1 : G.1 g ≠ 0) (G2 : dl (g + 1) G) : g < n ∧ O.1 (n - g) ≠ 0 ∧ dl (n - g + 1) O ∧ ∃ p, p ∈ smP ∧ gsm (p : Int) O (n - g) := by
  have T1 : (plT W).1 (n - 1) ≠ 0 := by
    show (((n - 1 : Nat) : Int) + 1) * W.1 (n - 1 + 1) ≠ 0
    rw [show n - 1 + 1 = n by omega]
    intro c
    rcases Int.mul_eq_zero.mp c with d | d
    · omega
    · exact W1 d
  have T2 : dl (n - 1 + 1) (plT W) := by rw [show n - 1 + 1 = n by omega]; exact dl_T W2
  have eW : W = plM G O := ev_ext (fun x => by rw [ev_M]; exact hz.2.1 x)
  have eT : plT W = plM G w := ev_ext (fun x => by rw [ev_M]; exact hz.2.2.1 x)
  have hz0 : ∀ {H c : Pl}, (∀ i, c.1 i = 0) → ∀ i, (plM H c).1 i = 0 := fun {H c} f i => by
    show pmul H.1 c.1 i = 0
    rw [pmul_comm]
    exact pmul_z f i
  have tO : ∃ k, O.1 k ≠ 0 ∧ dl (k + 1) O ∧ g + k = n := by
    rcases pl_top O with f | ⟨k, f1, f2⟩
    · exact absurd (by rw [eW]; exact hz0 f n) W1
    · have t := top_M G1 G2 f1 f2
      rw [← eW] at t
      exact ⟨k, f1, f2, top_u t.1 t.2 W1 W2⟩
  have tw : ∃ k, w.1 k ≠ 0 ∧ dl (k + 1) w ∧ g + k = n - 1 := by
    rcases pl_top w with f | ⟨k, f1, f2⟩
    · exact absurd (by rw [eT]; exact hz0 f (n - 1)) T1
    · have t := top_M G1 G2 f1 f2
      rw [← eT] at t
      exact ⟨k, f1, f2, top_u t.1 t.2 T1 T2⟩
  obtain ⟨ko, o1, o2, o3⟩ := tO
  obtain ⟨kw, w1, w2, w3⟩ := tw
  have eko : n - g = ko := by omega
  rw [eko]
  refine ⟨by omega, o1, o2, ?_⟩
  -- the leading number of w
  have lw : w.1 kw = n * O.1 ko := by
    have a1 : G.1 g * O.1 ko = W.1 n := by
      have := plM_top G2 o2
      rw [← eW, o3] at this
      exact this.symm
    have a2 : G.1 g * w.1 kw = (plT W).1 (n - 1) := by
      have := plM_top G2 w2
      rw [← eT, w3] at this
      exact this.symm
    have a3 : (plT W).1 (n - 1) = n * W.1 n := by
      show (((n - 1 : Nat) : Int) + 1) * W.1 (n - 1 + 1) = _
      rw [show n - 1 + 1 = n by omega]
      congr 1
      omega
    refine Int.eq_of_mul_eq_mul_left G1 ?_
    rw [a2, a3, ← a1]
    grind
  have hO : prim O := fun d hd => hW d (fun i => by
    rw [eW]
    exact psum_dvd (fun j _ => Int.dvd_mul_of_dvd_right (hd (i - j))))
  refine Classical.byContradiction (fun bad => ?_)
  obtain ⟨R, R1, R2, R3⟩ := res (a := W) (b := plT W) (k1 := n - 1 - g) (k2 := n - g) (N := n + 1 + (n + 1)) (fun j => Int.le_trans (nm_le j) sA) (fun j => Int.le_trans (nm_le j) sB) W2 T2 (by omega) (by omega) (fun u v hu hv h => gz_ind hz (by rw [eko]; exact o1) (by rw [eko]; exact o2) u v hu hv h)
  have zco : ∀ i, (plX 0 0).1 i = 0 := fun i => by
    show (if i = 0 then (0 : Int) else 0) = 0
    split <;> rfl
  have hp : ∀ p, p ∈ smP → prm (p : Int) ∧ (p : Int) ∣ R := fun p hpm => by
    have p1 := smP_p p hpm
    refine ⟨p1, ?_⟩
    have nb : ¬ gsm (p : Int) O ko := fun c => bad ⟨p, hpm, c⟩
    by_cases hpo : (p : Int) ∣ O.1 ko
    · -- p divides the leading number
      have hu : cg (p : Int) (cut w.1 0 (n - 1 - g)) w := cg_of (fun i => by
        show (p : Int) ∣ (if i < n - 1 - g then w.1 (0 + i) else 0) - w.1 i
        by_cases c : i < n - 1 - g
        · rw [if_pos c, Nat.zero_add, Int.sub_self]; exact ⟨0, (Int.mul_zero _).symm⟩
        · rw [if_neg c, Int.zero_sub]
          refine Int.dvd_neg.mpr ?_
          by_cases d : i = kw
          · rw [d, lw]; exact Int.dvd_mul_of_dvd_right hpo
          · rw [w2 i (by omega)]; exact ⟨0, (Int.mul_zero _).symm⟩)
      have hv : cg (p : Int) (plK (-1) (cut O.1 0 (n - g))) (plK (-1) O) := cg_K (cg_of (fun i => by
        show (p : Int) ∣ (if i < n - g then O.1 (0 + i) else 0) - O.1 i
        by_cases c : i < n - g
        · rw [if_pos c, Nat.zero_add, Int.sub_self]; exact ⟨0, (Int.mul_zero _).symm⟩
        · rw [if_neg c, Int.zero_sub]
          refine Int.dvd_neg.mpr ?_
          by_cases d : i = ko
          · rw [d]; exact hpo
          · rw [o2 i (by omega)]; exact ⟨0, (Int.mul_zero _).symm⟩))
      have rel : cg (p : Int) (plA (plM (cut w.1 0 (n - 1 - g)) W) (plM (plK (-1) (cut O.1 0 (n - g))) (plT W))) (plX 0 0) := cg_trans (cg_A (cg_M hu cg_refl) (cg_M hv cg_refl)) (cg_eq (fun x => by
        simp only [ev_A, ev_M, ev_K, ev_X]
        rw [hz.2.1 x, hz.2.2.1 x]
        grind))
      have h3 := R3 p _ _ cut_dl (dl_K cut_dl) (fun i => by
        have := cg_co rel i
        rw [zco i, Int.sub_zero] at this
        exact this)
      -- some place of O is not divided
      obtain ⟨i, hi⟩ : ∃ i, ¬ (p : Int) ∣ O.1 i := Classical.byContradiction (fun c => prim_p hO p1 (fun i => Classical.byContradiction (fun d => c ⟨i, d⟩)))
      have hin : i < n - g := by
        rcases Nat.lt_or_ge i (n - g) with c | c
        · exact c
        · exfalso
          by_cases d : i = ko
          · rw [d] at hi; exact hi hpo
          · rw [o2 i (by omega)] at hi; exact hi ⟨0, (Int.mul_zero _).symm⟩
      have h4 : (p : Int) ∣ (-1 * (if i < n - g then O.1 (0 + i) else 0)) * R := (h3 i).2
      rw [if_pos hin, Nat.zero_add] at h4
      rcases p1.2 _ _ h4 with c | c
      · exfalso
        rw [show -1 * O.1 i = -(O.1 i) by omega] at c
        exact hi (Int.dvd_neg.mp c)
      · exact c
    · have mO : mt (p : Int) O ko := mt_of hpo o2
      have nzO : ¬ zr (p : Int) O := fun c => hpo (c ko)
      obtain ⟨D, d, e1, e2, ⟨s, t, e3⟩, ⟨a, e4⟩, ⟨b, e5⟩⟩ := bez_p p1 (B := plT O) nzO
      have d1 : 1 ≤ d := by
        rcases Nat.eq_zero_or_pos d with c | c
        · exfalso
          subst c
          rw [mon_1 ⟨e1, e2⟩] at e3
          exact nb ⟨hpo, s, t, e3⟩
        · exact c
      obtain ⟨q, m, hq, hqD⟩ := irr_ex p1 (mon_mt p1 ⟨e1, e2⟩) d1
      have qO : dvp (p : Int) q O := dvp_trans hqD ⟨a, e4⟩
      have qT : dvp (p : Int) q (plT O) := dvp_trans hqD ⟨b, e5⟩
      obtain ⟨g', mG⟩ : ∃ g', mt (p : Int) G g' := by
        rcases mt_ex (p : Int) G with c | c
        · exact absurd c (prim_p hz.1 p1)
        · exact c
      · have qw := share_w p1 hq mG (fun x => by rw [← eW]; exact hz.2.2.1 x) qO qT
        obtain ⟨y, hy⟩ := qO
        obtain ⟨z, hz'⟩ := qw
        obtain ⟨t1, t2, t3⟩ := mt_part p1 hy mO (mon_mt p1 hq.1)
        have hm1 := hq.2.1
        -- z as a short row
        have hzz : ∃ u : Pl, dl (n - 1 - g) u ∧ cg (p : Int) u z := by
          rcases mt_ex (p : Int) z with c | ⟨s1, c⟩
          · refine ⟨plX 0 0, fun i _ => zco i, cg_symm ?_⟩
            exact cg_of (fun i => by rw [zco i, Int.sub_zero]; exact c i)
          · refine ⟨cut z.1 0 (s1 + 1), dl_mono ?_ cut_dl, cut_cg c⟩
            have h6 := mt_cg (cg_symm hz') (mt_M p1 (mon_mt p1 hq.1) c)
            have := mt_le h6 w2
            omega
        obtain ⟨u, u1, u2⟩ := hzz
        have rel : cg (p : Int) (plA (plM u W) (plM (plK (-1) (cut y.1 0 (t1 + 1))) (plT W))) (plX 0 0) := by
          have a1 : cg (p : Int) (plM u W) (plM z (plM G (plM q y))) := cg_M u2 (by rw [eW]; exact cg_M cg_refl hy)
          have a2 : cg (p : Int) (plM (plK (-1) (cut y.1 0 (t1 + 1))) (plT W)) (plM (plK (-1) y) (plM G (plM q z))) := cg_M (cg_K (cut_cg t2)) (by rw [eT]; exact cg_M cg_refl hz')
          exact cg_trans (cg_A a1 a2) (cg_eq (fun x => by simp only [ev_A, ev_M, ev_K, ev_X]; grind))
        have h3 := R3 p u (plK (-1) (cut y.1 0 (t1 + 1))) u1 (dl_K (dl_mono (by omega) cut_dl)) (fun i => by
          have := cg_co rel i
          rw [zco i, Int.sub_zero] at this
          exact this)
        have h4 : (p : Int) ∣ (-1 * (if t1 < t1 + 1 then y.1 (0 + t1) else 0)) * R := (h3 t1).2
        rw [if_pos (by omega), Nat.zero_add] at h4
        rcases p1.2 _ _ h4 with c | c
        · exfalso
          rw [show -1 * y.1 t1 = -(y.1 t1) by omega] at c
          exact t2.1 (Int.dvd_neg.mp c)
        · exact c
  have h1 := lp_dvd (D := R) (ps := smP.map (fun p : Nat => (p : Int))) (fun p hpm => by
    obtain ⟨q, q1, q2⟩ := List.mem_map.mp hpm
    rw [← q2]
    exact hp q q1) smP_d
  have h2 : lprod (smP.map (fun p : Nat => (p : Int))) ≤ ab R := by
    refine Int.le_of_dvd (by unfold ab; omega) ?_
    exact Int.dvd_natAbs.mpr h1
  have h3 : (799992 : Int) ^ (n - 1 - g) * 2799972 ^ (n - g) ≤ 799992 ^ 6 * 2799972 ^ 7 := Int.mul_le_mul (ipow_le (by decide) (Int.le_refl _) (by decide) (by omega)) (ipow_le (by decide) (Int.le_refl _) (by decide) (by omega)) (Int.pow_nonneg (by decide)) (Int.pow_nonneg (by decide))
  have h4 : (799992 : Int) ^ 6 * 2799972 ^ 7 < lprod (smP.map (fun p : Nat => (p : Int))) := by decide +kernel
  omega
