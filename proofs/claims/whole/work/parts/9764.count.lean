/-! fillKernel and countOf. -/
theorem s_Ar_fillI {K : zN → Prop} {a0 n : Nat} {x : Int32} {N : zN} (hz : zint a0 = n) (h0 : 0 < n) (hn : n < 100) (k : ∀ N' : zN, (∀ a, a ≠ a0 → N' a = N a) → (∀ i, i < n → N' a0 i = x) → K N') : w_Ar_fillI a0 x N K := by
  refine ⟨by omega, fun x1 hx => ?_⟩
  have hx : x1 = nI n := by rw [hx, hz, nI]
  subst hx
  have key : ∀ d j (N1 : zN), j + d = n → (∀ a, a ≠ a0 → N1 a = N a) → (∀ i, i < j → N1 a0 i = x) → ∃ f, L_Ar_fillI_5 K a0 x (nI n) f (nI j) N1 := by
    intro d
    induction d with
    | zero =>
      intro j N1 hj h1 h2
      have : j = n := by omega
      subst this
      exact ⟨1, ⟨fun _ => k N1 h1 h2, fun h => absurd (nI_le (Nat.le_refl _) (by omega)) h⟩⟩
    | succ d ih =>
      intro j N1 hj h1 h2
      obtain ⟨f, hf⟩ := ih (j + 1) (zpui N1 a0 j x) (by omega) (fun a ha => by rw [zpui_ne ha]; exact h1 a ha) (fun i hi => by
        by_cases e : i = j
        · subst e; rw [zpui_eq]
        · rw [zpui_n2 e]; exact h2 i (by omega))
      refine ⟨f + 1, ⟨fun h => absurd h (nI_ge (by omega) (by omega)), fun _ => ⟨by rw [hz]; exact vp_in_nI (by omega) (by omega), fun N2 e => ?_⟩⟩⟩
      rw [e, nI_clamp (by omega), nI_1]
      exact hf
  exact key n 0 N (by omega) (fun _ _ => rfl) (fun i hi => by omega)
def zmt (M : zM) (i j : Nat) : Int := if i < 8 then (M (28 + i) j).toInt else 0
def zkr (M : zM) (t i : Nat) : Int := if t < 8 then pr 8 (M (37 + t)) i else 0
theorem elim_R {p : Int} {n k F : Nat} {R R' m kr : Nat → Nat → Int} {pv fr : Nat → Nat} (h : elim p n R k m pv F fr kr) (e : ∀ i j, i < n → j < n → R i j = R' i j) : elim p n R' k m pv F fr kr := by
  obtain ⟨h1, h2, h3, h4, h5, h6⟩ := h
  refine ⟨fun v => Iff.trans ?_ (h1 v), h2, h3, h4, h5, h6⟩
  constructor
  · intro g j hj
    rw [psum_congr (g := fun i => v i * R' i j) (fun i hi => by rw [e i j hi hj])]
    exact g j hj
  · intro g j hj
    rw [← psum_congr (f := fun i => v i * R i j) (fun i hi => by rw [e i j hi hj])]
    exact g j hj
theorem s_fillKernel {K : Int32 → zM → zN → Prop} {n q : Nat} {M : zM} {N : zN} (hn1 : 1 ≤ n) (hn : n < 8) (hp : prm ((q + 2 : Nat) : Int)) (p1 : q + 2 < 2 ^ 31) (hr : ∀ i, i < n → zrw (q + 2) 8 (M (28 + i)))
    (k : ∀ (F : Nat) (M' : zM) (N' : zN) (m : Nat → Nat → Int) (pv fr : Nat → Nat), (∀ a, ¬ (28 ≤ a ∧ a < 36) → ¬ (37 ≤ a ∧ a < 45) → M' a = M a) → (∀ a, a ≠ 45 → N' a = N a) → F ≤ n → elim ((q + 2 : Nat) : Int) n (zmt M) n m pv F fr (zkr M') → (∀ t, t < F → zrw (q + 2) 8 (M' (37 + t)) ∧ ∀ i, n ≤ i → i < 8 → M' (37 + t) i = 0) → (∀ t u, t < u → u < F → fr t < fr u) → K (nI F) M' N') : w_MP_fillKernel (nI n) (lN (q + 2)) M N K := by
  refine s_Ar_fillI (n := 8) (by decide) (by decide) (by decide) (fun N3 f1 f2 => ?_)
  have key : ∀ d kk F (M1 : zM) (N1 : zN) (pv fr : Nat → Nat), kk + d = n → F ≤ kk → (∀ a, ¬ (28 ≤ a ∧ a < 36) → ¬ (37 ≤ a ∧ a < 45) → M1 a = M a) → (∀ a, a ≠ 45 → N1 a = N a) → zpv N1 pv → (∀ i, i < n → zrw (q + 2) 8 (M1 (28 + i))) → elim ((q + 2 : Nat) : Int) n (zmt M) kk (zmt M1) pv F fr (zkr M1) → (∀ t, t < F → zrw (q + 2) 8 (M1 (37 + t)) ∧ ∀ i, n ≤ i → i < 8 → M1 (37 + t) i = 0) → (∀ t u, t < u → u < F → fr t < fr u) → L_MP_fillKernel_14 K (nI n) (lN (q + 2)) (d + 1) (nI F) (nI kk) M1 N1 := by
    intro d
    induction d with
    | zero =>
      intro kk F M1 N1 pv fr hk hF g1 g2 g3 g4 g5 g6 g7
      have : kk = n := by omega
      subst this
      exact ⟨fun _ => k F M1 N1 _ pv fr g1 g2 hF g5 g6 g7, fun c => absurd (Int32.le_refl _) c⟩
    | succ d ih =>
      intro kk F M1 N1 pv fr hk hF g1 g2 g3 g4 g5 g6 g7
      have hmt : ∀ j, zmt M1 kk j = (M1 (28 + kk) j).toInt := fun j => if_pos (by omega)
      refine ⟨fun c => absurd c (nI_ge (by omega) (by omega)), fun _ => ?_⟩
      refine s_freeColumn (by omega) hn g3 (fun c hc hne hpv => ?_) (fun hno => ?_)
      · refine ⟨fun _ => s_clearRow (by omega) hn hc hp p1 (fun i a b => g4 i b) hne (fun M2 s y1 y2 y3 => ⟨vp_in_nI (N := 8) (by omega) (by decide), fun N10 e10 => ?_⟩), fun e => absurd (nI_pos' (by omega)) e⟩
        rw [nI_clamp (by omega)] at e10
        rw [nI_1]
        have r28 : ∀ i, i < kk → M2 (28 + i) = M1 (28 + i) := fun i hi => y1 _ (by omega)
        have r37 : ∀ t, M2 (37 + t) = M1 (37 + t) := fun t => y1 _ (by omega)
        have ekr : zkr M2 = zkr M1 := by
          funext t i
          unfold zkr
          rw [r37 t]
        refine ih (kk + 1) F M2 N10 (fun j => if j = c then kk + 1 else pv j) fr (by omega) (by omega) (fun a x y => by rw [y1 a (by omega)]; exact g1 a x y) (fun a x => by rw [e10, zpui_ne x]; exact g2 a x) (fun j hj => ?_) (fun i hi => ?_) ?_ (fun t ht => by rw [r37 t]; exact g6 t ht) g7
        · show N10 45 j = nI (if j = c then kk + 1 else pv j) + (-1) ∧ (if j = c then kk + 1 else pv j) ≤ 8
          by_cases e : j = c
          · rw [if_pos e, e, e10, zpui_eq, pk_m1]
            exact ⟨rfl, by omega⟩
          · rw [if_neg e, e10, zpui_n2 e]
            exact g3 j hj
        · by_cases e : kk ≤ i
          · exact (y3 i e hi).1
          · rw [r28 i (by omega)]; exact g4 i hi
        · rw [ekr]
          refine elim_piv (c := c) (s := s) hp g5 (by omega) hc hpv (by rw [hmt]; exact y2) (fun i j hi hj => ?_) (fun i a b => ?_) (fun i j a b hj hjc => ?_)
          · unfold zmt
            rw [r28 i hi]
          · unfold zmt
            rw [if_pos (by omega), if_pos (by omega)]
            exact (y3 i a b).2.1
          · unfold zmt
            rw [if_pos (by omega), if_pos (by omega), if_pos (by omega), if_pos (by omega)]
            exact (y3 i a b).2.2 j hj hjc
      · refine ⟨fun c => absurd c (by decide), fun _ => s_fillKernelRow (by omega) (by omega) hn g3 (fun j l hj hl e hne => elim_pv hp g5 (i := pv j - 1) hj hl (by omega) (by omega)) (fun j hj => ?_) (fun M2 y1 y2 y3 y4 => ?_)⟩
        · rcases Nat.eq_zero_or_pos (pv j) with e | e
          · omega
          · have := (g5.2.1 j hj (pv j - 1) (by omega)).1
            omega
        · rw [nI_1, nI_1]
          have r28 : ∀ i, i < 8 → M2 (28 + i) = M1 (28 + i) := fun i hi => y1 _ (by omega)
          have emt : zmt M2 = zmt M1 := by
            funext i j
            unfold zmt
            by_cases c : i < 8
            · rw [if_pos c, if_pos c, r28 i c]
            · rw [if_neg c, if_neg c]
          have kF : ∀ i, i < 8 → zkr M2 F i = (M2 (37 + F) i).toInt := fun i hi => by
            unfold zkr
            rw [if_pos (by omega), pr_lt hi]
          refine ih (kk + 1) (F + 1) M2 N1 pv (fun t => if t = F then kk else fr t) (by omega) (by omega) (fun a x y => by rw [y1 a (by omega)]; exact g1 a x y) g2 g3 (fun i hi => by rw [r28 i (by omega)]; exact g4 i hi) ?_ (fun t ht => ?_) (fun t u htu hu => ?_)
          · rw [emt]
            refine elim_free (kr := zkr M1) (kr' := zkr M2) g5 (fun j hj e => ?_) (fun t ht => ?_) ?_ (fun j i hj e => ?_) (fun i hi e => ?_)
            · rw [hmt, hno j hj e]; exact ⟨0, (Int.mul_zero _).symm⟩
            · funext i
              unfold zkr
              rw [y1 (37 + t) (by omega)]
            · rw [kF kk (by omega), y2]; rfl
            · have hik := (g5.2.1 j hj i e).1
              rw [kF i (by omega), y3 j i hj e, hmt, Int.sub_self]
              exact ⟨0, (Int.mul_zero _).symm⟩
            · by_cases c : i < 8
              · rw [kF i c, y4 i c hi e]; rfl
              · unfold zkr
                rw [if_pos (by omega), pr_ge (by omega)]
          · by_cases c : t = F
            · rw [c]
              refine ⟨fun i hi => ?_, fun i a b => ?_⟩
              · by_cases c1 : i = kk
                · rw [c1, y2]; exact ⟨by decide, by show (1 : Int) < _; omega⟩
                · by_cases c2 : ∃ j, j < n ∧ pv j = i + 1
                  · obtain ⟨j, j1, j2⟩ := c2
                    rw [y3 j i j1 j2]
                    exact g4 kk (by omega) j (by omega)
                  · rw [y4 i hi c1 (fun j hj e => c2 ⟨j, hj, e⟩)]
                    exact ⟨by decide, by show (0 : Int) < _; omega⟩
              · refine y4 i b (by omega) (fun j hj e => ?_)
                have := (g5.2.1 j hj i e).1
                omega
            · rw [y1 (37 + t) (by omega)]; exact g6 t (by omega)
          · show (if t = F then kk else fr t) < (if u = F then kk else fr u)
            rw [if_neg (by omega)]
            by_cases c : u = F
            · rw [if_pos c]; exact (g5.2.2.2.1 t (by omega)).1
            · rw [if_neg c]; exact g7 t u htu (by omega)
  refine ⟨n + 1, key n 0 0 M N3 (fun _ => 0) (fun _ => 0) (by omega) (by omega) (fun _ _ _ => rfl) f1 (fun j hj => ⟨by rw [f2 j hj]; show (-1 : Int32) = nI 0 + (-1); decide, Nat.zero_le _⟩) hr elim_0 (fun t ht => absurd ht (Nat.not_lt_zero _)) (fun t u _ hu => absurd hu (Nat.not_lt_zero _))⟩
/-- what countOf leaves behind: f monic in 47, the kernel's rows from 37 on -/
def bkn (q n : Nat) (F : Nat) (M' : zM) : Prop := ∃ (R : Nat → Pl) (m : Nat → Nat → Int) (pv fr : Nat → Nat), (∀ i, i < n → dl n (R i) ∧ dvp ((q + 2 : Nat) : Int) (prP 8 (M' 47)) (plS (R i) (plS (plX 1 ((q + 2) * i)) (plX 1 i)))) ∧ elim ((q + 2 : Nat) : Int) n (fun i j => (R i).1 j) n m pv F fr (zkr M') ∧ F ≤ n ∧ (∀ t, t < F → zrw (q + 2) 8 (M' (37 + t)) ∧ ∀ i, n ≤ i → i < 8 → M' (37 + t) i = 0) ∧ ∀ t u, t < u → u < F → fr t < fr u
theorem s_countOf {K : Int32 → zM → zN → Prop} {a1 q : Nat} {M : zM} {N : zN} (h1 : zlong a1 = 8) (r1 : a1 ≠ 47) (hp : prm ((q + 2 : Nat) : Int)) (p1 : q + 2 < 2 ^ 31) (hA : ∀ i, i < 8 → (M a1 i).toInt.natAbs < 2 ^ 62)
    (k0 : ∀ M' : zM, (∀ a, a ≠ 47 → M' a = M a) → zr ((q + 2 : Nat) : Int) (prP 8 (M a1)) → K (-1) M' N) (k1 : ∀ M' : zM, (∀ a, a ≠ 47 → M' a = M a) → mt ((q + 2 : Nat) : Int) (prP 8 (M a1)) 0 → K 0 M' N)
    (k2 : ∀ (n F : Nat) (M' : zM) (N' : zN), 1 ≤ n → n < 8 → mt ((q + 2 : Nat) : Int) (prP 8 (M a1)) n → (∀ a, ¬ (28 ≤ a ∧ a < 36) → ¬ (37 ≤ a ∧ a ≤ 47) → M' a = M a) → (∀ a, a ≠ 45 → N' a = N a) → zrw (q + 2) 8 (M' 47) → mon (prP 8 (M' 47)) n → (∃ v, cg ((q + 2 : Nat) : Int) (prP 8 (M' 47)) (plK v (prP 8 (M a1)))) → (∃ v, cg ((q + 2 : Nat) : Int) (prP 8 (M a1)) (plK v (prP 8 (M' 47)))) → bkn q n F M' → K (nI F) M' N') : w_MP_countOf a1 (lN (q + 2)) M N K := by
  have z47 : zlong 47 = 8 := by decide
  refine s_reduceInto h1 z47 (by omega) p1 hA (fun M2 f1 f2 => ?_)
  have hc := red_cg (P := q + 2) f2
  have r47 : zrw (q + 2) 8 (M2 47) := fun i hi => by rw [f2 i hi]; exact z_emod (by omega) _
  refine s_Ro_degreeOf z47 (by decide) (by decide) ?_
  have le8 := zdg_le (M2 47) 8
  by_cases e0 : zdg (M2 47) 8 = 0
  · rw [e0]
    exact ⟨fun c => absurd c (by decide), fun _ => k0 M2 f1 (zr_cg (cg_symm hc) (row_0 e0))⟩
  · obtain ⟨n, hn⟩ : ∃ n, zdg (M2 47) 8 = n + 1 := ⟨zdg (M2 47) 8 - 1, by omega⟩
    have hmt := mt_cg hc (row_mt r47 hn)
    rw [hn, pk_m1]
    by_cases e1 : n = 0
    · subst e1
      exact ⟨fun c => absurd c (by decide), fun _ => k1 M2 f1 hmt⟩
    · obtain ⟨g1, g2, g3⟩ := zdg_s hn
      refine ⟨fun _ => s_makeMonic z47 hp p1 r47 hn (fun M3 v f3 f4 f5 => ?_), fun c => absurd (nI_le (a := 1) (by omega) (by omega)) c⟩
      have r3 : zrw (q + 2) 8 (M3 47) := fun i hi => by rw [f5 i hi]; exact z_emod (by omega) _
      have lead : (M3 47 n).toInt = 1 := by
        rw [f5 n g1]
        obtain ⟨y, hy⟩ := f4
        rw [show (M2 47 n).toInt * v = 1 + ((q + 2 : Nat) : Int) * y by omega, Int.add_mul_emod_self_left, Int.emod_eq_of_lt (by decide) (by omega)]
      have hmon : mon (prP 8 (M3 47)) n := by
        refine ⟨fun i hi => ?_, ?_⟩
        · show pr 8 (M3 47) i = 0
          rcases Nat.lt_or_ge i 8 with c | c
          · rw [pr_lt c, f5 i c, g3 i (by omega) c]
            show (0 * v) % _ = (0 : Int)
            rw [Int.zero_mul, Int.zero_emod]
          · exact pr_ge c
        · show pr 8 (M3 47) n = 1
          rw [pr_lt g1]; exact lead
      have c1 : cg ((q + 2 : Nat) : Int) (prP 8 (M3 47)) (plK v (prP 8 (M2 47))) := cg_of (fun i => by
        show _ ∣ pr 8 (M3 47) i - v * pr 8 (M2 47) i
        rcases Nat.lt_or_ge i 8 with g | g
        · rw [pr_lt g, pr_lt g, f5 i g, Int.mul_comm v]
          exact mod_dvd _ _
        · rw [pr_ge g, pr_ge g, Int.mul_zero]
          exact ⟨0, (Int.mul_zero _).symm⟩)
      have c2 : cg ((q + 2 : Nat) : Int) (prP 8 (M2 47)) (plK ((M2 47 n).toInt) (prP 8 (M3 47))) := by
        obtain ⟨y, hy⟩ := f4
        refine cg_symm (cg_trans (cg_K c1) ⟨plK y (prP 8 (M2 47)), fun x => ?_⟩)
        rw [ev_K, ev_K, ev_K]
        grind
      refine s_fillMatrix (by omega) g1 (by omega) p1 r3 hmon (fun M4 f6 f7 => s_fillKernel (by omega) g1 hp p1 (fun i hi => (f7 i hi).1) (fun F M5 N5 m pv fr f8 f9 f10 f11 f12 f13 => ?_))
      have e47 : M5 47 = M3 47 := by rw [f8 47 (by decide) (by decide), f6 47 (by decide) (by decide)]
      refine k2 n F M5 N5 (by omega) g1 hmt (fun a x y => ?_) f9 (by rw [e47]; exact r3) (by rw [e47]; exact hmon) ⟨v, by rw [e47]; exact cg_trans c1 (cg_K hc)⟩ ⟨(M2 47 n).toInt, by rw [e47]; exact cg_trans (cg_symm hc) c2⟩ ⟨fun i => prP 8 (M4 (28 + i)), m, pv, fr, fun i hi => ⟨(f7 i hi).2.1, by rw [e47]; exact (f7 i hi).2.2⟩, elim_R f11 (fun i j hi hj => ?_), f10, f12, f13⟩
      · rw [f8 a x (by omega), f6 a (by omega) x, f3 a (by omega), f1 a (by omega)]
      · unfold zmt
        rw [if_pos (by omega)]
        exact (pr_lt (by omega)).symm
