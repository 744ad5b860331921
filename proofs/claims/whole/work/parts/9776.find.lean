/-! ModularParts.find. -/
def Pt (M : zM) (i : Nat) : Pl := prP 8 (M (19 + i))
/-- c parts, monic, whose product is f -/
def prt (q c : Nat) (f : Pl) (M : zM) (N : zN) : Prop := N 17 1 = nI c ∧ 1 ≤ c ∧ (∀ i, i < c → zrw (q + 2) 8 (M (19 + i)) ∧ ∃ d, 1 ≤ d ∧ d < 8 ∧ mon (Pt M i) d) ∧ cg ((q + 2 : Nat) : Int) f (plQ (Pt M) c)
theorem mon_M {a b : Pl} {n m : Nat} (ha : mon a n) (hb : mon b m) : mon (plM a b) (n + m) := ⟨dl_M ha.1 hb.1 (by omega), by rw [plM_top ha.1 hb.1, ha.2, hb.2]; rfl⟩
theorem Q_mon {F : Nat → Pl} : ∀ {c : Nat}, (∀ i, i < c → ∃ d, 1 ≤ d ∧ mon (F i) d) → ∃ m, mon (plQ F c) m ∧ c ≤ m
  | 0, _ => ⟨0, ⟨dl_X (by omega), rfl⟩, Nat.le_refl _⟩
  | c + 1, h => by
    obtain ⟨m, m1, m2⟩ := Q_mon (F := F) (c := c) (fun i hi => h i (by omega))
    obtain ⟨d, d1, d2⟩ := h c (by omega)
    exact ⟨m + d, mon_M m1 d2, by omega⟩
theorem prt_le {q c n : Nat} {f : Pl} {M : zM} {N : zN} (hp : prm ((q + 2 : Nat) : Int)) (hf : mon f n) (h : prt q c f M N) : c ≤ n := by
  obtain ⟨m, m1, m2⟩ := Q_mon (F := Pt M) (c := c) (fun i hi => by
    obtain ⟨_, d, d1, _, d3⟩ := h.2.2.1 i hi
    exact ⟨d, d1, d3⟩)
  have := mt_uniq (mt_cg h.2.2.2 (mon_mt hp hf)) (mon_mt hp m1)
  omega
/-- the product of all but i -/
def plQx (F : Nat → Pl) (i : Nat) : Nat → Pl
  | 0 => plX 1 0
  | n + 1 => if n = i then plQx F i n else plM (plQx F i n) (F n)
theorem Q_out {F G : Nat → Pl} {i : Nat} {x : Int} : ∀ {c : Nat}, (∀ l, l < c → l ≠ i → G l = F l) → (i < c → ev (plQ G c) x = ev (G i) x * ev (plQx F i c) x) ∧ (c ≤ i → ev (plQ G c) x = ev (plQx F i c) x)
  | 0, _ => ⟨fun h => absurd h (Nat.not_lt_zero _), fun _ => rfl⟩
  | c + 1, h => by
    have ih := Q_out (F := F) (G := G) (i := i) (x := x) (c := c) (fun l hl => h l (by omega))
    show (i < c + 1 → ev (plM (plQ G c) (G c)) x = ev (G i) x * ev (if c = i then plQx F i c else plM (plQx F i c) (F c)) x) ∧ (c + 1 ≤ i → ev (plM (plQ G c) (G c)) x = ev (if c = i then plQx F i c else plM (plQx F i c) (F c)) x)
    refine ⟨fun hi => ?_, fun hi => ?_⟩
    · by_cases e : c = i
      · rw [if_pos e, ev_M, ih.2 (by omega), e, Int.mul_comm]
      · rw [if_neg e, ev_M, ev_M, ih.1 (by omega), h c (by omega) e]
        grind
    · rw [if_neg (by omega), ev_M, ev_M, ih.2 (by omega), h c (by omega) (by omega)]
/-- one part is put for another, a second one behind all -/
theorem Q_two {p : Int} {F G : Nat → Pl} {i c : Nat} (hi : i < c) (h : ∀ l, l < c → l ≠ i → G l = F l) (e : cg p (F i) (plM (G i) (G c))) : cg p (plQ F c) (plQ G (c + 1)) := by
  have h1 : cg p (plQ F c) (plM (F i) (plQx F i c)) := cg_eq (fun x => by
    rw [ev_M]
    exact (Q_out (F := F) (G := F) (fun _ _ _ => rfl)).1 hi)
  have h2 : cg p (plQ G (c + 1)) (plM (plM (G i) (G c)) (plQx F i c)) := cg_eq (fun x => by
    show ev (plM (plQ G c) (G c)) x = _
    rw [ev_M, ev_M, ev_M, (Q_out (F := F) (G := G) h).1 hi]
    grind)
  exact cg_trans h1 (cg_trans (cg_M e cg_refl) (cg_symm h2))
theorem mon_1irr {p : Int} {P : Pl} (h : mon P 1) : irr p P 1 := ⟨h, Nat.le_refl _, fun a m _ h1 h2 => by omega⟩
theorem z19 : ∀ i, i < 8 → zlong (18 + 1 + i) = 8 := by decide
theorem mon_zdg {f : Nat → Int64} {d : Nat} (hd : d < 8) (h : mon (prP 8 f) d) : zdg f 8 = d + 1 := row_zdg hd (by rw [h.2]; decide) h.1
theorem s_splitAll {K : zM → zN → Prop} {a1 q c0 s n : Nat} {f : Pl} {M : zM} {N : zN} (ha1 : zlong a1 = 8) (r1 : ¬ (19 ≤ a1 ∧ a1 < 27) ∧ ¬ (48 ≤ a1 ∧ a1 ≤ 50)) (hp : prm ((q + 2 : Nat) : Int)) (p1 : q + 2 < 1000) (hs : s < q + 2) (hf : mon f n) (hn : n < 8) (hsq : sqf ((q + 2 : Nat) : Int) f) (hv : zrw (q + 2) 8 (M a1)) (h : prt q c0 f M N)
    (k : ∀ (c : Nat) (M' : zM) (N' : zN), (∀ a, ¬ (19 ≤ a ∧ a < 27) → ¬ (48 ≤ a ∧ a ≤ 50) → M' a = M a) → (∀ a, a ≠ 17 → N' a = N a) → (∀ j, j ≠ 1 → N' 17 j = N 17 j) → prt q c f M' N' → (∀ l, l < c → ∃ j, j < c0 ∧ dvp ((q + 2 : Nat) : Int) (Pt M' l) (Pt M j)) → (∀ l, l < c → sep ((q + 2 : Nat) : Int) (Pt M' l) (plS (prP 8 (M a1)) (plX s 0))) → K M' N') : w_MP_splitAll a1 (lN s) (lN (q + 2)) M N K := by
  obtain ⟨q1, q2, q3, q4⟩ := z_lNp (P := q + 2) (by omega) (by omega)
  have hc0 := prt_le hp hf h
  intro x1 ex1
  rw [h.1] at ex1
  subst ex1
  have key : ∀ d i c (M1 : zM) (N1 : zN), i + d = c0 → c0 ≤ c → (∀ a, ¬ (19 ≤ a ∧ a < 27) → ¬ (48 ≤ a ∧ a ≤ 50) → M1 a = M a) → (∀ a, a ≠ 17 → N1 a = N a) → (∀ j, j ≠ 1 → N1 17 j = N 17 j) → prt q c f M1 N1 → (∀ l, l < c → ∃ j, j < c0 ∧ dvp ((q + 2 : Nat) : Int) (Pt M1 l) (Pt M j)) → (∀ l, l < i → sep ((q + 2 : Nat) : Int) (Pt M1 l) (plS (prP 8 (M a1)) (plX s 0))) → (∀ l, c0 ≤ l → l < c → sep ((q + 2 : Nat) : Int) (Pt M1 l) (plS (prP 8 (M a1)) (plX s 0))) → L_MP_splitAll_9 K a1 (lN s) (lN (q + 2)) (nI c0) (d + 1) (nI i) M1 N1 := by
    intro d
    induction d with
    | zero =>
      intro i c M1 N1 hi hc g1 g2 g3 g4 g5 g6 g7
      have : i = c0 := by omega
      subst this
      refine ⟨fun _ => k c M1 N1 g1 g2 g3 g4 g5 (fun l hl => ?_), fun e => absurd (Int32.le_refl _) e⟩
      rcases Nat.lt_or_ge l i with a | a
      · exact g6 l a
      · exact g7 l a hl
    | succ d ih =>
      intro i c M1 N1 hi hc g1 g2 g3 g4 g5 g6 g7
      have hcn := prt_le hp hf g4
      obtain ⟨t1, t2, t3, t4⟩ := id g4
      obtain ⟨ri, di, di1, di8, dim⟩ := t3 i (by omega)
      have gi : vp_in (nI i) (zgn 18) := vp_in_nI (N := 8) (by omega) (by decide)
      have zdi : zdg (M1 (18 + 1 + i)) 8 = di + 1 := by
        rw [show 18 + 1 + i = 19 + i by omega]
        exact mon_zdg di8 dim
      -- the step that only goes on
      have goon : ∀ M2 : zM, (∀ a, ¬ (48 ≤ a ∧ a ≤ 50) → M2 a = M1 a) → sep ((q + 2 : Nat) : Int) (Pt M1 i) (plS (prP 8 (M a1)) (plX s 0)) → L_MP_splitAll_9 K a1 (lN s) (lN (q + 2)) (nI c0) (d + 1) (nI i + 1) M2 N1 := fun M2 f2 hse => by
        have eP : ∀ l, l < c → Pt M2 l = Pt M1 l := fun l hl => by
          unfold Pt
          rw [f2 (19 + l) (by omega)]
        rw [nI_1]
        refine ih (i + 1) c M2 N1 (by omega) hc (fun a x y => by rw [f2 a y]; exact g1 a x y) g2 g3 ⟨t1, t2, fun l hl => ?_, ?_⟩ (fun l hl => by rw [eP l hl]; exact g5 l hl) (fun l hl => ?_) (fun l a b => by rw [eP l b]; exact g7 l a b)
        · rw [eP l hl, f2 (19 + l) (by omega)]; exact t3 l hl
        · rw [plQ_congr eP]; exact t4
        · rw [eP l (by omega)]
          by_cases e : l = i
          · rw [e]; exact hse
          · exact g6 l (by omega)
      refine ⟨fun e => absurd e (nI_ge (by omega) (by omega)), fun _ => ⟨fun e => ?_, fun _ => ⟨gi, ?_⟩⟩⟩
      · exfalso
        rw [t1] at e
        exact absurd e (nI_ge (b := 8) (by omega) (by decide))
      rw [nI_clamp (by omega)]
      refine s_Ro_degreeOf (z19 i (by omega)) (by decide) (by decide) ?_
      rw [zdi, pk_m1]
      by_cases hdi : di = 1
      · subst hdi
        refine ⟨fun e => absurd e (by decide), fun _ => goon M1 (fun _ _ => rfl) ?_⟩
        rcases irr_cop hp (a := plS (prP 8 (M a1)) (plX s 0)) (mon_1irr (p := ((q + 2 : Nat) : Int)) dim) with x | x
        · exact Or.inr x
        · exact Or.inl x
      · refine ⟨fun _ => ⟨gi, ?_⟩, fun e => absurd (nI_le (a := 2) (by omega) (by omega)) e⟩
        refine s_copyInto (z19 i (by omega)) (by decide) (fun M6 f1 f2 => s_copyInto ha1 (by decide) (fun M9 f3 f4 => ⟨vp_in_nI (n := 0) (N := 8) (by decide) (by decide), s_residue q3 ⟨vp_in_nI (n := 0) (N := 8) (by decide) (by decide), fun M14 e14 => ?_⟩⟩))
        have ec : (0 : Int32).toNatClampNeg = 0 := by decide
        rw [ec] at e14
        have va : ∀ l, l < 8 → M9 49 l = M a1 l := fun l hl => by rw [f4 l hl, f1 a1 (by omega), g1 a1 r1.1 r1.2]
        have h48 : ∀ l, l < 8 → M14 48 l = M1 (19 + i) l := fun l hl => by
          rw [e14, zput_ne (by decide), f3 48 (by decide), f2 l hl]
        have e48 : prP 8 (M14 48) = Pt M1 i := prP_congr h48
        have hx0 := hv 0 (by decide)
        have es0 : (M9 49 0 - lN s).toInt = (M a1 0).toInt - s := by
          rw [va 0 (by decide), zx_sub (by rw [pk_lT (by omega)]; omega) (by rw [pk_lT (by omega)]; omega), pk_lT (by omega)]
        have er0 : (zrs (M9 49 0 - lN s) (lN (q + 2))).toInt = ((M a1 0).toInt - s) % (q + 2 : Nat) := by
          rw [zrs_e q2 (by rw [es0]; omega), es0, q1]
        have v49 : ∀ l, l < 8 → (M14 49 l).toInt = if l = 0 then ((M a1 0).toInt - s) % (q + 2 : Nat) else (M a1 l).toInt := fun l hl => by
          rw [e14]
          by_cases e : l = 0
          · subst e; rw [zput_eq, if_pos rfl, er0]
          · rw [zput_n2 e, if_neg e, va l hl]
        have r49 : zrw (q + 2) 8 (M14 49) := fun l hl => by
          rw [v49 l hl]
          split
          · exact z_emod (by omega) _
          · exact hv l hl
        have c49 : cg ((q + 2 : Nat) : Int) (prP 8 (M14 49)) (plS (prP 8 (M a1)) (plX s 0)) := cg_of (fun l => by
          show _ ∣ pr 8 (M14 49) l - (pr 8 (M a1) l - (if l = 0 then (s : Int) else 0))
          rcases Nat.lt_or_ge l 8 with c8 | c8
          · rw [pr_lt c8, pr_lt c8, v49 l c8]
            by_cases e : l = 0
            · rw [if_pos e, if_pos e, e]; exact mod_dvd _ _
            · rw [if_neg e, if_neg e]; exact ⟨0, by rw [Int.mul_zero]; omega⟩
          · rw [pr_ge c8, pr_ge c8, if_neg (by omega)]; exact ⟨0, by rw [Int.mul_zero]; rfl⟩)
        have r48 : zrw (q + 2) 8 (M14 48) := fun l hl => by rw [h48 l hl]; exact ri l hl
        have f14 : ∀ a, ¬ (48 ≤ a ∧ a ≤ 50) → M14 a = M1 a := fun a ha => by rw [e14, zput_ne (by omega), f3 a (by omega), f1 a (by omega)]
        refine s_commonOf (by decide) (by decide) (by decide) (by decide) (by decide) (by decide) hp (by omega) r48 r49 (by rw [zdg_congr h48]; rw [show 18 + 1 + i = 19 + i by omega] at zdi; omega) (fun r dd M16 hr hdd f5 f6 f7 hE0 => ?_)
        rw [e48] at hE0
        have hE : eg ((q + 2 : Nat) : Int) (Pt M1 i) (plS (prP 8 (M a1)) (plX s 0)) (prP 8 (M16 r)) dd := eg_cg hE0 cg_refl c49
        have f16 : ∀ a, ¬ (48 ≤ a ∧ a ≤ 50) → M16 a = M1 a := fun a ha => by rw [f5 a (by omega) (by omega) (by omega)]; exact f14 a ha
        have hr8 : zlong r = 8 := by rcases hr with e | e <;> rw [e] <;> decide
        have hrr : 48 ≤ r ∧ r ≤ 49 := by rcases hr with e | e <;> rw [e] <;> decide
        have e19 : M16 (18 + 1 + i) = M1 (19 + i) := by rw [show 18 + 1 + i = 19 + i by omega]; exact f16 _ (by omega)
        obtain ⟨D1, D2, ⟨uu, ww, D3⟩, D4, D5⟩ := id hE
        have hdle : dd ≤ di := dvp_mt hp (mon_mt hp ⟨D1, D2⟩) D4 (mon_mt hp dim)
        refine s_Ro_degreeOf hr8 (by decide) (by decide) ?_
        rw [f7, pk_m1]
        rcases Nat.eq_zero_or_pos dd with hd0 | hd0
        · subst hd0
          exact ⟨fun _ => goon M16 f16 (Or.inr ((eg_cop hp hE).mp rfl)), fun e => absurd (by decide) e⟩
        · refine ⟨fun e => absurd e (nI_nle hd0 (by omega)), fun _ => ⟨gi, s_Ro_degreeOf (z19 i (by omega)) (by decide) (by decide) ?_⟩⟩
          rw [e19, show zdg (M1 (19 + i)) 8 = di + 1 from mon_zdg di8 dim, pk_m1]
          by_cases hdd2 : dd = di
          · subst hdd2
            refine ⟨fun _ => goon M16 f16 (Or.inl ?_), fun e => absurd (Int32.le_refl _) e⟩
            exact dvp_cgl D5 (mon_cg hp ⟨D1, D2⟩ dim D4)
          · refine ⟨fun e => absurd e (nI_ge (by omega) (by omega)), fun _ => ⟨gi, ?_⟩⟩
            rw [t1, nI_clamp (by omega)]
            -- count of parts stays within n
            obtain ⟨m, m1, m2⟩ := Q_mon (F := Pt M1) (c := c) (fun l hl => by
              obtain ⟨_, x, x1, _, x3⟩ := t3 l hl
              exact ⟨x, x1, x3⟩)
            refine ⟨vp_in_nI (N := 8) (by omega) (by decide), ?_⟩
            have hc8 : c < 8 := by omega
            refine s_divideOut (z19 i (by omega)) hr8 (z19 c hc8) (by omega) (by omega) (by omega) hp (by omega) (by rw [e19]; exact ri) f6 f7 (fun M25 f8 f9 f10 f11 f12 => ⟨gi, ?_⟩)
            have er : M25 r = M16 r := f8 r (by omega) (by omega)
            refine s_copyInto hr8 (z19 i (by omega)) (fun M28 f13 f15 N30 e30 => ?_)
            -- the quotient
            have hqd : cg ((q + 2 : Nat) : Int) (Pt M1 i) (plA (plM (prP 8 (M25 (18 + 1 + c))) (prP 8 (M16 r))) (prP 8 (M25 (18 + 1 + i)))) := by
              have := minv_cg f11
              rw [e19] at this
              exact this
            have hRz : zr ((q + 2 : Nat) : Int) (prP 8 (M25 (18 + 1 + i))) := by
              refine dvp_degm ⟨D1, D2⟩ ?_ (fun l hl => f11.1 l (by omega))
              have a2 : dvp ((q + 2 : Nat) : Int) (prP 8 (M16 r)) (plM (prP 8 (M25 (18 + 1 + c))) (prP 8 (M16 r))) := dvp_Ml dvp_refl
              exact dvp_cg (dvp_S (dvp_cg D4 (cg_symm hqd)) a2) (cg_eq (fun x => by simp only [ev_S, ev_A]; omega))
            have hQD : cg ((q + 2 : Nat) : Int) (Pt M1 i) (plM (prP 8 (M25 (18 + 1 + c))) (prP 8 (M16 r))) := by
              obtain ⟨y, hy⟩ := zr_ev hRz
              refine cg_trans hqd ⟨y, fun x => ?_⟩
              rw [ev_A, hy x]
            -- it is monic
            obtain ⟨t, tt1, tt2⟩ := mt_part hp (cg_trans hQD (cg_eq (b := plM (prP 8 (M16 r)) (prP 8 (M25 (18 + 1 + c)))) (fun x => by rw [ev_M, ev_M, Int.mul_comm]))) (mon_mt hp dim) (mon_mt hp ⟨D1, D2⟩)
            have resz : ∀ x : Int, 0 ≤ x → x < ((q + 2 : Nat) : Int) → ∀ y : Int, 0 ≤ y → y < ((q + 2 : Nat) : Int) → ((q + 2 : Nat) : Int) ∣ x - y → x = y := fun x x0 x1 y y0 y1 hxy => by
              have := nat_mod_eq (p := q + 2) (a := x.toNat) (b := y.toNat) (by omega) (by omega) (by rw [Int.toNat_of_nonneg x0, Int.toNat_of_nonneg y0]; exact hxy)
              omega
            have hQ8 : t < 8 := by omega
            have qz : ∀ l, t < l → l < 8 → M25 (18 + 1 + c) l = 0 := fun l a b => by
              have e1 : (prP 8 (M25 (18 + 1 + c))).1 l = (M25 (18 + 1 + c) l).toInt := pr_lt b
              have e2 := tt1.2 l a
              rw [e1] at e2
              have e3 := f10 l b
              rw [← Int64.toInt_inj]
              exact resz _ e3.1 e3.2 0 (by decide) (by omega) (by rw [Int.sub_zero]; exact e2)
            have qdl : dl (t + 1) (prP 8 (M25 (18 + 1 + c))) := fun l hl => by
              show pr 8 (M25 (18 + 1 + c)) l = 0
              rcases Nat.lt_or_ge l 8 with a | a
              · rw [pr_lt a, qz l (by omega) a]; rfl
              · exact pr_ge a
            have qlead : (M25 (18 + 1 + c) t).toInt = 1 := by
              have e1 : (prP 8 (M25 (18 + 1 + c))).1 t = (M25 (18 + 1 + c) t).toInt := pr_lt hQ8
              have e2 := cg_co hQD (t + dd)
              rw [plM_top qdl D1, D2, Int.mul_one, e1, show t + dd = di by omega] at e2
              have e4 : (Pt M1 i).1 di = 1 := dim.2
              rw [e4] at e2
              have e3 := f10 t hQ8
              refine (resz 1 (by decide) (by omega) _ e3.1 e3.2 e2).symm
            have qmon : mon (prP 8 (M25 (18 + 1 + c))) t := ⟨qdl, by
              show pr 8 (M25 (18 + 1 + c)) t = 1
              rw [pr_lt hQ8]; exact qlead⟩
            -- the new parts
            have nP : ∀ l, l < c → l ≠ i → Pt M28 l = Pt M1 l := fun l a b => by
              unfold Pt
              rw [f13 (19 + l) (by omega), f8 (19 + l) (by omega) (by omega), f16 (19 + l) (by omega)]
            have nR : ∀ l, l < c → l ≠ i → M28 (19 + l) = M1 (19 + l) := fun l a b => by
              rw [f13 (19 + l) (by omega), f8 (19 + l) (by omega) (by omega), f16 (19 + l) (by omega)]
            have nI' : Pt M28 i = prP 8 (M16 r) := by
              unfold Pt
              refine prP_congr (fun l hl => ?_)
              rw [show 19 + i = 18 + 1 + i by omega, f15 l hl, er]
            have nC : Pt M28 c = prP 8 (M25 (18 + 1 + c)) := by
              unfold Pt
              refine prP_congr (fun l hl => ?_)
              rw [show 19 + c = 18 + 1 + c by omega, f13 (18 + 1 + c) (by omega)]
            have hprod : cg ((q + 2 : Nat) : Int) f (plQ (Pt M28) (c + 1)) := cg_trans t4 (Q_two (i := i) (by omega) nP (by
              rw [nI', nC]
              exact cg_trans hQD (cg_eq (fun x => by rw [ev_M, ev_M, Int.mul_comm]))))
            have dPi : dvp ((q + 2 : Nat) : Int) (Pt M1 i) f := dvp_cg (Q_dvp (F := Pt M1) (r := c) (i := i) (by omega)) t4
            have sD : sep ((q + 2 : Nat) : Int) (Pt M28 i) (plS (prP 8 (M a1)) (plX s 0)) := by rw [nI']; exact Or.inl D5
            have sQ : sep ((q + 2 : Nat) : Int) (Pt M28 c) (plS (prP 8 (M a1)) (plX s 0)) := by
              rw [nC]
              refine Or.inr (cop_irr hp (fun z => (mon_mt hp qmon).1 (z t)) (fun y m' hy y1 y2 => ?_))
              have y3 : dvp ((q + 2 : Nat) : Int) y (prP 8 (M16 r)) := dvp_cg (dvp_A (dvp_Ml (dvp_cg (dvp_Mr y1) hQD)) (dvp_Ml y2)) D3
              exact sqf_irr hp hsq (dvp_trans (cg_dvp hQD).2 dPi) hy y1 y3
            rw [nI_1]
            refine ih (i + 1) (c + 1) M28 N30 (by omega) (by omega) (fun a x y => ?_) (fun a x => by rw [e30, zpui_ne x]; exact g2 a x) (fun j hj => by rw [e30, zpui_n2 hj]; exact g3 j hj) ⟨by rw [e30, zpui_eq, nI_1], by omega, fun l hl => ?_, hprod⟩ (fun l hl => ?_) (fun l hl => ?_) (fun l a b => ?_)
            · rw [f13 a (by omega), f8 a (by omega) (by omega), f16 a y]; exact g1 a x y
            · by_cases e : l = i
              · subst e
                rw [nI']
                refine ⟨fun u hu => ?_, dd, hd0, by omega, ⟨D1, D2⟩⟩
                rw [show 19 + l = 18 + 1 + l by omega, f15 u hu, er]
                exact f6 u hu
              · by_cases e2 : l = c
                · subst e2
                  rw [nC]
                  refine ⟨fun u hu => ?_, t, by omega, hQ8, qmon⟩
                  rw [show 19 + l = 18 + 1 + l by omega, f13 (18 + 1 + l) (by omega)]
                  exact f10 u hu
                · rw [nR l (by omega) e, nP l (by omega) e]; exact t3 l (by omega)
            · by_cases e : l = i
              · subst e
                obtain ⟨j, j1, j2⟩ := g5 l (by omega)
                rw [nI']
                exact ⟨j, j1, dvp_trans D4 j2⟩
              · by_cases e2 : l = c
                · subst e2
                  obtain ⟨j, j1, j2⟩ := g5 i (by omega)
                  rw [nC]
                  exact ⟨j, j1, dvp_trans ⟨prP 8 (M16 r), hQD⟩ j2⟩
                · rw [nP l (by omega) e]; exact g5 l (by omega)
            · by_cases e : l = i
              · rw [e]; exact sD
              · rw [nP l (by omega) e]; exact g6 l (by omega)
            · by_cases e2 : l = c
              · rw [e2]; exact sQ
              · rw [nP l (by omega) (by omega)]; exact g7 l a (by omega)
  exact ⟨c0 + 1, key c0 0 c0 M N (by omega) (Nat.le_refl _) (fun _ _ _ => rfl) (fun _ _ => rfl) (fun _ _ => rfl) h (fun l hl => ⟨l, hl, dvp_refl⟩) (fun l hl => absurd hl (Nat.not_lt_zero _)) (fun l a b => by omega)⟩
