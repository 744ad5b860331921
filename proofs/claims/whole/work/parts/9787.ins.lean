/-! The class's insert. -/
def Fr (a0 : Nat) (M : zM) (i : Nat) : Pl := prP 8 (M (a0 + 2 + i))
theorem zfa_l {a0 : Nat} (h : zfac a0) : (∀ i, i < 7 → zlong (a0 + 1 + 1 + i) = 8) ∧ zgn (a0 + 1) = 7 ∧ zint (a0 + 9) = 7 := by
  rcases h with e | e <;> subst e <;> decide
theorem s_insert {K : zM → zN → Prop} {a0 a1 r : Nat} {often : Int32} {M : zM} {N : zN} {T : Pl → Int32 → Prop} (ha : zfac a0) (z1 : zlong a1 = 8) (na : a1 < 79) (hr : r < 7) (hN : N a0 2 = nI r) (hpos : ∀ f t, T f t → ∃ d, d < 8 ∧ 0 < f.1 d ∧ dl (d + 1) f) (hs : srt (Fr a0 M) r) (hT : ∀ i, i < r → T (Fr a0 M i) (N (a0 + 9) i)) (hg : T (prP 8 (M a1)) often) (hne : ∀ i, i < r → Fr a0 M i ≠ prP 8 (M a1))
    (k : ∀ (M' : zM) (N' : zN), (∀ a, ¬ (a0 + 2 ≤ a ∧ a < a0 + 9) → M' a = M a) → (∀ a, a ≠ a0 → a ≠ a0 + 9 → N' a = N a) → (∀ j, j ≠ 2 → N' a0 j = N a0 j) → N' a0 2 = nI (r + 1) → srt (Fr a0 M') (r + 1) → (∀ i, i < r + 1 → T (Fr a0 M' i) (N' (a0 + 9) i)) → (∀ f, (∃ i, i < r + 1 ∧ f = Fr a0 M' i) ↔ (∃ i, i < r ∧ f = Fr a0 M i) ∨ f = prP 8 (M a1)) → K M' N') : w_Fa_insert a0 a1 often M N K := by
  obtain ⟨zl, zg, zi⟩ := zfa_l ha
  have ha8 : a0 = 79 ∨ a0 = 89 := ha
  obtain ⟨dg, dg8, dgp, dgl⟩ := hpos _ _ hg
  refine ⟨ha, fun _ => ⟨ha, fun x1 e1 => ?_⟩, fun c => absurd (by rw [hN]; exact nI_lt hr (by decide)) c⟩
  rw [hN] at e1
  rw [e1]
  -- the end: the row is put to place i
  have fin : ∀ i (M1 : zM) (N1 : zN), i ≤ r → (∀ a, ¬ (a0 + 2 ≤ a ∧ a < a0 + 9) → M1 a = M a) → (∀ a, a ≠ a0 + 9 → N1 a = N a) → (∀ j, j < i → Fr a0 M1 j = Fr a0 M j ∧ N1 (a0 + 9) j = N (a0 + 9) j) → (∀ j, i ≤ j → j < r → Fr a0 M1 (j + 1) = Fr a0 M j ∧ N1 (a0 + 9) (j + 1) = N (a0 + 9) j) → (∀ j, j < i → bef (Fr a0 M j) (prP 8 (M a1))) → (∀ j, i ≤ j → j < r → bef (prP 8 (M a1)) (Fr a0 M j)) → J_Fa_insert_71 K a0 a1 often (nI i) M1 N1 := by
    intro i M1 N1 hi g1 g2 g3 g4 g5 g6
    have iz : vp_in (nI i) (zgn (a0 + 1)) := by rw [zg]; exact vp_in_nI (by omega) (by decide)
    refine ⟨ha, iz, ?_⟩
    rw [nI_clamp (by omega)]
    refine s_copyInto z1 (zl i (by omega)) (fun M10 w1 w2 => ⟨ha, by rw [zi]; exact vp_in_nI (by omega) (by decide), fun N12 e12 => ⟨ha, ha, fun N13 e13 => ?_⟩⟩)
    rw [show a0 + 1 + 1 + i = a0 + 2 + i by omega] at w1 w2
    have m1 : M1 a1 = M a1 := g1 a1 (by omega)
    rw [m1] at w2
    have Fi : Fr a0 M10 i = prP 8 (M a1) := prP_congr w2
    have Fj : ∀ j, j ≠ i → Fr a0 M10 j = Fr a0 M1 j := fun j hj => by
      show prP 8 (M10 (a0 + 2 + j)) = prP 8 (M1 (a0 + 2 + j))
      rw [w1 _ (by omega)]
    have n9i : N13 (a0 + 9) i = often := by rw [e13, zpui_ne (by omega), e12, zpui_eq]
    have n9j : ∀ j, j ≠ i → N13 (a0 + 9) j = N1 (a0 + 9) j := fun j hj => by rw [e13, zpui_ne (by omega), e12, zpui_n2 hj]
    -- the three kinds of places
    have cls : ∀ j, j < r + 1 → (j < i ∧ Fr a0 M10 j = Fr a0 M j ∧ N13 (a0 + 9) j = N (a0 + 9) j) ∨ (j = i) ∨ (∃ t, j = t + 1 ∧ i ≤ t ∧ t < r ∧ Fr a0 M10 j = Fr a0 M t ∧ N13 (a0 + 9) j = N (a0 + 9) t) := fun j hj => by
      rcases Nat.lt_trichotomy j i with c | c | c
      · exact Or.inl ⟨c, by rw [Fj j (by omega)]; exact (g3 j c).1, by rw [n9j j (by omega)]; exact (g3 j c).2⟩
      · exact Or.inr (Or.inl c)
      · obtain ⟨t, rfl⟩ : ∃ t, j = t + 1 := ⟨j - 1, by omega⟩
        exact Or.inr (Or.inr ⟨t, rfl, by omega, by omega, by rw [Fj _ (by omega)]; exact (g4 t (by omega) (by omega)).1, by rw [n9j _ (by omega)]; exact (g4 t (by omega) (by omega)).2⟩)
    refine k M10 N13 (fun a x => by rw [w1 a (by omega)]; exact g1 a x) (fun a x y => by rw [e13, zpui_ne x, e12, zpui_ne y]; exact g2 a y) (fun j hj => by rw [e13, zpui_n2 hj, e12, zpui_ne (by omega), g2 a0 (by omega)]) ?_ (fun j l hjl hl => ?_) (fun j hj => ?_) (fun f => ⟨fun ⟨j, hj, e⟩ => ?_, fun h => ?_⟩)
    · rw [e13, zpui_eq, e12, zpui_ne (by omega), g2 a0 (by omega), hN, nI_1]
    · rcases cls j (by omega) with ⟨c1, c2, _⟩ | c | ⟨t, t1, t2, t3, t4, _⟩
      · rw [c2]
        rcases cls l hl with ⟨d1, d2, _⟩ | d | ⟨u, u1, u2, u3, u4, _⟩
        · rw [d2]; exact hs j l hjl (by omega)
        · rw [d, Fi]; exact g5 j c1
        · rw [u4]; exact bef_trans (g5 j c1) (g6 u u2 u3)
      · subst c
        rw [Fi]
        rcases cls l hl with ⟨d1, d2, _⟩ | d | ⟨u, u1, u2, u3, u4, _⟩
        · omega
        · omega
        · rw [u4]; exact g6 u u2 u3
      · rw [t4]
        rcases cls l hl with ⟨d1, d2, _⟩ | d | ⟨u, u1, u2, u3, u4, _⟩
        · omega
        · omega
        · rw [u4]; exact hs t u (by omega) u3
    · rcases cls j hj with ⟨c1, c2, c3⟩ | c | ⟨t, t1, t2, t3, t4, t5⟩
      · rw [c2, c3]; exact hT j (by omega)
      · subst c; rw [Fi, n9i]; exact hg
      · rw [t4, t5]; exact hT t t3
    · rcases cls j hj with ⟨c1, c2, _⟩ | c | ⟨t, t1, t2, t3, t4, _⟩
      · exact Or.inl ⟨j, by omega, by rw [e, c2]⟩
      · subst c; exact Or.inr (by rw [e, Fi])
      · exact Or.inl ⟨t, t3, by rw [e, t4]⟩
    · rcases h with ⟨j, hj, e⟩ | e
      · by_cases c : j < i
        · exact ⟨j, by omega, by rw [e, Fj j (by omega), (g3 j c).1]⟩
        · exact ⟨j + 1, by omega, by rw [e, Fj _ (by omega), (g4 j (by omega) hj).1]⟩
      · exact ⟨i, by omega, by rw [e, Fi]⟩
  have key : ∀ i (M1 : zM) (N1 : zN), i ≤ r → (∀ a, ¬ (a0 + 2 ≤ a ∧ a < a0 + 9) → M1 a = M a) → (∀ a, a ≠ a0 + 9 → N1 a = N a) → (∀ j, j < i → Fr a0 M1 j = Fr a0 M j ∧ N1 (a0 + 9) j = N (a0 + 9) j) → (∀ j, i ≤ j → j < r → Fr a0 M1 (j + 1) = Fr a0 M j ∧ N1 (a0 + 9) (j + 1) = N (a0 + 9) j) → (∀ j, i ≤ j → j < r → bef (prP 8 (M a1)) (Fr a0 M j)) → L_Fa_insert_15 K a0 a1 often (i + 1) (nI i) M1 N1 := by
    intro i
    induction i with
    | zero =>
      intro M1 N1 hi g1 g2 g3 g4 g5
      exact ⟨fun _ => fin 0 M1 N1 (Nat.zero_le _) g1 g2 g3 g4 (fun j hj => absurd hj (Nat.not_lt_zero _)) g5, fun c => absurd (by decide) c⟩
    | succ i ih =>
      intro M1 N1 hi g1 g2 g3 g4 g5
      have iz : ∀ j, j < 7 → vp_in (nI j) (zgn (a0 + 1)) := fun j hj => by rw [zg]; exact vp_in_nI hj (by decide)
      have ii : ∀ j, j < 7 → vp_in (nI j) (zint (a0 + 9)) := fun j hj => by rw [zi]; exact vp_in_nI hj (by decide)
      refine ⟨fun c => absurd c (nI_nle (by omega) (by omega)), fun _ => ?_⟩
      rw [nI_pred, nI_clamp (by omega), nI_clamp (by omega), pk_m1]
      have m1 : M1 a1 = M a1 := g1 a1 (by omega)
      have mi : prP 8 (M1 (a0 + 1 + 1 + i)) = Fr a0 M i := by
        rw [show a0 + 1 + 1 + i = a0 + 2 + i by omega]
        exact (g3 i (by omega)).1
      obtain ⟨di, di8, dip, dil⟩ := hpos _ _ (hT i (by omega))
      refine ⟨ha, iz i (by omega), s_standsBefore (d0 := dg) (d1 := di) z1 (zl i (by omega)) dg8 di8 (by rw [m1]; exact dgp) (by rw [mi]; exact dip) (by rw [m1]; exact dgl) (by rw [mi]; exact dil) (fun hb => ⟨fun c => absurd c (by decide), fun _ => ⟨ha, iz i (by omega), ha, iz (i + 1) (by omega), ?_⟩⟩) (fun hb => ⟨fun _ => ?_, fun c => absurd rfl c⟩)⟩
      · rw [m1, mi] at hb
        refine s_copyInto (zl i (by omega)) (zl (i + 1) (by omega)) (fun M6 w1 w2 => ⟨ha, ha, ii i (by omega), ii (i + 1) (by omega), fun N8 e8 => ?_⟩)
        rw [show a0 + 1 + 1 + (i + 1) = a0 + 2 + (i + 1) by omega] at w1 w2
        have Fi : Fr a0 M6 (i + 1) = Fr a0 M i := by rw [← mi]; exact prP_congr w2
        have Fj : ∀ j, j ≠ i + 1 → Fr a0 M6 j = Fr a0 M1 j := fun j hj => by
          show prP 8 (M6 (a0 + 2 + j)) = prP 8 (M1 (a0 + 2 + j))
          rw [w1 _ (by omega)]
        refine ih M6 N8 (by omega) (fun a x => by rw [w1 a (by omega)]; exact g1 a x) (fun a x => by rw [e8, zpui_ne x]; exact g2 a x) (fun j hj => ⟨by rw [Fj j (by omega)]; exact (g3 j (by omega)).1, by rw [e8, zpui_n2 (by omega)]; exact (g3 j (by omega)).2⟩) (fun j a b => ?_) (fun j a b => ?_)
        · by_cases e : j = i
          · rw [e]; exact ⟨Fi, by rw [e8, zpui_eq]; exact (g3 i (by omega)).2⟩
          · exact ⟨by rw [Fj _ (by omega)]; exact (g4 j (by omega) b).1, by rw [e8, zpui_n2 (by omega)]; exact (g4 j (by omega) b).2⟩
        · by_cases e : j = i
          · rw [e]; exact hb
          · exact g5 j (by omega) b
      · rw [m1, mi] at hb
        have hb2 : bef (Fr a0 M i) (prP 8 (M a1)) := by
          rcases bef_tri (prP_dl (n := 8) (f := M (a0 + 2 + i))) (prP_dl (n := 8) (f := M a1)) with c | c | c
          · exact absurd c (hne i (by omega))
          · exact c
          · exact absurd c hb
        refine fin (i + 1) M1 N1 hi g1 g2 g3 g4 (fun j hj => ?_) g5
        by_cases e : j = i
        · rw [e]; exact hb2
        · exact bef_trans (hs j i (by omega) (by omega)) hb2
  exact ⟨r + 1, key r M N (Nat.le_refl _) (fun _ _ => rfl) (fun _ _ => rfl) (fun _ _ => ⟨rfl, rfl⟩) (fun j a b => by omega) (fun j a b => by omega)⟩
