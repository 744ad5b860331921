/-! The order of factors; the class's rows of factors. -/
def bef (a b : Pl) : Prop := ∃ k, k < 8 ∧ a.1 k < b.1 k ∧ ∀ j, k < j → j < 8 → a.1 j = b.1 j
theorem bef_asymm {a b : Pl} (h : bef a b) (g : bef b a) : False := by
  obtain ⟨k, k1, k2, k3⟩ := h
  obtain ⟨m, m1, m2, m3⟩ := g
  rcases Nat.lt_trichotomy k m with c | c | c
  · have := k3 m c m1; omega
  · subst c; omega
  · have := m3 k c k1; omega
theorem bef_trans {a b c : Pl} (h : bef a b) (g : bef b c) : bef a c := by
  obtain ⟨k, k1, k2, k3⟩ := h
  obtain ⟨m, m1, m2, m3⟩ := g
  rcases Nat.lt_trichotomy k m with x | x | x
  · exact ⟨m, m1, by rw [k3 m x m1]; exact m2, fun j hj h8 => by rw [k3 j (by omega) h8, m3 j hj h8]⟩
  · subst x; exact ⟨k, k1, by omega, fun j hj h8 => by rw [k3 j hj h8, m3 j hj h8]⟩
  · exact ⟨k, k1, by rw [← m3 k x k1]; exact k2, fun j hj h8 => by rw [k3 j hj h8, m3 j (by omega) h8]⟩
theorem bef_ne {a b : Pl} (h : bef a b) : a ≠ b := fun e => by
  subst e
  exact bef_asymm h h
theorem bef_tri {a b : Pl} (ha : dl 8 a) (hb : dl 8 b) : a = b ∨ bef a b ∨ bef b a := by
  have key : ∀ t, t ≤ 8 → (∀ j, t ≤ j → j < 8 → a.1 j = b.1 j) → a = b ∨ bef a b ∨ bef b a := by
    intro t
    induction t with
    | zero => exact fun _ h => Or.inl (pl_ext (fun i => by
        rcases Nat.lt_or_ge i 8 with c | c
        · exact h i (Nat.zero_le _) c
        · rw [ha i c, hb i c]))
    | succ t ih =>
      intro ht h
      rcases Int.lt_trichotomy (a.1 t) (b.1 t) with c | c | c
      · exact Or.inr (Or.inl ⟨t, by omega, c, fun j hj h8 => h j (by omega) h8⟩)
      · exact ih (by omega) (fun j hj h8 => by
          by_cases e : j = t
          · rw [e]; exact c
          · exact h j (by omega) h8)
      · exact Or.inr (Or.inr ⟨t, by omega, c, fun j hj h8 => (h j (by omega) h8).symm⟩)
  exact key 8 (Nat.le_refl _) (fun j a b => by omega)
def srt (F : Nat → Pl) (r : Nat) : Prop := ∀ i j, i < j → j < r → bef (F i) (F j)
theorem mono_id {r s : Nat} {f : Nat → Nat} (h : ∀ i j, i < j → j < r → f i < f j) (hb : ∀ i, i < r → f i < s) : (∀ i, i < r → i ≤ f i) ∧ ∀ i, i < r → f i + (r - i) ≤ s := by
  constructor
  · intro i
    induction i with
    | zero => exact fun _ => Nat.zero_le _
    | succ i ih =>
      intro hi
      have := ih (by omega)
      have := h i (i + 1) (by omega) hi
      omega
  · have key : ∀ d i, i + d + 1 = r → f i + (r - i) ≤ s := by
      intro d
      induction d with
      | zero => intro i hi; have := hb i (by omega); omega
      | succ d ih =>
        intro i hi
        have := ih (i + 1) (by omega)
        have := h i (i + 1) (by omega) (by omega)
        omega
    exact fun i hi => key (r - i - 1) i (by omega)
theorem srt_uniq {F G : Nat → Pl} {r s : Nat} (hF : srt F r) (hG : srt G s) (h1 : ∀ i, i < r → ∃ j, j < s ∧ F i = G j) (h2 : ∀ j, j < s → ∃ i, i < r ∧ G j = F i) : r = s ∧ ∀ i, i < r → F i = G i := by
  have half : ∀ (F G : Nat → Pl) (r s : Nat), srt F r → srt G s → (∀ i, i < r → ∃ j, j < s ∧ F i = G j) → ∃ f : Nat → Nat, (∀ i, i < r → f i < s ∧ F i = G (f i)) ∧ ∀ i j, i < j → j < r → f i < f j := fun F G r s hF hG h1 => by
    let f : Nat → Nat := fun i => if h : i < r then (h1 i h).choose else 0
    have hf : ∀ i, i < r → f i < s ∧ F i = G (f i) := fun i hi => by
      have e : f i = (h1 i hi).choose := dif_pos hi
      rw [e]
      exact (h1 i hi).choose_spec
    refine ⟨f, hf, fun i j hij hj => ?_⟩
    obtain ⟨a1, a2⟩ := hf i (by omega)
    obtain ⟨b1, b2⟩ := hf j hj
    have hb := hF i j hij hj
    rw [a2, b2] at hb
    rcases Nat.lt_trichotomy (f i) (f j) with c | c | c
    · exact c
    · rw [c] at hb; exact (bef_asymm hb hb).elim
    · exact (bef_asymm hb (hG _ _ c a1)).elim
  obtain ⟨f, f1, f2⟩ := half F G r s hF hG h1
  obtain ⟨g, g1, g2⟩ := half G F s r hG hF h2
  have a := mono_id f2 (fun i hi => (f1 i hi).1)
  have b := mono_id g2 (fun i hi => (g1 i hi).1)
  have hrs : r = s := by
    rcases Nat.eq_zero_or_pos r with c | c
    · rcases Nat.eq_zero_or_pos s with d | d
      · omega
      · have := b.2 0 d; omega
    · have := a.2 0 c
      have := b.2 0 (by omega)
      omega
  refine ⟨hrs, fun i hi => ?_⟩
  have x := a.1 i hi
  have y := a.2 i hi
  have : f i = i := by omega
  have z := (f1 i hi).2
  rw [this] at z
  exact z
theorem bef_deg {a b : Pl} {d e : Nat} (hd : d < e) (he : e < 8) (ha : dl (d + 1) a) (hb : dl (e + 1) b) (hp : 0 < b.1 e) : bef a b :=
  ⟨e, he, by rw [ha e (by omega)]; exact hp, fun j hj _ => by rw [ha j (by omega), hb j (by omega)]⟩
theorem s_standsBefore {P : Int32 → Prop} {a0 a1 d0 d1 : Nat} {M : zM} (z0 : zlong a0 = 8) (z1 : zlong a1 = 8) (e0 : d0 < 8) (e1 : d1 < 8) (p0 : 0 < (prP 8 (M a0)).1 d0) (p1 : 0 < (prP 8 (M a1)).1 d1) (h0 : dl (d0 + 1) (prP 8 (M a0))) (h1 : dl (d1 + 1) (prP 8 (M a1))) (yes : bef (prP 8 (M a0)) (prP 8 (M a1)) → P 1) (no : ¬ bef (prP 8 (M a0)) (prP 8 (M a1)) → P 0) : w_Fa_standsBefore a0 a1 M P := by
  refine s_Ro_degreeOf z1 (by decide) (by decide) (s_Ro_degreeOf z0 (by decide) (by decide) (fun x7 e7 => ?_))
  rw [row_zdg e0 (by omega) h0, row_zdg e1 (by omega) h1, pk_m1, pk_m1] at e7
  have J0 : ∀ v : Int32, v ≤ 0 → ¬ bef (prP 8 (M a0)) (prP 8 (M a1)) → J_Fa_standsBefore_37 P v M := fun v hv hb => ⟨fun _ => ⟨rfl, no hb⟩, fun c => absurd hv c⟩
  have J1 : ∀ v : Int32, ¬ v ≤ 0 → bef (prP 8 (M a0)) (prP 8 (M a1)) → J_Fa_standsBefore_37 P v M := fun v hv hb => ⟨fun c => absurd c hv, fun _ => ⟨rfl, yes hb⟩⟩
  have key : ∀ t, t ≤ 8 → (∀ j, t ≤ j → j < 8 → (prP 8 (M a0)).1 j = (prP 8 (M a1)).1 j) → L_Fa_standsBefore_13 P a0 a1 M (t + 1) 0 (nI t + (-1)) := by
    intro t
    induction t with
    | zero =>
      intro _ h
      exact ⟨fun _ => J0 0 (by decide) (fun ⟨k, k1, k2, _⟩ => by have := h k (Nat.zero_le _) k1; omega), fun c => absurd (by decide) c⟩
    | succ t ih =>
      intro ht h
      rw [pk_m1]
      have i0 : vp_in (nI t) (zlong a0) := by rw [z0]; exact vp_in_nI (by omega) (by decide)
      have i1 : vp_in (nI t) (zlong a1) := by rw [z1]; exact vp_in_nI (by omega) (by decide)
      refine ⟨fun c => absurd c (nI_pos (by omega)), fun _ => ⟨fun c => absurd rfl c, fun _ => ⟨i1, i0, ?_⟩⟩⟩
      rw [nI_clamp (by omega)]
      have v0 : (prP 8 (M a0)).1 t = (M a0 t).toInt := pr_lt (by omega)
      have v1 : (prP 8 (M a1)).1 t = (M a1 t).toInt := pr_lt (by omega)
      refine ⟨fun c => ⟨fun d => ?_, fun d => ?_⟩, fun c => ?_⟩
      · have c' := Int64.le_iff_toInt_le.mp c
        have d' : (M a1 t).toInt ≠ (M a0 t).toInt := fun x => d (Int64.toInt_inj.mp x)
        have hb : bef (prP 8 (M a0)) (prP 8 (M a1)) := ⟨t, by omega, by omega, fun j hj h8 => h j (by omega) h8⟩
        exact ⟨fun _ => J1 1 (by decide) hb, fun _ => ⟨fun _ => J1 1 (by decide) hb, fun x => absurd x (by decide)⟩⟩
      · refine ih (by omega) (fun j hj h8 => ?_)
        by_cases e : j = t
        · rw [e, v0, v1, d]
        · exact h j (by omega) h8
      · have c' : ¬ (M a0 t).toInt ≤ (M a1 t).toInt := fun x => c (Int64.le_iff_toInt_le.mpr x)
        have hb : bef (prP 8 (M a1)) (prP 8 (M a0)) := ⟨t, by omega, by omega, fun j hj h8 => (h j (by omega) h8).symm⟩
        exact ⟨fun _ => J0 (-1) (by decide) (fun x => bef_asymm x hb), fun _ => ⟨fun _ => J0 (-1) (by decide) (fun x => bef_asymm x hb), fun x => absurd x (by decide)⟩⟩
  rcases Nat.lt_trichotomy d0 d1 with c | c | c
  · rw [e7, pk_sub (by omega)]
    have hb := bef_deg c e1 h0 h1 p1
    have n0 := nI_nle (n := d1 - d0) (by omega) (by omega)
    exact ⟨1, ⟨fun _ => J1 _ n0 hb, fun _ => ⟨fun _ => J1 _ n0 hb, fun x => absurd x (nI_ne0 (by omega) (by omega))⟩⟩⟩
  · rw [e7, c, pk_sub (Nat.le_refl _), Nat.sub_self]
    exact ⟨9, key 8 (Nat.le_refl _) (fun j a b => by omega)⟩
  · have hlt := pk_sneg (a := d1) (b := d0) (by omega) c
    rw [← e7] at hlt
    have hb := bef_deg c e0 h1 h0 p0
    have n0 : x7 ≤ 0 := Int32.le_of_lt hlt
    have n1 : ¬ x7 = 0 := fun x => by rw [x] at hlt; exact absurd hlt (by decide)
    exact ⟨1, ⟨fun _ => J0 _ n0 (fun x => bef_asymm x hb), fun _ => ⟨fun _ => J0 _ n0 (fun x => bef_asymm x hb), fun x => absurd x n1⟩⟩⟩
