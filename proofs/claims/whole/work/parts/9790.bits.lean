/-! Sets of parts as bits; degreeOfSet. -/
theorem smod_i : ∀ i, i < 8 → ((nI i).toBitVec.smod 32).toNat = i := by decide
theorem and31 {i : Nat} (hi : i < 8) : nI i &&& (31 : Int32) = nI i := by
  rw [pk_andN (by omega) 5 (by decide), Nat.mod_eq_of_lt (by omega)]
theorem bit_i {S i : Nat} (hS : S < 2 ^ 31) (hi : i < 8) : ((nI S >>> (nI i &&& (31 : Int32))) &&& (1 : Int32)) = (1 : Int32) ↔ dig 2 S i = 1 := by
  rw [and31 hi, pk_shrN hS _ i (smod_i i hi)]
  have h1 : S / 2 ^ i ≤ S := Nat.div_le_self _ _
  rw [pk_andN (by omega) 1 (by decide), show (1 : Int32) = nI 1 from rfl, nI_eq (by have := Nat.mod_lt (S / 2 ^ i) (show 0 < 2 ^ 1 by decide); omega) (by decide)]
  exact Iff.rfl
theorem shl_c {c : Nat} (hc : c < 8) : (1 : Int32) <<< (nI c &&& (31 : Int32)) = nI (2 ^ c) := by
  rw [and31 hc, show (1 : Int32) = nI 1 from rfl, pk_shlN _ c (smod_i c hc) ?_, Nat.one_mul]
  have : 2 ^ c ≤ 2 ^ 7 := Nat.pow_le_pow_right (by decide) (by omega)
  omega
theorem nI_and {a b : Nat} (ha : a < 128) (hb : b < 128) : nI a &&& nI b = nI (a &&& b) := by
  have h : a &&& b < 2 ^ 7 := Nat.and_lt_two_pow _ hb
  rw [← Int32.toBitVec_inj]
  refine BitVec.eq_of_toNat_eq ?_
  rw [pk_tn (by omega)]
  show ((nI a).toBitVec &&& (nI b).toBitVec).toNat = _
  rw [BitVec.toNat_and, pk_tn (by omega), pk_tn (by omega)]
theorem nI_or {a b : Nat} (ha : a < 128) (hb : b < 128) : nI a ||| nI b = nI (a ||| b) := by
  have h : a ||| b < 2 ^ 7 := Nat.or_lt_two_pow ha hb
  rw [← Int32.toBitVec_inj]
  refine BitVec.eq_of_toNat_eq ?_
  rw [pk_tn (by omega)]
  show ((nI a).toBitVec ||| (nI b).toBitVec).toNat = _
  rw [BitVec.toNat_or, pk_tn (by omega), pk_tn (by omega)]
theorem dig_tb {S i : Nat} : S.testBit i = true ↔ dig 2 S i = 1 := by
  rw [Nat.testBit_eq_decide_div_mod_eq, decide_eq_true_iff]
  exact Iff.rfl
theorem and_0 {a b : Nat} (ha : a < 128) (hb : b < 128) : nI a &&& nI b = 0 ↔ ∀ i, ¬ (dig 2 a i = 1 ∧ dig 2 b i = 1) := by
  have h : a &&& b < 2 ^ 7 := Nat.and_lt_two_pow _ hb
  rw [nI_and ha hb, show (0 : Int32) = nI 0 from rfl, nI_eq (by omega) (by decide)]
  constructor
  · intro e i ⟨h1, h2⟩
    have := congrArg (fun x => Nat.testBit x i) e
    simp only [Nat.testBit_and, Nat.zero_testBit] at this
    rw [dig_tb.mpr h1, dig_tb.mpr h2] at this
    exact absurd this (by decide)
  · intro e
    refine Nat.eq_of_testBit_eq (fun i => ?_)
    rw [Nat.testBit_and, Nat.zero_testBit]
    cases ha : a.testBit i
    · rfl
    · cases hb : b.testBit i
      · rfl
      · exact absurd ⟨dig_tb.mp ha, dig_tb.mp hb⟩ (e i)
theorem or_i {a b i : Nat} : dig 2 (a ||| b) i = 1 ↔ dig 2 a i = 1 ∨ dig 2 b i = 1 := by
  rw [← dig_tb, ← dig_tb, ← dig_tb, Nat.testBit_or, Bool.or_eq_true]
/-- the set S -/
def bS (S : Nat) : Nat → Bool := fun i => decide (dig 2 S i = 1)
theorem bS_t {S i : Nat} : bS S i = true ↔ dig 2 S i = 1 := decide_eq_true_iff
theorem dB_le {b : Nat → Bool} {dg : Nat → Nat} : ∀ {c : Nat}, dB b dg c ≤ dsum dg c
  | 0 => Nat.le_refl _
  | c + 1 => by
    have ih := dB_le (b := b) (dg := dg) (c := c)
    show (if b c then dB b dg c + dg c else dB b dg c) ≤ dsum dg c + dg c
    split <;> omega
theorem dB_mono {b : Nat → Bool} {dg : Nat → Nat} {j : Nat} : ∀ {c : Nat}, j ≤ c → dB b dg j ≤ dB b dg c
  | 0, h => by
    have : j = 0 := by omega
    rw [this]; exact Nat.le_refl _
  | c + 1, h => by
    by_cases e : j = c + 1
    · rw [e]; exact Nat.le_refl _
    · refine Nat.le_trans (dB_mono (c := c) (by omega)) ?_
      show _ ≤ (if b c then dB b dg c + dg c else dB b dg c)
      split <;> omega
theorem s_degreeOfSet {K : Int32 → Prop} {S c : Nat} {dg : Nat → Nat} {M : zM} {N : zN} (hS : S < 128) (hc : c < 8) (hN : N 17 1 = nI c) (hA : ∀ i, i < c → mon (Pt M i) (dg i)) (hn : dsum dg c < 8) (k : K (nI (dB (bS S) dg c))) : w_Sp_degreeOfSet (nI S) M N K := by
  have key : ∀ u i, i + u = c → L_Sp_degreeOfSet_4 K (nI S) M N (u + 1) (nI (dB (bS S) dg i)) (nI i) := by
    intro u
    induction u with
    | zero =>
      intro i hi
      have : i = c := by omega
      subst this
      exact ⟨fun _ => k, fun e => absurd (by rw [hN]; exact Int32.le_refl _) e⟩
    | succ u ih =>
      intro i hi
      have hdi := dsum_ge (dg := dg) (show i < c by omega)
      refine ⟨fun e => ?_, fun _ => ⟨fun e => ?_, fun e => ⟨vp_in_nI (N := 8) (by omega) (by decide), ?_⟩⟩⟩
      · rw [hN] at e
        exact absurd e (nI_ge (by omega) (by omega))
      · have hb : ¬ bS S i = true := fun x => e ((bit_i (by omega) (by omega)).mpr (bS_t.mp x))
        have := ih (i + 1) (by omega)
        rw [dB_f hb] at this
        rw [nI_1]
        exact this
      · have hb : bS S i = true := bS_t.mpr ((bit_i (by omega) (by omega)).mp e)
        rw [nI_clamp (by omega)]
        refine s_Ro_degreeOf (z19 i (by omega)) (by decide) (by decide) (fun x4 e4 => ?_)
        have hm : zdg (M (18 + 1 + i)) 8 = dg i + 1 := by
          rw [show 18 + 1 + i = 19 + i by omega]
          exact mon_zdg (by omega) (hA i (by omega))
        rw [hm, pk_m1, nI_add] at e4
        have := ih (i + 1) (by omega)
        rw [dB_t hb] at this
        rw [nI_1, e4]
        exact this
  exact ⟨c + 1, key c 0 (by omega)⟩
