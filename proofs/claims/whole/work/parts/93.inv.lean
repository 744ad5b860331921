/-! Numbers modulo p in both programs; inverses. -/
theorem zrm_q {a p : Int64} (hp : 0 < p.toInt) (ha : a.toInt.natAbs < 2 ^ 62) : ∃ q : Int, (a - a / p * p).toInt = a.toInt - q * p.toInt ∧ -p.toInt < a.toInt - q * p.toInt ∧ a.toInt - q * p.toInt < p.toInt ∧ (0 ≤ a.toInt → 0 ≤ a.toInt - q * p.toInt) := by
  have hd : (a / p).toInt = a.toInt.tdiv p.toInt := zx_div ha
  have hb : (a.toInt.tdiv p.toInt * p.toInt).natAbs ≤ a.toInt.natAbs := by
    rw [Int.natAbs_mul, Int.natAbs_tdiv]
    exact Nat.div_mul_le_self _ _
  have hm : (a / p * p).toInt = a.toInt.tdiv p.toInt * p.toInt := by
    rw [zx_mul (by rw [hd]; omega) (by rw [hd]; omega), hd]
  have hs : (a - a / p * p).toInt = a.toInt - a.toInt.tdiv p.toInt * p.toInt := by
    rw [zx_sub (by rw [hm]; omega) (by rw [hm]; omega), hm]
  have ht : a.toInt - a.toInt.tdiv p.toInt * p.toInt = a.toInt.tmod p.toInt := by
    have := Int.mul_tdiv_add_tmod a.toInt p.toInt
    rw [Int.mul_comm] at this
    omega
  have hn : (a.toInt.tmod p.toInt).natAbs < p.toInt.natAbs := by
    rw [Int.natAbs_tmod]
    exact Nat.mod_lt _ (by omega)
  refine ⟨_, hs, by rw [ht]; omega, by rw [ht]; omega, fun h0 => ?_⟩
  rw [ht]
  exact Int.tmod_nonneg _ h0
theorem zmod_of {a p q r : Int} (h0 : 0 ≤ r) (h1 : r < p) (e : r = a - q * p) : r = a % p := by
  have : a = r + p * q := by rw [Int.mul_comm p q]; omega
  rw [this, Int.add_mul_emod_self_left, Int.emod_eq_of_lt h0 h1]
theorem zrm_e {a p : Int64} (hp : 0 < p.toInt) (ha : a.toInt.natAbs < 2 ^ 62) (h0 : 0 ≤ a.toInt) : (a - a / p * p).toInt = a.toInt % p.toInt := by
  obtain ⟨q, h1, h2, h3, h4⟩ := zrm_q hp ha
  rw [h1]
  exact zmod_of (h4 h0) h3 rfl
theorem zrs_e {a p : Int64} (hp : 0 < p.toInt) (ha : a.toInt.natAbs < 2 ^ 62) : (zrs a p).toInt = a.toInt % p.toInt := by
  obtain ⟨q, h1, h2, h3, h4⟩ := zrm_q hp ha
  unfold zrs
  by_cases c : (0 : Int64) ≤ a - a / p * p
  · rw [if_pos c, h1]
    rw [Int64.le_iff_toInt_le, h1] at c
    exact zmod_of c h3 rfl
  · rw [if_neg c]
    rw [Int64.le_iff_toInt_le, h1] at c
    have c' : ¬ (0 : Int) ≤ a.toInt - q * p.toInt := c
    have := p.toInt_lt
    rw [zx_add (by rw [h1]; omega) (by rw [h1]; omega), h1]
    refine zmod_of (q := q - 1) (by omega) (by omega) ?_
    rw [Int.sub_mul]
    omega
theorem mod_dvd (a p : Int) : p ∣ a % p - a := by
  have : p ∣ a - a % p := Int.dvd_self_sub_emod
  rw [show a % p - a = -(a - a % p) by omega]
  exact Int.dvd_neg.mpr this
theorem inv_even {p v w v' c : Int} {e f : Nat} (h : p ∣ v' - v * v) (he : e = 2 * f) (g : p ∣ w * v ^ e - c) : p ∣ w * v' ^ f - c := by
  have h1 := pow_cong h f
  have e1 : (v * v) ^ f = v ^ e := by
    rw [he, Int.pow_mul, show v ^ 2 = v * v by rw [Int.pow_succ, Int.pow_succ, Int.pow_zero, Int.one_mul]]
  rw [e1] at h1
  obtain ⟨y, hy⟩ := h1
  obtain ⟨z, hz⟩ := g
  exact ⟨w * y + z, by grind⟩
theorem inv_odd {p v w v' w' c : Int} {e f : Nat} (h : p ∣ v' - v * v) (h' : p ∣ w' - w * v) (he : e = 2 * f + 1) (g : p ∣ w * v ^ e - c) : p ∣ w' * v' ^ f - c := by
  have g2 : p ∣ w' * v ^ (2 * f) - c := by
    obtain ⟨y, hy⟩ := h'
    obtain ⟨z, hz⟩ := g
    rw [he, Int.pow_succ] at hz
    exact ⟨y * v ^ (2 * f) + z, by grind⟩
  exact inv_even h rfl g2
theorem lN_and {e : Nat} (h : e < 2 ^ 63) : (lN e &&& 1 = (1 : Int64)) ↔ e % 2 = 1 := by
  rw [← Int64.toBitVec_inj, ← BitVec.toNat_inj, Int64.toBitVec_and, BitVec.toNat_and]
  have e1 : (lN e).toBitVec.toNat = e := by
    show (BitVec.ofNat 64 e).toNat = e
    rw [BitVec.toNat_ofNat]
    omega
  rw [e1]
  show e &&& 1 = 1 ↔ _
  rw [Nat.and_one_is_mod]
theorem lN_shr {e : Nat} (h : e < 2 ^ 63) : lN e >>> ((1 : Int32).toInt64 &&& 63) = lN (e / 2) := by
  have e0 : ((1 : Int32).toInt64 &&& 63 : Int64) = 1 := by decide
  rw [e0, ← Int64.toInt_inj, pk_lT (by omega)]
  have e1 : (lN e >>> (1 : Int64)).toInt = (lN e).toInt / 2 := by
    show (((lN e).toBitVec).sshiftRight' ((1 : Int64).toBitVec.smod 64)).toInt = _
    rw [show ((1 : Int64).toBitVec.smod 64) = 1#64 by decide, BitVec.toInt_sshiftRight', show (1#64).toNat = 1 by decide, Int.shiftRight_eq_div_pow]
    rfl
  rw [e1, pk_lT h]
  omega
theorem s_inverseOf {K : Int64 → Prop} {a : Int64} {q : Nat} (hb : q + 2 < 2 ^ 31) (h0 : 0 ≤ a.toInt) (h1 : a.toInt < (q + 2 : Nat)) (k : ∀ r : Int64, 0 ≤ r.toInt → r.toInt < (q + 2 : Nat) → ((q + 2 : Nat) : Int) ∣ r.toInt - a.toInt ^ q → K r) : w_Re_inverseOf a (lN (q + 2)) K := by
  have hpi : (lN (q + 2)).toInt = ((q + 2 : Nat) : Int) := pk_lT (by omega)
  have hp0 : 0 < (lN (q + 2)).toInt := by rw [hpi]; omega
  have hpl : (0 : Int64) < lN (q + 2) := by rw [Int64.lt_iff_toInt_lt, hpi]; show (0 : Int) < _; omega
  have hpn : ¬ lN (q + 2) = 0 := fun e => by rw [e] at hpl; exact absurd hpl (by decide)
  have mb : ∀ x y : Int64, 0 ≤ x.toInt → x.toInt < (q + 2 : Nat) → 0 ≤ y.toInt → y.toInt < (q + 2 : Nat) → ((x * y) - (x * y) / lN (q + 2) * lN (q + 2)).toInt = (x.toInt * y.toInt) % (q + 2 : Nat) := fun x y a1 a2 b1 b2 => by
    have c1 : 0 ≤ x.toInt * y.toInt := Int.mul_nonneg a1 b1
    have c2 : x.toInt * y.toInt ≤ 2147483647 * 2147483647 := Int.mul_le_mul (by omega) (by omega) b1 (by omega)
    have e := zx_mul (x := x) (y := y) (by omega) (by omega)
    rw [zrm_e hp0 (by rw [e]; omega) (by rw [e]; exact c1), e, hpi]
  have mr : ∀ x : Int, 0 ≤ x % ((q + 2 : Nat) : Int) ∧ x % ((q + 2 : Nat) : Int) < ((q + 2 : Nat) : Int) := fun x => ⟨Int.emod_nonneg _ (by omega), Int.emod_lt_of_pos _ (by omega)⟩
  have key : ∀ e : Nat, e < 2 ^ 31 → ∀ v w : Int64, 0 ≤ v.toInt → v.toInt < (q + 2 : Nat) → 0 ≤ w.toInt → w.toInt < (q + 2 : Nat) → ((q + 2 : Nat) : Int) ∣ w.toInt * v.toInt ^ e - a.toInt ^ q → ∃ n, L_Re_inverseOf_23 K (lN (q + 2)) n v w (lN e) := by
    intro e
    induction e using Nat.strongRecOn with
    | ind e ih =>
      intro he v w v0 v1 w0 w1 hI
      rcases Nat.eq_zero_or_pos e with e0 | e0
      · subst e0
        refine ⟨1, ⟨fun _ => k w w0 w1 ?_, fun h => absurd (by decide) h⟩⟩
        rw [Int.pow_zero, Int.mul_one] at hI
        exact hI
      · have hle : ¬ lN e ≤ (0 : Int64) := fun h => by
          have := (pk_lLE (a := e) (b := 0) (by omega) (by decide)).mp h
          omega
        have hv := mb v v v0 v1 v0 v1
        have hvd := mod_dvd (v.toInt * v.toInt) ((q + 2 : Nat) : Int)
        have hm := mr (v.toInt * v.toInt)
        rcases Nat.mod_two_eq_zero_or_one e with c | c
        · obtain ⟨n, hn⟩ := ih (e / 2) (by omega) (by omega) ((v * v) - (v * v) / lN (q + 2) * lN (q + 2)) w (by rw [hv]; exact hm.1) (by rw [hv]; exact hm.2) w0 w1 (inv_even (by rw [hv]; exact hvd) (by omega) hI)
          refine ⟨n + 1, ⟨fun h => absurd h hle, fun _ => ⟨fun _ => ⟨hpn, fun x4 e4 x5 e5 => ?_⟩, fun h => absurd ((lN_and (by omega)).mp h) (by omega)⟩⟩⟩
          rw [e5, lN_shr (by omega), e4]
          exact hn
        · have hw := mb w v w0 w1 v0 v1
          have hwm := mr (w.toInt * v.toInt)
          obtain ⟨n, hn⟩ := ih (e / 2) (by omega) (by omega) ((v * v) - (v * v) / lN (q + 2) * lN (q + 2)) ((w * v) - (w * v) / lN (q + 2) * lN (q + 2)) (by rw [hv]; exact hm.1) (by rw [hv]; exact hm.2) (by rw [hw]; exact hwm.1) (by rw [hw]; exact hwm.2) (inv_odd (by rw [hv]; exact hvd) (by rw [hw]; exact mod_dvd _ _) (by omega) hI)
          refine ⟨n + 1, ⟨fun h => absurd h hle, fun _ => ⟨fun h => absurd ((lN_and (by omega)).mpr c) h, fun _ => ⟨hpn, fun x3 e3 => ⟨hpn, fun x4 e4 x5 e5 => ?_⟩⟩⟩⟩⟩
          rw [e5, lN_shr (by omega), e4, e3]
          exact hn
  refine ⟨fun _ => ⟨hpn, fun x1 e1 x2 e2 => ?_⟩, fun h => absurd hpl h⟩
  have hx1 : x1 = a := by
    rw [← Int64.toInt_inj, e1, zrm_e hp0 (by omega) h0, hpi, Int.emod_eq_of_lt h0 h1]
  have hx2 : x2 = lN q := by
    rw [e2, ← Int64.toInt_inj, zx_sub (by rw [hpi]; show _ ≤ _ - (2 : Int); omega) (by rw [hpi]; show _ - (2 : Int) < _; omega), hpi, pk_lT (by omega)]
    show ((q + 2 : Nat) : Int) - 2 = _
    omega
  rw [hx1, hx2]
  refine key q (by omega) a 1 h0 h1 (by decide) (by show (1 : Int) < _; omega) ?_
  show _ ∣ 1 * _ - _
  rw [Int.one_mul, Int.sub_self]
  exact ⟨0, (Int.mul_zero _).symm⟩
theorem s_Mo_inverse {K : Int64 → Prop} {a : Int64} {q : Nat} (hb : q + 2 < 2 ^ 31) (h0 : 0 ≤ a.toInt) (h1 : a.toInt < (q + 2 : Nat)) (k : ∀ r : Int64, 0 ≤ r.toInt → r.toInt < (q + 2 : Nat) → ((q + 2 : Nat) : Int) ∣ r.toInt - a.toInt ^ q → K r) : w_Mo_inverse a (lN (q + 2)) K := by
  have hpi : (lN (q + 2)).toInt = ((q + 2 : Nat) : Int) := pk_lT (by omega)
  have hp0 : 0 < (lN (q + 2)).toInt := by rw [hpi]; omega
  have hpl : (0 : Int64) < lN (q + 2) := by rw [Int64.lt_iff_toInt_lt, hpi]; show (0 : Int) < _; omega
  have hpn : ¬ lN (q + 2) = 0 := fun e => by rw [e] at hpl; exact absurd hpl (by decide)
  have mb : ∀ x y : Int64, 0 ≤ x.toInt → x.toInt < (q + 2 : Nat) → 0 ≤ y.toInt → y.toInt < (q + 2 : Nat) → ((x * y) - (x * y) / lN (q + 2) * lN (q + 2)).toInt = (x.toInt * y.toInt) % (q + 2 : Nat) := fun x y a1 a2 b1 b2 => by
    have c1 : 0 ≤ x.toInt * y.toInt := Int.mul_nonneg a1 b1
    have c2 : x.toInt * y.toInt ≤ 2147483647 * 2147483647 := Int.mul_le_mul (by omega) (by omega) b1 (by omega)
    have e := zx_mul (x := x) (y := y) (by omega) (by omega)
    rw [zrm_e hp0 (by rw [e]; omega) (by rw [e]; exact c1), e, hpi]
  have mr : ∀ x : Int, 0 ≤ x % ((q + 2 : Nat) : Int) ∧ x % ((q + 2 : Nat) : Int) < ((q + 2 : Nat) : Int) := fun x => ⟨Int.emod_nonneg _ (by omega), Int.emod_lt_of_pos _ (by omega)⟩
  have h2n : ¬ (2 : Int64) = 0 := by decide
  have key : ∀ e : Nat, e < 2 ^ 31 → ∀ v w : Int64, 0 ≤ v.toInt → v.toInt < (q + 2 : Nat) → 0 ≤ w.toInt → w.toInt < (q + 2 : Nat) → ((q + 2 : Nat) : Int) ∣ w.toInt * v.toInt ^ e - a.toInt ^ q → ∃ n, L_Mo_inverse_13 K (lN (q + 2)) n w v (lN e) := by
    intro e
    induction e using Nat.strongRecOn with
    | ind e ih =>
      intro he v w v0 v1 w0 w1 hI
      rcases Nat.eq_zero_or_pos e with e0 | e0
      · subst e0
        refine ⟨1, ⟨fun _ => k w w0 w1 ?_, fun h => absurd (by decide) h⟩⟩
        rw [Int.pow_zero, Int.mul_one] at hI
        exact hI
      · have hle : ¬ lN e ≤ (0 : Int64) := fun h => by
          have := (pk_lLE (a := e) (b := 0) (by omega) (by decide)).mp h
          omega
        have hdv : lN e / (2 : Int64) = lN (e / 2) := pk_lDiv (a := e) (b := 2) (by omega) (by decide) (by decide)
        have hrm : lN e - lN e / (2 : Int64) * (2 : Int64) = lN (e % 2) := pk_lRem (a := e) (b := 2) (by omega) (by decide) (by decide)
        have hv := mb v v v0 v1 v0 v1
        have hvd := mod_dvd (v.toInt * v.toInt) ((q + 2 : Nat) : Int)
        have hm := mr (v.toInt * v.toInt)
        rcases Nat.mod_two_eq_zero_or_one e with c | c
        · obtain ⟨n, hn⟩ := ih (e / 2) (by omega) (by omega) ((v * v) - (v * v) / lN (q + 2) * lN (q + 2)) w (by rw [hv]; exact hm.1) (by rw [hv]; exact hm.2) w0 w1 (inv_even (by rw [hv]; exact hvd) (by omega) hI)
          refine ⟨n + 1, ⟨fun h => absurd h hle, fun _ => ⟨h2n, fun _ => ⟨hpn, fun x2 ex2 => ⟨h2n, fun x3 ex3 => ?_⟩⟩, fun h => ?_⟩⟩⟩
          · rw [ex3, hdv, ex2]
            exact hn
          · rw [hrm, c] at h
            exact absurd h (by decide)
        · have hw := mb w v w0 w1 v0 v1
          have hwm := mr (w.toInt * v.toInt)
          obtain ⟨n, hn⟩ := ih (e / 2) (by omega) (by omega) ((v * v) - (v * v) / lN (q + 2) * lN (q + 2)) ((w * v) - (w * v) / lN (q + 2) * lN (q + 2)) (by rw [hv]; exact hm.1) (by rw [hv]; exact hm.2) (by rw [hw]; exact hwm.1) (by rw [hw]; exact hwm.2) (inv_odd (by rw [hv]; exact hvd) (by rw [hw]; exact mod_dvd _ _) (by omega) hI)
          refine ⟨n + 1, ⟨fun h => absurd h hle, fun _ => ⟨h2n, fun h => ?_, fun _ => ⟨hpn, hpn, fun x2 ex2 => ⟨h2n, fun x3 ex3 => ?_⟩⟩⟩⟩⟩
          · rw [hrm, c] at h
            exact absurd rfl h
          · rw [ex3, hdv, ex2]
            exact hn
  intro x2 e2
  have hx2 : x2 = lN q := by
    rw [e2, ← Int64.toInt_inj, zx_sub (by rw [hpi]; show _ ≤ _ - (2 : Int); omega) (by rw [hpi]; show _ - (2 : Int) < _; omega), hpi, pk_lT (by omega)]
    show ((q + 2 : Nat) : Int) - 2 = _
    omega
  rw [hx2]
  refine key q (by omega) a 1 h0 h1 (by decide) (by show (1 : Int) < _; omega) ?_
  show _ ∣ 1 * _ - _
  rw [Int.one_mul, Int.sub_self]
  exact ⟨0, (Int.mul_zero _).symm⟩
