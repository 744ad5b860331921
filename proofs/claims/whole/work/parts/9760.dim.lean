/-! As many rows in a basis of the v with v^p = v as there are parts. -/
theorem ev_Zk {K : Nat → Pl} {c : Nat → Int} {n : Nat} {x : Int} : ev (plZ (fun j => plK (c j) (K j)) n) x = psum (fun j => c j * ev (K j) x) n := by
  rw [ev_Z]
  exact psum_congr (fun j _ => by rw [ev_K])
theorem co_Z {f : Nat → Pl} {i : Nat} : ∀ {n : Nat}, (plZ f n).1 i = psum (fun j => (f j).1 i) n
  | 0 => by
    show (if i = 0 then (0 : Int) else 0) = 0
    split <;> rfl
  | n + 1 => by
    show (plZ f n).1 i + (f n).1 i = _
    rw [co_Z]
    rfl
theorem dl_Z {f : Nat → Pl} {k : Nat} : ∀ {n : Nat}, (∀ j, j < n → dl k (f j)) → dl k (plZ f n)
  | 0, _ => fun i _ => by
    show (if i = 0 then (0 : Int) else 0) = 0
    split <;> rfl
  | n + 1, h => dl_A (dl_Z (fun j hj => h j (by omega))) (h n (by omega))
theorem zr_S {p : Int} {a b : Pl} (h : cg p a b) : zr p (plS a b) := cg_co h
theorem dvp_num {p : Int} {F v : Pl} {s t : Int} (h : p ∣ s - t) (hs : dvp p F (plS v (plX s 0))) : dvp p F (plS v (plX t 0)) := by
  refine dvp_cg hs ?_
  obtain ⟨y, hy⟩ := h
  exact ⟨plX y 0, fun x => by simp only [ev_S, ev_X, Int.pow_zero]; grind⟩
theorem nat_mod_eq {p a b : Nat} (ha : a < p) (hb : b < p) (h : (p : Int) ∣ (a : Int) - b) : a = b := by
  have := near_eq (p := p) (x := a) (y := b) h
  rcases Nat.lt_trichotomy a b with c | c | c
  · exfalso
    have := Int.le_of_dvd (show 0 < -((a : Int) - b) by omega) (Int.dvd_neg.mpr h)
    omega
  · exact c
  · exfalso
    have := Int.le_of_dvd (show 0 < (a : Int) - b by omega) h
    omega
theorem dim_eq {q n r m : Nat} {f : Pl} {F K : Nat → Pl} {kp : Nat → Nat} (hp : prm ((q + 2 : Nat) : Int)) (hf : mon f n)
    (hF : ∀ w, dvp ((q + 2 : Nat) : Int) f w ↔ ∀ i, i < r → dvp ((q + 2 : Nat) : Int) (F i) w) (hL : ∀ i, i < r → loc ((q + 2 : Nat) : Int) (F i)) (hC : pwc ((q + 2 : Nat) : Int) F r)
    (k1 : ∀ c : Nat → Int, dvp ((q + 2 : Nat) : Int) f (plS (plP (plZ (fun j => plK (c j) (K j)) m) (q + 2)) (plZ (fun j => plK (c j) (K j)) m)))
    (k2 : ∀ v, dl n v → dvp ((q + 2 : Nat) : Int) f (plS (plP v (q + 2)) v) → cg ((q + 2 : Nat) : Int) v (plZ (fun j => plK (v.1 (kp j)) (K j)) m))
    (k3 : ∀ j i, j < m → i < m → ((q + 2 : Nat) : Int) ∣ (K j).1 (kp i) - (if j = i then 1 else 0)) (k4 : ∀ j, j < m → dl n (K j)) : m = r := by
  have p0 : 0 < q + 2 := by omega
  -- each v has a number modulo each part
  have num : ∀ v, dvp ((q + 2 : Nat) : Int) f (plS (plP v (q + 2)) v) → ∀ i, i < r → ∃ s : Nat, s < q + 2 ∧ dvp ((q + 2 : Nat) : Int) (F i) (plS v (plX s 0)) := fun v hv i hi =>
    loc_gs hp (hL i hi) (by omega) (dvp_cg ((hF _).mp hv i hi) (cg_symm (vpv hp v)))
  have le1 : (q + 2) ^ m ≤ (q + 2) ^ r := by
    let V : Nat → Pl := fun x => plZ (fun j => plK ((dig (q + 2) x j : Nat) : Int) (K j)) m
    have hs : ∀ x i, ∃ s : Nat, s < q + 2 ∧ (i < r → dvp ((q + 2 : Nat) : Int) (F i) (plS (V x) (plX s 0))) := fun x i => by
      by_cases c : i < r
      · obtain ⟨s, h1, h2⟩ := num (V x) (k1 _) i c
        exact ⟨s, h1, fun _ => h2⟩
      · exact ⟨0, p0, fun d => absurd d c⟩
    let S : Nat → Nat → Nat := fun x i => (hs x i).choose
    have S1 : ∀ x i, S x i < q + 2 := fun x i => (hs x i).choose_spec.1
    have S2 : ∀ x i, i < r → dvp ((q + 2 : Nat) : Int) (F i) (plS (V x) (plX (S x i) 0)) := fun x i hi => (hs x i).choose_spec.2 hi
    refine pigeon (g := fun x => enc (q + 2) (S x) r) (fun x _ => enc_lt p0 (S1 x) r) (fun x y hx hy e => ?_)
    have e1 := enc_inj p0 (S1 x) (S1 y) e
    have h1 : dvp ((q + 2 : Nat) : Int) f (plS (V x) (V y)) := (hF _).mpr (fun i hi => by
      have a1 := S2 x i hi
      have a2 := S2 y i hi
      rw [e1 i hi] at a1
      exact dvp_cg (dvp_S a1 a2) (cg_eq (fun t => by simp only [ev_S]; omega)))
    have h2 : zr ((q + 2 : Nat) : Int) (plS (V x) (V y)) := dvp_deg hp hf h1 (dl_S (dl_Z (fun j hj => dl_K (k4 j hj))) (dl_Z (fun j hj => dl_K (k4 j hj))))
    have cf : ∀ x i, i < m → ((q + 2 : Nat) : Int) ∣ (V x).1 (kp i) - ((dig (q + 2) x i : Nat) : Int) := fun x i hi => by
      show _ ∣ (plZ (fun j => plK ((dig (q + 2) x j : Nat) : Int) (K j)) m).1 (kp i) - _
      rw [co_Z, psum_out (k := i) hi]
      have a1 : ((q + 2 : Nat) : Int) ∣ psum (fun j => if j = i then 0 else (plK ((dig (q + 2) x j : Nat) : Int) (K j)).1 (kp i)) m := psum_dvd (fun j hj => by
        by_cases c : j = i
        · rw [if_pos c]; exact ⟨0, (Int.mul_zero _).symm⟩
        · rw [if_neg c]
          have := k3 j i hj hi
          rw [if_neg c, Int.sub_zero] at this
          exact Int.dvd_mul_of_dvd_right this)
      have a2 := k3 i i hi hi
      rw [if_pos rfl] at a2
      obtain ⟨y, hy⟩ := a1
      obtain ⟨z, hz⟩ := a2
      refine ⟨((dig (q + 2) x i : Nat) : Int) * z + y, ?_⟩
      show ((dig (q + 2) x i : Nat) : Int) * (K i).1 (kp i) + _ - _ = _
      rw [hy]
      grind
    refine dig_inj p0 hx hy (fun i hi => ?_)
    refine nat_mod_eq (dig_lt p0) (dig_lt p0) ?_
    have a1 := cf x i hi
    have a2 := cf y i hi
    have a3 : ((q + 2 : Nat) : Int) ∣ (V x).1 (kp i) - (V y).1 (kp i) := h2 (kp i)
    have := Int.dvd_add (Int.dvd_sub a3 a1) a2
    rw [show (V x).1 (kp i) - (V y).1 (kp i) - ((V x).1 (kp i) - ((dig (q + 2) x i : Nat) : Int)) + ((V y).1 (kp i) - ((dig (q + 2) y i : Nat) : Int)) = ((dig (q + 2) x i : Nat) : Int) - ((dig (q + 2) y i : Nat) : Int) by omega] at this
    exact this
  have le2 : (q + 2) ^ r ≤ (q + 2) ^ m := by
    have hv : ∀ y : Nat, ∃ v, dl n v ∧ dvp ((q + 2 : Nat) : Int) f (plS (plP v (q + 2)) v) ∧ ∀ i, i < r → dvp ((q + 2 : Nat) : Int) (F i) (plS v (plX ((dig (q + 2) y i : Nat) : Int) 0)) := fun y => by
      obtain ⟨v, hv⟩ := crt_Q (p := ((q + 2 : Nat) : Int)) (F := F) (r := r) (fun i => ((dig (q + 2) y i : Nat) : Int)) hC
      obtain ⟨a, v0, h1, h2⟩ := ediv_1 hf.1 hf.2 v
      have h3 : ∀ i, i < r → dvp ((q + 2 : Nat) : Int) (F i) (plS v0 (plX ((dig (q + 2) y i : Nat) : Int) 0)) := fun i hi => by
        have a1 := dvp_S (hv i hi) (dvp_Mr (c := a) ((hF f).mp dvp_refl i hi))
        exact dvp_cg a1 (cg_eq (fun t => by
          simp only [ev_S, ev_M]
          rw [h2 t]
          omega))
      refine ⟨v0, h1, ?_, h3⟩
      refine dvp_cg ?_ (vpv hp v0)
      exact (hF _).mpr (fun i hi => dvp_gs (h3 i hi) (dig_lt p0))
    let W : Nat → Pl := fun y => (hv y).choose
    have W1 : ∀ y, dl n (W y) := fun y => (hv y).choose_spec.1
    have W2 : ∀ y, dvp ((q + 2 : Nat) : Int) f (plS (plP (W y) (q + 2)) (W y)) := fun y => (hv y).choose_spec.2.1
    have W3 : ∀ y i, i < r → dvp ((q + 2 : Nat) : Int) (F i) (plS (W y) (plX ((dig (q + 2) y i : Nat) : Int) 0)) := fun y => (hv y).choose_spec.2.2
    let T : Nat → Nat → Nat := fun y j => ((W y).1 (kp j) % ((q + 2 : Nat) : Int)).toNat
    have T0 : ∀ y j, ((T y j : Nat) : Int) = (W y).1 (kp j) % ((q + 2 : Nat) : Int) := fun y j => Int.toNat_of_nonneg (Int.emod_nonneg _ (by omega))
    have T1 : ∀ y j, T y j < q + 2 := fun y j => by
      have a1 := T0 y j
      have a2 := Int.emod_lt_of_pos ((W y).1 (kp j)) (show (0 : Int) < ((q + 2 : Nat) : Int) by omega)
      omega
    refine pigeon (g := fun y => enc (q + 2) (T y) m) (fun y _ => enc_lt p0 (T1 y) m) (fun x y hx hy e => ?_)
    have e1 := enc_inj p0 (T1 x) (T1 y) e
    have h1 : cg ((q + 2 : Nat) : Int) (W x) (W y) := by
      refine cg_trans (k2 _ (W1 x) (W2 x)) (cg_trans ?_ (cg_symm (k2 _ (W1 y) (W2 y))))
      refine cg_of (fun i => ?_)
      rw [co_Z, co_Z, ← psum_sub]
      refine psum_dvd (fun j hj => ?_)
      have a1 := T0 x j
      have a2 := T0 y j
      rw [e1 j hj] at a1
      have a3 : ((q + 2 : Nat) : Int) ∣ (W x).1 (kp j) - (W y).1 (kp j) := by
        obtain ⟨y1, hy1⟩ := mod_dvd ((W x).1 (kp j)) ((q + 2 : Nat) : Int)
        obtain ⟨y2, hy2⟩ := mod_dvd ((W y).1 (kp j)) ((q + 2 : Nat) : Int)
        exact ⟨y2 - y1, by grind⟩
      show _ ∣ (W x).1 (kp j) * (K j).1 i - (W y).1 (kp j) * (K j).1 i
      rw [← Int.sub_mul]
      exact Int.dvd_mul_of_dvd_left a3
    refine dig_inj p0 hx hy (fun i hi => ?_)
    refine nat_mod_eq (dig_lt p0) (dig_lt p0) ?_
    have a1 := W3 x i hi
    have a2 := W3 y i hi
    have a3 : dvp ((q + 2 : Nat) : Int) (F i) (plS (W y) (plX ((dig (q + 2) x i : Nat) : Int) 0)) := dvp_cg a1 (cg_S (cg_symm h1) cg_refl)
    exact loc_uniq hp (hL i hi).1 a3 a2
  have p1 : 1 < q + 2 := by omega
  rcases Nat.lt_trichotomy m r with c | c | c
  · have := Nat.pow_lt_pow_right p1 c
    omega
  · exact c
  · have := Nat.pow_lt_pow_right p1 c
    omega
