/-! The memory of the system: cells by their number since the law's entry; long values M, int values N. -/
abbrev zM : Type := Nat → Nat → Int64
abbrev zN : Type := Nat → Nat → Int32
/-- the classes, the class of long[], of int[], of long[][] -/
abbrev zG : Type := va_G × ClassId × ClassId × ClassId
def zput (M : zM) (k i : Nat) (x : Int64) : zM := fun a j => if a = k ∧ j = i then x else M a j
def zpui (N : zN) (k i : Nat) (x : Int32) : zN := fun a j => if a = k ∧ j = i then x else N a j
theorem zput_ne {M : zM} {k i a : Nat} {x : Int64} (h : a ≠ k) : zput M k i x a = M a := by
  funext j; simp [zput, h]
theorem zput_at {M : zM} {k i : Nat} {x : Int64} : zput M k i x k = vp_updL (M k) i x := by
  funext j; simp [zput, vp_updL]
theorem zpui_ne {N : zN} {k i a : Nat} {x : Int32} (h : a ≠ k) : zpui N k i x a = N a := by
  funext j; simp [zpui, h]
theorem zpui_at {N : zN} {k i : Nat} {x : Int32} : zpui N k i x k = upd (N k) i x := by
  funext j; simp [zpui, upd]
theorem zput_eq {M : zM} {k i : Nat} {x : Int64} : zput M k i x k i = x := by simp [zput]
theorem zput_n2 {M : zM} {k i j : Nat} {x : Int64} (h : j ≠ i) : zput M k i x k j = M k j := by simp [zput, h]
theorem zpui_eq {N : zN} {k i : Nat} {x : Int32} : zpui N k i x k i = x := by simp [zpui]
theorem zpui_n2 {N : zN} {k i j : Nat} {x : Int32} (h : j ≠ i) : zpui N k i x k j = N k j := by simp [zpui, h]
/-- a stretch of the row f is laid over the row g -/
def zcpy (M : zM) (f g sp dp n : Nat) : zM := fun a j => if a = g then va_cpy (M f) (M g) sp dp n j else M a j
theorem zcpy_ne {M : zM} {f g sp dp n a : Nat} (h : a ≠ g) : zcpy M f g sp dp n a = M a := by
  funext j; simp [zcpy, h]
theorem zcpy_at {M : zM} {f g sp dp n : Nat} : zcpy M f g sp dp n g = va_cpy (M f) (M g) sp dp n := by
  funext j; simp [zcpy]
/-- the lengths of the long[], of the int[], of the long[][] cells -/
def zlong (k : Nat) : Nat := ([0, 0, 8, 8, 8, 8, 16, 8, 8, 0, 0, 8, 8, 8, 8, 8, 8, 0, 0, 8, 8, 8, 8, 8, 8, 8, 8, 0, 8, 8, 8, 8, 8, 8, 8, 8, 0, 8, 8, 8, 8, 8, 8, 8, 8, 0, 8, 8, 8, 8, 8, 0, 0, 8, 8, 8, 8, 8, 8, 8, 8, 0, 8, 8, 8, 8, 8, 8, 8, 8, 8, 8, 8, 8, 8, 8, 8, 8, 8, 0, 0, 8, 8, 8, 8, 8, 8, 8, 0, 0, 0, 8, 8, 8, 8, 8, 8, 8, 0, 0, 0, 0, 56, 56, 16, 16, 16, 16, 16, 16, 16, 16, 16, 16, 16, 16, 16, 16, 0, 1] : List Nat).getD k 0
def zint (k : Nat) : Nat := ([0, 0, 0, 0, 0, 0, 0, 0, 0, 0, 0, 0, 0, 0, 0, 0, 0, 0, 0, 0, 0, 0, 0, 0, 0, 0, 0, 0, 0, 0, 0, 0, 0, 0, 0, 0, 0, 0, 0, 0, 0, 0, 0, 0, 0, 8, 0, 0, 0, 0, 0, 0, 0, 0, 0, 0, 0, 0, 0, 0, 0, 0, 0, 0, 0, 0, 0, 0, 0, 0, 0, 0, 0, 0, 0, 0, 0, 0, 0, 0, 0, 0, 0, 0, 0, 0, 0, 0, 7, 0, 0, 0, 0, 0, 0, 0, 0, 0, 7, 0, 32, 7, 0, 0, 0, 0, 0, 0, 0, 0, 0, 0, 0, 0, 0, 0, 0, 0, 10, 0] : List Nat).getD k 0
def zgn (k : Nat) : Nat := ([0, 4, 0, 0, 0, 0, 0, 0, 0, 0, 0, 0, 0, 0, 0, 0, 0, 0, 8, 0, 0, 0, 0, 0, 0, 0, 0, 8, 0, 0, 0, 0, 0, 0, 0, 0, 8, 0, 0, 0, 0, 0, 0, 0, 0, 0, 0, 0, 0, 0, 0, 0, 8, 0, 0, 0, 0, 0, 0, 0, 0, 8, 0, 0, 0, 0, 0, 0, 0, 0, 0, 0, 0, 0, 0, 0, 0, 0, 0, 0, 7, 0, 0, 0, 0, 0, 0, 0, 0, 0, 7, 0, 0, 0, 0, 0, 0, 0, 0, 0, 0, 0, 0, 0, 0, 0, 0, 0, 0, 0, 0, 0, 0, 0, 0, 0, 0, 0, 0, 0] : List Nat).getD k 0
def zfac (k : Nat) : Prop := k = 79 ∨ k = 89
def zobj (b : Nat) (f : Nat → Int64) (g : Nat → Int32) (k : Nat) : Nat × List Value := if k = 79 ∨ k = 89 then (1, [.ref (b + (k + 1)), .ref (b + (k + 9)), .int (g 2), .long (f 3)]) else if k = 0 then (5, [.ref (b + 1), .ref (b + 6), .ref (b + 7), .ref (b + 8), .ref (b + 9), .ref (b + 79), .ref (b + 89)]) else if k = 9 then (4, [.ref (b + 10), .ref (b + 17), .ref (b + 51), .ref (b + 73), .ref (b + 74), .ref (b + 75), .ref (b + 76), .ref (b + 77), .ref (b + 78)]) else if k = 10 then (0, [.ref (b + 11), .ref (b + 12), .ref (b + 13), .ref (b + 14), .ref (b + 15), .ref (b + 16)]) else if k = 17 then (3, [.ref (b + 18), .int (g 1), .ref (b + 27), .ref (b + 36), .ref (b + 45), .ref (b + 46), .ref (b + 47), .ref (b + 48), .ref (b + 49), .ref (b + 50)]) else if k = 51 then (2, [.ref (b + 52), .long (f 1), .ref (b + 61), .ref (b + 70), .ref (b + 71), .ref (b + 72)]) else if k = 99 then (6, [.int (g 0), .ref (b + 100), .int (g 2), .int (g 3), .ref (b + 101), .ref (b + 102), .int (g 6), .ref (b + 103), .ref (b + 104), .ref (b + 105), .ref (b + 106), .ref (b + 107), .ref (b + 108), .ref (b + 109), .ref (b + 110), .ref (b + 111), .ref (b + 112), .ref (b + 113), .ref (b + 114), .ref (b + 115), .ref (b + 116), .ref (b + 117), .ref (b + 118)]) else (0, [])
def zA (b : Nat) : Nat → Prop := fun q => b ≤ q
def zcell (G : zG) (b : Nat) (f : Nat → Int64) (g : Nat → Int32) (k : Nat) : va_E :=
  if 0 < zlong k then .inl (G.2.1, zlong k, .inr (.inl f))
  else if 0 < zint k then .inl (G.2.2.1, zint k, .inl g)
  else if 0 < zgn k then .inl (G.2.2.2, zgn k, .inr (.inr (.inr (.inr (fun i => some (b + (k + 1 + i)))))))
  else .inr (zobj b f g k)
def zws (G : zG) (b : Nat) (M : zM) (N : zN) : va_W := (List.range 120).map (fun k => (b + k, zcell G b (M k) (N k) k))
abbrev zty (G : zG) : List (ClassId × FieldType) := [(G.2.1, .long), (G.2.2.1, .int), (G.2.2.2, .array .long)]
theorem z_len {G : zG} {b : Nat} {M : zM} {N : zN} : (zws G b M N).length = 120 := by simp [zws]
theorem z_at {G : zG} {b : Nat} {M : zM} {N : zN} {k : Nat} (hk : k < 120) : (zws G b M N)[k]? = some (b + k, zcell G b (M k) (N k) k) := by
  simp [zws, List.getElem?_map, List.getElem?_range hk]
theorem z_ge {G : zG} {b : Nat} {M : zM} {N : zN} {k : Nat} (hk : ¬ k < 120) : (zws G b M N)[k]? = none := by
  apply List.getElem?_eq_none; rw [z_len]; omega
theorem z_lt {G : zG} {b : Nat} {M : zM} {N : zN} {k : Nat} {q : Nat × va_E} (h : (zws G b M N)[k]? = some q) : k < 120 := by
  by_cases hk : k < 120
  · exact hk
  · rw [z_ge hk] at h; cases h
theorem z_D {G : zG} {b : Nat} {M : zM} {N : zN} : va_D (zA b) (zws G b M N) := by
  refine ⟨fun i j p q hi hj hpq => ?_, fun k q hk => ?_⟩
  · have h1 := z_lt hi
    have h2 := z_lt hj
    rw [z_at h1] at hi
    rw [z_at h2] at hj
    cases hi
    cases hj
    have h3 : b + i = b + j := hpq
    omega
  · have h1 := z_lt hk
    rw [z_at h1] at hk
    cases hk
    show b ≤ b + k
    omega
theorem z_set {G : zG} {b : Nat} {M M' : zM} {N N' : zN} {k : Nat} {e : va_E} (hk : k < 120) (h0 : zcell G b (M' k) (N' k) k = e) (h1 : ∀ j, j ≠ k → M' j = M j) (h2 : ∀ j, j ≠ k → N' j = N j) : (zws G b M N).set k (b + k, e) = zws G b M' N' := by
  apply List.ext_getElem?
  intro j
  rw [List.getElem?_set]
  by_cases hj : k = j
  · subst hj
    rw [if_pos rfl, z_len, if_pos hk, z_at hk, h0]
  · rw [if_neg hj]
    by_cases hj2 : j < 120
    · rw [z_at hj2, z_at hj2, h1 j (fun h => hj h.symm), h2 j (fun h => hj h.symm)]
    · rw [z_ge hj2, z_ge hj2]
theorem zlong_lt {k : Nat} (h : 0 < zlong k) : k < 120 := by
  by_cases hk : k < 120
  · exact hk
  · exfalso
    have : zlong k = 0 := by
      unfold zlong
      rw [List.getD_eq_getElem?_getD, List.getElem?_eq_none (by simp; omega)]
      rfl
    omega
theorem zint_lt {k : Nat} (h : 0 < zint k) : k < 120 := by
  by_cases hk : k < 120
  · exact hk
  · exfalso
    have : zint k = 0 := by
      unfold zint
      rw [List.getD_eq_getElem?_getD, List.getElem?_eq_none (by simp; omega)]
      rfl
    omega
theorem zgn_lt {k : Nat} (h : 0 < zgn k) : k < 120 := by
  by_cases hk : k < 120
  · exact hk
  · exfalso
    have : zgn k = 0 := by
      unfold zgn
      rw [List.getD_eq_getElem?_getD, List.getElem?_eq_none (by simp; omega)]
      rfl
    omega
theorem zkinds : ∀ k, k < 120 → (0 < zint k → zlong k = 0) ∧ (0 < zgn k → zlong k = 0 ∧ zint k = 0) := by decide +kernel
theorem zc_L {G : zG} {b : Nat} {f : Nat → Int64} {g : Nat → Int32} {k : Nat} (h : 0 < zlong k) : zcell G b f g k = .inl (G.2.1, zlong k, .inr (.inl f)) := by
  unfold zcell; rw [if_pos h]
theorem zc_I {G : zG} {b : Nat} {f : Nat → Int64} {g : Nat → Int32} {k : Nat} (h : 0 < zint k) : zcell G b f g k = .inl (G.2.2.1, zint k, .inl g) := by
  have h1 := (zkinds k (zint_lt h)).1 h
  unfold zcell; rw [if_neg (by omega), if_pos h]
theorem zc_G {G : zG} {b : Nat} {f : Nat → Int64} {g : Nat → Int32} {k : Nat} (h : 0 < zgn k) : zcell G b f g k = .inl (G.2.2.2, zgn k, .inr (.inr (.inr (.inr (fun i => some (b + (k + 1 + i))))))) := by
  have h1 := (zkinds k (zgn_lt h)).2 h
  unfold zcell; rw [if_neg (by omega), if_neg (by omega), if_pos h]
theorem zin_pos {i : Int32} {n : Nat} (h : vp_in i n) : 0 < n := by
  have := vp_in_iff.mp h; omega
section ZK
variable {p : Program} {l : Launch} {e : Env} {R : Room} {s : State} {m : MethodId} {args : Array Value} {below : List Frame} {meth : Method} {c : Code} {H : Heap} {locs : List Loc} {cells slots : Nat} {Q : State → Prop}
variable {cc : ByteArray} {pc : Nat} {ls : Array Slot} {rest : List Value} {G : zG} {b : Nat} {M : zM} {N : zN} {H0 : Heap}
theorem z_lald (hx : p.tables.exec = Jvm.exec) (hb : c.code = cc) (hK : va_K G.1 zCl (zty G) s) (hZ : va_P G.1 zCl (zws G b M N) H) {k : Nat} {i : Int32} (hin : vp_in i (zlong k)) (hdg : decode cc pc = .ok (.laload, 1))
    (kk : W p l e R s m args below meth c H locs cells slots Q (F0 m (pc + 1) ls (.long (M k i.toNatClampNeg) :: rest))) : W p l e R s m args below meth c H locs cells slots Q (F0 m pc ls (.int i :: .ref (b + k) :: rest)) :=
  va_lald hx hb hK hZ k 0 (by rw [z_at (zlong_lt (zin_pos hin)), zc_L (zin_pos hin)]) rfl hin hdg kk
theorem z_iald (hx : p.tables.exec = Jvm.exec) (hb : c.code = cc) (hK : va_K G.1 zCl (zty G) s) (hZ : va_P G.1 zCl (zws G b M N) H) {k : Nat} {i : Int32} (hin : vp_in i (zint k)) (hdg : decode cc pc = .ok (.iaload, 1))
    (kk : W p l e R s m args below meth c H locs cells slots Q (F0 m (pc + 1) ls (.int (N k i.toNatClampNeg) :: rest))) : W p l e R s m args below meth c H locs cells slots Q (F0 m pc ls (.int i :: .ref (b + k) :: rest)) :=
  va_iald hx hb hK hZ k 1 (by rw [z_at (zint_lt (zin_pos hin)), zc_I (zin_pos hin)]) rfl hin hdg kk
theorem z_last (hx : p.tables.exec = Jvm.exec) (hb : c.code = cc) (hK : va_K G.1 zCl (zty G) s) (hZ : va_P G.1 zCl (zws G b M N) H) (hS : va_S (zA b) H0 H locs) {k : Nat} {i : Int32} {x : Int64} (hin : vp_in i (zlong k)) (hdg : decode cc pc = .ok (.lastore, 1))
    (kk : ∀ (M1 : zM) (H1 : Heap) (locs1 : List Loc), M1 = zput M k i.toNatClampNeg x → va_P G.1 zCl (zws G b M1 N) H1 → va_S (zA b) H0 H1 locs1 → W p l e R s m args below meth c H1 locs1 cells slots Q (F0 m (pc + 1) ls rest)) : W p l e R s m args below meth c H locs cells slots Q (F0 m pc ls (.long x :: .int i :: .ref (b + k) :: rest)) := by
  have h0 := zin_pos hin
  refine va_last hx hb hK hZ z_D hS k 0 (by rw [z_at (zlong_lt h0), zc_L h0]) rfl hin hdg (fun H1 locs1 h1 _ h3 => ?_)
  rw [z_set (M' := zput M k i.toNatClampNeg x) (N' := N) (zlong_lt h0) (by rw [zc_L h0, zput_at]) (fun j hj => zput_ne hj) (fun j _ => rfl)] at h1
  exact kk _ H1 locs1 rfl h1 h3
theorem z_iast (hx : p.tables.exec = Jvm.exec) (hb : c.code = cc) (hK : va_K G.1 zCl (zty G) s) (hZ : va_P G.1 zCl (zws G b M N) H) (hS : va_S (zA b) H0 H locs) {k : Nat} {i : Int32} {x : Int32} (hin : vp_in i (zint k)) (hdg : decode cc pc = .ok (.iastore, 1))
    (kk : ∀ (N1 : zN) (H1 : Heap) (locs1 : List Loc), N1 = zpui N k i.toNatClampNeg x → va_P G.1 zCl (zws G b M N1) H1 → va_S (zA b) H0 H1 locs1 → W p l e R s m args below meth c H1 locs1 cells slots Q (F0 m (pc + 1) ls rest)) : W p l e R s m args below meth c H locs cells slots Q (F0 m pc ls (.int x :: .int i :: .ref (b + k) :: rest)) := by
  have h0 := zin_pos hin
  refine va_iast hx hb hK hZ z_D hS k 1 (by rw [z_at (zint_lt h0), zc_I h0]) rfl hin hdg (fun H1 locs1 h1 _ h3 => ?_)
  rw [z_set (M' := M) (N' := zpui N k i.toNatClampNeg x) (zint_lt h0) (by rw [zc_I h0, zpui_at]) (fun j _ => rfl) (fun j hj => zpui_ne hj)] at h1
  exact kk _ H1 locs1 rfl h1 h3
theorem z_aald (hx : p.tables.exec = Jvm.exec) (hb : c.code = cc) (hK : va_K G.1 zCl (zty G) s) (hZ : va_P G.1 zCl (zws G b M N) H) {k : Nat} {i : Int32} (hin : vp_in i (zgn k)) (hdg : decode cc pc = .ok (.aaload, 1))
    (kk : W p l e R s m args below meth c H locs cells slots Q (F0 m (pc + 1) ls (.ref (b + (k + 1 + i.toNatClampNeg)) :: rest))) : W p l e R s m args below meth c H locs cells slots Q (F0 m pc ls (.int i :: .ref (b + k) :: rest)) := by
  have h0 := zin_pos hin
  have hlt : i.toNatClampNeg < zgn k := Nat.not_le.mp fun q => hin (Or.inr q)
  have ha := hZ k _ (z_at (zgn_lt h0))
  rw [zc_G h0] at ha
  exact W.aald (v := .ref (b + (k + 1 + i.toNatClampNeg))) (ty := .array .long) hx hb ha ((hK.2 2 _ rfl).1 (zgn k) (fun j => va_rf (some (b + (k + 1 + j))))) rfl (fun q => by cases q) (by show ¬ (i < 0 ∨ (arrV _ _ _).slots.size ≤ _); rw [arrV_size]; exact hin) (by show (arrV _ _ _).slots[_]? = _; rw [arrV_read _ _ hlt]; rfl) rfl rfl hdg kk
theorem z_alen (hx : p.tables.exec = Jvm.exec) (hb : c.code = cc) (hK : va_K G.1 zCl (zty G) s) (hZ : va_P G.1 zCl (zws G b M N) H) {k : Nat} (h0 : 0 < zlong k) (hdg : decode cc pc = .ok (.arraylength, 1))
    (kk : W p l e R s m args below meth c H locs cells slots Q (F0 m (pc + 1) ls (.int (Int32.ofNat (zlong k)) :: rest))) : W p l e R s m args below meth c H locs cells slots Q (F0 m pc ls (.ref (b + k) :: rest)) :=
  va_alen hx hb hK hZ k 0 (by rw [z_at (zlong_lt h0), zc_L h0]) rfl rfl hdg kk
theorem z_lc_ge (hx : p.tables.exec = Jvm.exec) (hb : c.code = cc) {x y : Int64} {off : Int} {tgt : Nat} (d1 : decode cc pc = .ok (.lcmp, 1)) (d2 : decode cc (pc + 1) = .ok (.ifCond .ge off, 3)) (ht : ((pc + 1 : Nat) : Int) + off = (tgt : Int))
    (kt : y ≤ x → W p l e R s m args below meth c H locs cells slots Q (F0 m tgt ls rest)) (kf : ¬ y ≤ x → W p l e R s m args below meth c H locs cells slots Q (F0 m (pc + 1 + 3) ls rest)) : W p l e R s m args below meth c H locs cells slots Q (F0 m pc ls (.long y :: .long x :: rest)) :=
  W.lcmp hx hb d1 (lv_if_ge hx hb d2 ht (fun h => kt ((lg_cmp_ge x y).mp h)) (fun h => kf (fun h2 => h ((lg_cmp_ge x y).mpr h2))))
theorem z_lc_le (hx : p.tables.exec = Jvm.exec) (hb : c.code = cc) {x y : Int64} {off : Int} {tgt : Nat} (d1 : decode cc pc = .ok (.lcmp, 1)) (d2 : decode cc (pc + 1) = .ok (.ifCond .le off, 3)) (ht : ((pc + 1 : Nat) : Int) + off = (tgt : Int))
    (kt : x ≤ y → W p l e R s m args below meth c H locs cells slots Q (F0 m tgt ls rest)) (kf : ¬ x ≤ y → W p l e R s m args below meth c H locs cells slots Q (F0 m (pc + 1 + 3) ls rest)) : W p l e R s m args below meth c H locs cells slots Q (F0 m pc ls (.long y :: .long x :: rest)) :=
  W.lcmp hx hb d1 (lv_if_le hx hb d2 ht (fun h => kt ((lg_cmp_le x y).mp h)) (fun h => kf (fun h2 => h ((lg_cmp_le x y).mpr h2))))
theorem z_lc_gt (hx : p.tables.exec = Jvm.exec) (hb : c.code = cc) {x y : Int64} {off : Int} {tgt : Nat} (d1 : decode cc pc = .ok (.lcmp, 1)) (d2 : decode cc (pc + 1) = .ok (.ifCond .gt off, 3)) (ht : ((pc + 1 : Nat) : Int) + off = (tgt : Int))
    (kt : y < x → W p l e R s m args below meth c H locs cells slots Q (F0 m tgt ls rest)) (kf : ¬ y < x → W p l e R s m args below meth c H locs cells slots Q (F0 m (pc + 1 + 3) ls rest)) : W p l e R s m args below meth c H locs cells slots Q (F0 m pc ls (.long y :: .long x :: rest)) :=
  W.lcmp hx hb d1 (lv_if_gt hx hb d2 ht (fun h => kt ((lg_cmp_gt x y).mp h)) (fun h => kf (fun h2 => h ((lg_cmp_gt x y).mpr h2))))
theorem z_lc_lt (hx : p.tables.exec = Jvm.exec) (hb : c.code = cc) {x y : Int64} {off : Int} {tgt : Nat} (d1 : decode cc pc = .ok (.lcmp, 1)) (d2 : decode cc (pc + 1) = .ok (.ifCond .lt off, 3)) (ht : ((pc + 1 : Nat) : Int) + off = (tgt : Int))
    (kt : x < y → W p l e R s m args below meth c H locs cells slots Q (F0 m tgt ls rest)) (kf : ¬ x < y → W p l e R s m args below meth c H locs cells slots Q (F0 m (pc + 1 + 3) ls rest)) : W p l e R s m args below meth c H locs cells slots Q (F0 m pc ls (.long y :: .long x :: rest)) :=
  W.lcmp hx hb d1 (lv_if_lt hx hb d2 ht (fun h => kt ((lg_cmp_lt x y).mp h)) (fun h => kf (fun h2 => h ((lg_cmp_lt x y).mpr h2))))
theorem z_lc_eq (hx : p.tables.exec = Jvm.exec) (hb : c.code = cc) {x y : Int64} {off : Int} {tgt : Nat} (d1 : decode cc pc = .ok (.lcmp, 1)) (d2 : decode cc (pc + 1) = .ok (.ifCond .eq off, 3)) (ht : ((pc + 1 : Nat) : Int) + off = (tgt : Int))
    (kt : x = y → W p l e R s m args below meth c H locs cells slots Q (F0 m tgt ls rest)) (kf : ¬ x = y → W p l e R s m args below meth c H locs cells slots Q (F0 m (pc + 1 + 3) ls rest)) : W p l e R s m args below meth c H locs cells slots Q (F0 m pc ls (.long y :: .long x :: rest)) :=
  W.lcmp hx hb d1 (lv_if_eq hx hb d2 ht (fun h => kt ((lg_cmp_eq x y).mp h)) (fun h => kf (fun h2 => h ((lg_cmp_eq x y).mpr h2))))
theorem z_lc_ne (hx : p.tables.exec = Jvm.exec) (hb : c.code = cc) {x y : Int64} {off : Int} {tgt : Nat} (d1 : decode cc pc = .ok (.lcmp, 1)) (d2 : decode cc (pc + 1) = .ok (.ifCond .ne off, 3)) (ht : ((pc + 1 : Nat) : Int) + off = (tgt : Int))
    (kt : ¬ x = y → W p l e R s m args below meth c H locs cells slots Q (F0 m tgt ls rest)) (kf : x = y → W p l e R s m args below meth c H locs cells slots Q (F0 m (pc + 1 + 3) ls rest)) : W p l e R s m args below meth c H locs cells slots Q (F0 m pc ls (.long y :: .long x :: rest)) :=
  W.lcmp hx hb d1 (lv_if_ne hx hb d2 ht (fun h => kt (fun h2 => h ((lg_cmp_eq x y).mpr h2))) (fun h => kf ((lg_cmp_eq x y).mp h)))
end ZK
theorem zo_IS {G : zG} {b : Nat} {M : zM} {N : zN} : (zws G b M N)[0]? = some (b + 0, .inr (5, [.ref (b + 1), .ref (b + 6), .ref (b + 7), .ref (b + 8), .ref (b + 9), .ref (b + 79), .ref (b + 89)])) := z_at (by decide)
theorem zo_Sp {G : zG} {b : Nat} {M : zM} {N : zN} : (zws G b M N)[9]? = some (b + 9, .inr (4, [.ref (b + 10), .ref (b + 17), .ref (b + 51), .ref (b + 73), .ref (b + 74), .ref (b + 75), .ref (b + 76), .ref (b + 77), .ref (b + 78)])) := z_at (by decide)
theorem zo_CD {G : zG} {b : Nat} {M : zM} {N : zN} : (zws G b M N)[10]? = some (b + 10, .inr (0, [.ref (b + 11), .ref (b + 12), .ref (b + 13), .ref (b + 14), .ref (b + 15), .ref (b + 16)])) := z_at (by decide)
theorem zo_MP {G : zG} {b : Nat} {M : zM} {N : zN} : (zws G b M N)[17]? = some (b + 17, .inr (3, [.ref (b + 18), .int (N 17 1), .ref (b + 27), .ref (b + 36), .ref (b + 45), .ref (b + 46), .ref (b + 47), .ref (b + 48), .ref (b + 49), .ref (b + 50)])) := z_at (by decide)
theorem zo_Li {G : zG} {b : Nat} {M : zM} {N : zN} : (zws G b M N)[51]? = some (b + 51, .inr (2, [.ref (b + 52), .long (M 51 1), .ref (b + 61), .ref (b + 70), .ref (b + 71), .ref (b + 72)])) := z_at (by decide)
theorem zo_Mo {G : zG} {b : Nat} {M : zM} {N : zN} : (zws G b M N)[99]? = some (b + 99, .inr (6, [.int (N 99 0), .ref (b + 100), .int (N 99 2), .int (N 99 3), .ref (b + 101), .ref (b + 102), .int (N 99 6), .ref (b + 103), .ref (b + 104), .ref (b + 105), .ref (b + 106), .ref (b + 107), .ref (b + 108), .ref (b + 109), .ref (b + 110), .ref (b + 111), .ref (b + 112), .ref (b + 113), .ref (b + 114), .ref (b + 115), .ref (b + 116), .ref (b + 117), .ref (b + 118)])) := z_at (by decide)
theorem zo_Fa {G : zG} {b : Nat} {M : zM} {N : zN} {k : Nat} (h : zfac k) : (zws G b M N)[k]? = some (b + k, .inr (1, [.ref (b + (k + 1)), .ref (b + (k + 9)), .int (N k 2), .long (M k 3)])) := by rcases h with rfl | rfl <;> exact z_at (by decide)
