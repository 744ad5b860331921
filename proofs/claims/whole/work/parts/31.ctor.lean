def znest : List (String × Nat × MethodName) := [("IntegerSplitter", 26, ({ cls := "IntegerSplitter$Splitter", name := "<init>", desc := "()V" } : Jvm.MethodName)), ("IntegerSplitter$Splitter", 11, ({ cls := "IntegerSplitter$CommonDivisor", name := "<init>", desc := "()V" } : Jvm.MethodName)), ("IntegerSplitter$Splitter", 20, ({ cls := "IntegerSplitter$ModularParts", name := "<init>", desc := "()V" } : Jvm.MethodName)), ("IntegerSplitter$Splitter", 27, ({ cls := "IntegerSplitter$Lifting", name := "<init>", desc := "()V" } : Jvm.MethodName)), ("IntegerSplitter", 33, ({ cls := "IntegerSplitter$Factors", name := "<init>", desc := "()V" } : Jvm.MethodName))]
/-! Making the objects: the cells from o on, in the order of their making. -/
def zcs (o : Nat) : List va_E → va_W
  | [] => []
  | e :: es => (o, e) :: zcs (o + 1) es
theorem zcs_len : ∀ (es : List va_E) (o : Nat), (zcs o es).length = es.length
  | [], _ => rfl
  | e :: es, o => by simp [zcs, zcs_len es (o + 1)]
theorem zcs_get : ∀ (es : List va_E) (o k : Nat), (zcs o es)[k]? = (es[k]?).map (fun e => (o + k, e))
  | [], o, k => by simp [zcs]
  | e :: es, o, 0 => by simp [zcs]
  | e :: es, o, k + 1 => by
    simp only [zcs, List.getElem?_cons_succ]
    rw [zcs_get es (o + 1) k]
    simp only [Nat.add_right_comm o 1 k, Nat.add_assoc o k 1]
theorem zcs_app : ∀ (es fs : List va_E) (o : Nat), zcs o (es ++ fs) = zcs o es ++ zcs (o + es.length) fs
  | [], fs, o => by simp [zcs]
  | e :: es, fs, o => by
    simp only [List.cons_append, zcs, List.length_cons]
    rw [zcs_app es fs (o + 1), show o + 1 + es.length = o + (es.length + 1) by omega]
theorem zcs_set : ∀ (es : List va_E) (o k : Nat) (e : va_E), (zcs o es).set k (o + k, e) = zcs o (es.set k e)
  | [], o, k, e => by simp [zcs]
  | a :: es, o, 0, e => by simp [zcs]
  | a :: es, o, k + 1, e => by
    simp only [zcs, List.set_cons_succ]
    rw [← zcs_set es (o + 1) k e, show o + 1 + k = o + (k + 1) by omega]
theorem zcs_at {es : List va_E} {o k : Nat} {e : va_E} (h : es[k]? = some e) : (zcs o es)[k]? = some (o + k, e) := by rw [zcs_get, h]; rfl
theorem zcs_D {es : List va_E} {o : Nat} : va_D (zA o) (zcs o es) := by
  refine ⟨fun i j p q hi hj hpq => ?_, fun k q hk => ?_⟩
  · rw [zcs_get] at hi hj
    obtain ⟨a, -, rfl⟩ := Option.map_eq_some_iff.mp hi
    obtain ⟨a', -, rfl⟩ := Option.map_eq_some_iff.mp hj
    have h3 : o + i = o + j := hpq
    omega
  · rw [zcs_get] at hk
    obtain ⟨a, -, rfl⟩ := Option.map_eq_some_iff.mp hk
    show o ≤ o + k
    omega
def zC (G : zG) (o : Nat) (es : List va_E) (H : Heap) : Prop := va_P G.1 zCl (zcs o es) H ∧ H.size = o + es.length
theorem zC_push {G : zG} {o : Nat} {es : List va_E} {e : va_E} {H H1 : Heap} (h : zC G o es H) (hz : H1.size = H.size + 1) (hk : ∀ q : Nat, q < H.size → H1[q]? = H[q]?) (he : va_at G.1 zCl (o + es.length, e) H1) : zC G o (es ++ [e]) H1 := by
  refine ⟨?_, by rw [hz, h.2, List.length_append]; simp; omega⟩
  rw [zcs_app]
  refine (h.1.kept (fun k q hq => hk q.1 (h.1 k q hq).lt)).app (fun k q hq => ?_)
  simp only [zcs] at hq
  have h0 : k < 1 := (List.getElem?_eq_some_iff.mp hq).1
  rw [show k = 0 by omega] at hq
  cases hq
  exact he
/-- the words on the private constructors -/
def zNn (U : State) : Prop := ∀ q ∈ znest, va_Nw (.methodLinkNest q.1 q.2.1 q.2.2 "IntegerSplitter") U
theorem zNn_warm {s U : State} (hW : s.WarmedH U.vm) (h : zNn s) : zNn U := fun q hq => va_Nw.warmM hW (h q hq)
theorem zNn_same {s U : State} (h0 : s.vm = U.vm) (h : zNn s) : zNn U := fun q hq => va_Nw.same rfl h0 (h q hq)
abbrev zCc (G : zG) (o : Nat) (e0 : va_E) : Array Value → State → Prop := va_Pc [.ref o] (fun U => zC G o [e0] U.heap ∧ va_K G.1 zCl (zty G) U ∧ zNn U ∧ va_AOA .long U)
abbrev zQc (G : zG) (o : Nat) (es : List va_E) : Array Value → State → Outcome → State → Prop := va_Qv (fun (_ : Unit) => True) (fun _ t => zC G o es t.heap) (zA o)
theorem va_AOA_moved {ty : FieldType} {u U : State} (hvm : u.vm.Alike U.vm) (h : va_AOA ty u) : va_AOA ty U := by
  obtain ⟨comp, c, k, h1, h2, h3, h4, h5⟩ := arrayOverA_spec h
  obtain ⟨k', hk', he⟩ := hvm.2.2 _ _ h3
  have hi : (U.vm.classes.findIdx? fun (x : Class) => match x.kind with | .array component _ => component == comp | _ => false) = some c := by
    rw [hvm.findIdx?_eq _ (fun _ => rfl)]; exact h2
  have hf := hvm.findClass
  unfold va_AOA
  simp only [Cond.before, Cond.holds, Cond.value, beq_iff_eq]
  rw [hf, h1]
  simp only [Option.bind_some, Option.bind_eq_some_iff, Option.map_eq_some_iff]
  refine ⟨c, hi, k', hk', ?_⟩
  rw [he]
  simp [h4, hf, h5]
section ZCT
variable {p : Program} {l : Launch} {e : Env} {R : Room} {s : State} {m : MethodId} {args : Array Value} {below : List Frame} {meth : Method} {c : Code} {H : Heap} {locs : List Loc} {cells slots : Nat} {Q : State → Prop}
variable {cc : ByteArray} {pc : Nat} {ls : Array Slot} {rest st0 : List Value} {G : zG} {o o' : Nat} {H0 : Heap} {es pre es' : List va_E} {e0 : va_E} {mc ms : Nat} {a : Array Value}
theorem zC_S {H1 : Heap} (hS : va_S (zA o) H0 H locs) (hz : H.size ≤ H1.size) (hk : ∀ q : Nat, q < H.size → H1[q]? = H[q]?) : va_S (zA o) H0 H1 locs :=
  ⟨Nat.le_trans hS.1 hz, fun q h1 h2 => (hk q (Nat.lt_of_lt_of_le h1 hS.1)).trans (hS.2.1 q h1 h2), hS.2.2⟩
theorem zC_newl (hx : p.tables.exec = Jvm.exec) (hb : c.code = cc) (harr : (Cond.arrayClass .long).before args s = true) (hK : va_K G.1 zCl (zty G) s) (hC : zC G o es H) (hS : va_S (zA o) H0 H locs) {n : Int32} {K k : Nat} (hk : es.length = k) (hn : ¬ n < 0) (hN : n.toNatClampNeg = K) (hby : K * 8 ≤ 536870912) (hce : cells + 1 ≤ R.cells) (hsl : slots + K ≤ R.slots) (hdg : decode cc pc = .ok (.newarray .long, 2))
    (kk : ∀ H1 : Heap, zC G o (es ++ [.inl (G.2.1, K, .inr (.inl (fun _ => 0)))]) H1 → va_S (zA o) H0 H1 locs → W p l e R s m args below meth c H1 locs (cells + 1) (slots + K) Q (F0 m (pc + 2) ls (.ref (o + k) :: rest))) : W p l e R s m args below meth c H locs cells slots Q (F0 m pc ls (.int n :: rest)) := by
  subst hk
  refine va_newaK (atype := .long) hx hb harr rfl hdg rfl hn hN hby hce hsl hC.2 fun H1 cA e1 z1 o1 hAr hNm => ?_
  have hcA : cA = G.2.1 := Option.some.inj (hNm.symm.trans (hK.2 0 _ rfl).2)
  subst hcA
  rw [← hC.2] at o1 z1
  refine kk H1 (zC_push hC z1 o1 ?_) (zC_S hS (by omega) o1)
  show H1[_]? = some (vp_cell _ _)
  rw [e1, vp_cell_l]; rfl
theorem zC_newi (hx : p.tables.exec = Jvm.exec) (hb : c.code = cc) (harr : (Cond.arrayClass .int).before args s = true) (hK : va_K G.1 zCl (zty G) s) (hC : zC G o es H) (hS : va_S (zA o) H0 H locs) {n : Int32} {K k : Nat} (hk : es.length = k) (hn : ¬ n < 0) (hN : n.toNatClampNeg = K) (hby : K * 4 ≤ 536870912) (hce : cells + 1 ≤ R.cells) (hsl : slots + K ≤ R.slots) (hdg : decode cc pc = .ok (.newarray .int, 2))
    (kk : ∀ H1 : Heap, zC G o (es ++ [.inl (G.2.2.1, K, .inl (fun _ => 0))]) H1 → va_S (zA o) H0 H1 locs → W p l e R s m args below meth c H1 locs (cells + 1) (slots + K) Q (F0 m (pc + 2) ls (.ref (o + k) :: rest))) : W p l e R s m args below meth c H locs cells slots Q (F0 m pc ls (.int n :: rest)) := by
  subst hk
  refine va_newaK (atype := .int) hx hb harr rfl hdg rfl hn hN hby hce hsl hC.2 fun H1 cA e1 z1 o1 hAr hNm => ?_
  have hcA : cA = G.2.2.1 := Option.some.inj (hNm.symm.trans (hK.2 1 _ rfl).2)
  subst hcA
  rw [← hC.2] at o1 z1
  refine kk H1 (zC_push hC z1 o1 ?_) (zC_S hS (by omega) o1)
  show H1[_]? = some (vp_cell _ _)
  rw [e1, vp_cell_i]; rfl
theorem zC_newo (hx : p.tables.exec = Jvm.exec) (hb : c.code = cc) {own C : String} {T : u_T} {N ci index k : Nat} (hta : ∀ w ∈ zall, w.before args s = true) (hin : ∀ w ∈ u_ws C T N, w ∈ zall) (ty : Nat → FieldType) (hty : ∀ k, k < N → parseFieldDescriptor (T k).2.2.1 = some (ty k)) (hown : s.vm.findClass own = some m.cls) (hcl : (Cond.classLink own index C).before args s = true) (hinst : (Cond.instantiable C N).before args s = true) (hini : (Cond.initialized C).before args s = true)
    (hK : va_K G.1 zCl (zty G) s) (hC : zC G o es H) (hS : va_S (zA o) H0 H locs) (hk : es.length = k) (hc : zCl[ci]? = some (C, T, N)) {fs : List Value} (hfs : ∀ j, j < N → defaultValue (ty j) = vp_V fs j) (hce : cells + 1 ≤ R.cells) (hsl : slots + N ≤ R.slots) (hdg : decode cc pc = .ok (.new index, 3))
    (kk : ∀ H1 : Heap, zC G o (es ++ [.inr (ci, fs)]) H1 → va_S (zA o) H0 H1 locs → W p l e R s m args below meth c H1 locs (cells + 1) (slots + N) Q (F0 m (pc + 3) ls (.ref (o + k) :: rest))) : W p l e R s m args below meth c H locs cells slots Q (F0 m pc ls rest) := by
  subst hk
  have hKn := hK.1 ci _ hc
  refine W.newcK hx hb hown hcl hinst hini rfl hdg hce hsl hKn.2.1 hC.2 fun H1 kC hkC e1 z1 o1 => ?_
  have e2 := e1
  rw [← hC.2] at o1 z1
  exact kk H1 (zC_push hC z1 o1 ⟨_, hc, (u_born ty hta hin hKn hkC e2 hty).to hfs⟩) (zC_S hS (by omega) o1)
theorem z_arrV {cA : ClassId} {N : Nat} {f g : Nat → Value} (h : ∀ j, j < N → f j = g j) : arrV cA N f = arrV cA N g := by
  unfold arrV
  congr 1
  congr 1
  funext j
  exact h j.val j.isLt
theorem zC_mna (hx : p.tables.exec = Jvm.exec) (hb : c.code = cc) {own : String} {index k : Nat} (hown : s.vm.findClass own = some m.cls) (hclink : (Cond.classLink own index "[[J").before args s = true) (hover : va_AOA .long s) (harr : (Cond.arrayClass .long).before args s = true) (hK : va_K G.1 zCl (zty G) s) (hC : zC G o es H) (hS : va_S (zA o) H0 H locs) (hk : es.length = k)
    {n : Int32} {K : Nat} (hn : ¬ n < 0) (hN : n.toNatClampNeg = K) (hK9 : K ≤ 16) (hce : cells + (1 + K) ≤ R.cells) (hsl : slots + (K + K * 8) ≤ R.slots) (hdg : decode cc pc = .ok (.multianewarray index 2, 4))
    (kk : ∀ H1 : Heap, zC G o ((es ++ [.inl (G.2.2.2, K, .inr (.inr (.inr (.inr (fun i => some (o + (k + 1 + i)))))))]) ++ List.replicate K (.inl (G.2.1, 8, .inr (.inl (fun _ => 0))))) H1 → va_S (zA o) H0 H1 locs → W p l e R s m args below meth c H1 locs (cells + 1 + K) (slots + K + K * 8) Q (F0 m (pc + 4) ls (.ref (o + k) :: rest))) : W p l e R s m args below meth c H locs cells slots Q (F0 m pc ls (.int 8 :: .int n :: rest)) := by
  subst hN
  subst hk
  intro T hT Xs
  obtain ⟨vm₁, cA, comp, -, fA, fC, hO, -, X', step⟩ := Xs.multianewarray2F (ty := .long) hx hown hclink (va_AOA.use hover) harr (g := F0 m pc ls (.int 8 :: .int n :: rest)) rfl (by rw [hb]; exact hdg) rfl hn (by decide) (by omega) (by decide) (by decide) (by decide) (by decide) hce hsl
  have ec : comp = G.2.1 := Option.some.inj (fC.symm.trans (hK.2 0 _ rfl).2)
  have ea : cA = G.2.2.2 := Option.some.inj (fA.symm.trans (hK.2 2 _ rfl).2)
  subst ec
  subst ea
  generalize hF : Jvm.Free.Multi.fill (T.setVm vm₁) G.2.2.2 G.2.1 n.toNatClampNeg (8 : Int32).toNatClampNeg (defaultValue .long) n.toNatClampNeg = F at X' step
  have hTh : (T.setVm vm₁).heap = H := hT
  obtain ⟨f1, f2, -, -⟩ := Jvm.Free.Multi.fill_facts (T.setVm vm₁) G.2.2.2 G.2.1 n.toNatClampNeg (8 : Int32).toNatClampNeg (defaultValue .long) n.toNatClampNeg
  rw [hF, hTh] at f1 f2
  have hold : ∀ x : Nat, x < H.size → F.heap[x]? = H[x]? := fun x hx => by
    have := Jvm.Free.Multi.fill_old (T.setVm vm₁) G.2.2.2 G.2.1 n.toNatClampNeg (8 : Int32).toNatClampNeg (defaultValue .long) (a := x) (by rw [hTh]; exact hx) n.toNatClampNeg
    rw [hF, hTh] at this
    exact this
  have hrow : ∀ j : Nat, j < n.toNatClampNeg → F.heap[H.size + 1 + j]? = some (vp_cell G.2.1 (8, .inr (.inl (fun _ => 0)))) := fun j hj => by
    have := Jvm.Free.Multi.fill_inner (T.setVm vm₁) G.2.2.2 G.2.1 n.toNatClampNeg (8 : Int32).toNatClampNeg (defaultValue .long) n.toNatClampNeg j hj
    rw [hF, hTh] at this
    rw [this, vp_cell_l]
    exact congrArg some (arrV_new _ _ _)
  rw [vr_outer] at f2
  have hsz : F.heap.size = H.size + (1 + n.toNatClampNeg) := by rw [f1]; omega
  have hC1 : zC G o ((es ++ [.inl (G.2.2.2, n.toNatClampNeg, .inr (.inr (.inr (.inr (fun i => some (o + (es.length + 1 + i)))))))]) ++ List.replicate n.toNatClampNeg (.inl (G.2.1, 8, .inr (.inl (fun _ => 0))))) F.heap := by
    refine ⟨?_, by rw [hsz, hC.2]; simp; omega⟩
    rw [zcs_app, zcs_app]
    refine ((hC.1.kept (fun k q hq => hold q.1 (hC.1 k q hq).lt)).app (fun k q hq => ?_)).app (fun k q hq => ?_)
    · simp only [zcs] at hq
      have h0 : k < 1 := (List.getElem?_eq_some_iff.mp hq).1
      rw [show k = 0 by omega] at hq
      cases hq
      show F.heap[o + es.length]? = some (vp_cell _ _)
      rw [← hC.2, f2, vp_cell_q]
      refine congrArg some (z_arrV (fun j hj => ?_))
      rw [if_pos hj, hC.2]
      show va_rf (some (o + es.length + 1 + j)) = va_rf (some (o + (es.length + 1 + j)))
      rw [show o + es.length + 1 + j = o + (es.length + 1 + j) by omega]
    · rw [zcs_get] at hq
      obtain ⟨a, ha, rfl⟩ := Option.map_eq_some_iff.mp hq
      rw [List.getElem?_replicate] at ha
      split at ha
      · rename_i hlt
        cases ha
        show F.heap[_]? = some (vp_cell _ _)
        have h9 := hrow k hlt
        rw [hC.2] at h9
        simp only [List.length_append, List.length_cons, List.length_nil]
        rw [show o + (es.length + (0 + 1)) + k = o + es.length + 1 + k by omega]
        exact h9
      · cases ha
  obtain ⟨t, a1, b1⟩ := kk F.heap hC1 (zC_S hS (by omega) hold) F rfl (by simpa [Nat.add_assoc] using X')
  rw [hT] at step
  exact ⟨t, step t (by rw [hC.2]; exact a1), b1⟩
theorem zC_putF (hx : p.tables.exec = Jvm.exec) (hb : c.code = cc) {own ref C : String} {T : u_T} {N ci index : Nat} (hta : ∀ w ∈ zall, w.before args s = true) (hin : ∀ w ∈ u_ws C T N, w ∈ zall) (ty0 : Nat → FieldType) (hty : ∀ k, k < N → parseFieldDescriptor (T k).2.2.1 = some (ty0 k)) (hnm : ∀ a, a < N → ∀ b, b < N → a ≠ b → (T a).2.1 ≠ (T b).2.1) (hown : s.vm.findClass own = some m.cls) (hK : va_K G.1 zCl (zty G) s) {fs : List Value} (hC : zC G o (.inr (ci, fs) :: es) H) (hS0 : va_S (zA o) H0 H locs) (hc : zCl[ci]? = some (C, T, N)) (k : Nat) (hk : k < N) (hlink : (Cond.fieldLink own index ref (T k).2.1 (T k).2.2.1).before args s = true) (hsame : ∀ x, s.fieldFound? (T k).1 (T k).2.1 (T k).2.2.1 = some x → s.fieldFound? ref (T k).2.1 (T k).2.2.1 = some x) (hfin : (T k).2.2.2 = true) (hin2 : meth.name = "<init>") (hdecl : (T k).1 = own) {ty : FieldType} {v : Value} (hd : parseFieldDescriptor (T k).2.2.1 = some ty) (hn : narrow ty v = v) (hfit : fits ty v = true) (hl : k < fs.length)
    (hdg : decode cc pc = .ok (.putfield index, 3)) (kk : ∀ (H1 : Heap) (locs1 : List Loc), zC G o (.inr (ci, fs.set k v) :: es) H1 → va_S (zA o) H0 H1 locs1 → W p l e R s m args below meth c H1 locs1 cells slots Q (F0 m (pc + 3) ls rest)) : W p l e R s m args below meth c H locs cells slots Q (F0 m pc ls (v :: .ref (o + 0) :: rest)) := by
  have he : (zcs o (.inr (ci, fs) :: es))[0]? = some (o + 0, .inr (ci, fs)) := zcs_at rfl
  have hap := va_apart (own := own) hta hin ty0 hty hnm hK hc
  obtain ⟨r, h1, cell, q1, q2, q3, q4⟩ := hC.1 0 _ he
  have hr : r = (C, T, N) := Option.some.inj (h1.symm.trans hc)
  subst hr
  obtain ⟨hS, hfc, kC, hkC, hkind⟩ := hK.1 ci _ hc
  obtain ⟨cf, kf, fi, f, hi, hsl⟩ := hS k hk
  have hlay := hta _ (hin _ (u_in_lay hk))
  unfold u_lay at hlay
  rw [if_pos hfin] at hlay
  have hst := (u_facts hfc hkC (u_lays hta hin hk) hi).1
  have hcf : m.cls = cf := by
    obtain ⟨_, _, c', _, _, _, -, -, hf', -, -, -, hown2, -⟩ := Cond.laysFinal_spec hlay
    have e1 : c' = cf := by have := hi.symm.trans hf'; simp at this; exact this.1.symm
    rw [hdecl] at hown2
    rw [← e1]; exact Option.some.inj (hown.symm.trans hown2)
  have h6 := u_fits hfc hkC hkind (Or.inr hlay) hi hd hn hfit
  refine W.putFinK hx hb hown hlink (hsame _ hi) hst hcf hin2 (by rw [q2]; exact h6) q1 q3 (by rw [hsl]; exact k2_hasslot (q4 k hk)) rfl rfl hdg fun H' e1 e2 e3 => ?_
  rw [hsl] at e1 ⊢
  have h9 := hC.1.set (H1 := H') (e := .inr (ci, fs.set k v)) zcs_D he ⟨_, hc, t_OB.to (V := updV (vp_V fs) k v) ⟨_, e1, q2, q3, t_set q4 hap hk v⟩ (fun j _ => vp_updV_set hl v j)⟩ e3
  rw [zcs_set] at h9
  exact kk H' _ ⟨h9, by rw [e2, hC.2]; simp⟩ (hS0.put e2 e3 (zcs_D.2 0 _ he))
theorem zC_put (hx : p.tables.exec = Jvm.exec) (hb : c.code = cc) {own ref C : String} {T : u_T} {N ci index : Nat} (hta : ∀ w ∈ zall, w.before args s = true) (hin : ∀ w ∈ u_ws C T N, w ∈ zall) (ty0 : Nat → FieldType) (hty : ∀ k, k < N → parseFieldDescriptor (T k).2.2.1 = some (ty0 k)) (hnm : ∀ a, a < N → ∀ b, b < N → a ≠ b → (T a).2.1 ≠ (T b).2.1) (hown : s.vm.findClass own = some m.cls) (hK : va_K G.1 zCl (zty G) s) {fs : List Value} (hC : zC G o (.inr (ci, fs) :: es) H) (hS0 : va_S (zA o) H0 H locs) (hc : zCl[ci]? = some (C, T, N)) (k : Nat) (hk : k < N) (hlink : (Cond.fieldLink own index ref (T k).2.1 (T k).2.2.1).before args s = true) (hsame : ∀ x, s.fieldFound? (T k).1 (T k).2.1 (T k).2.2.1 = some x → s.fieldFound? ref (T k).2.1 (T k).2.2.1 = some x) (hfin : (T k).2.2.2 = false) {ty : FieldType} {v : Value} (hd : parseFieldDescriptor (T k).2.2.1 = some ty) (hn : narrow ty v = v) (hfit : fits ty v = true) (hl : k < fs.length)
    (hdg : decode cc pc = .ok (.putfield index, 3)) (kk : ∀ (H1 : Heap) (locs1 : List Loc), zC G o (.inr (ci, fs.set k v) :: es) H1 → va_S (zA o) H0 H1 locs1 → W p l e R s m args below meth c H1 locs1 cells slots Q (F0 m (pc + 3) ls rest)) : W p l e R s m args below meth c H locs cells slots Q (F0 m pc ls (v :: .ref (o + 0) :: rest)) := by
  have he : (zcs o (.inr (ci, fs) :: es))[0]? = some (o + 0, .inr (ci, fs)) := zcs_at rfl
  have hap := va_apart (own := own) hta hin ty0 hty hnm hK hc
  obtain ⟨r, h1, cell, q1, q2, q3, q4⟩ := hC.1 0 _ he
  have hr : r = (C, T, N) := Option.some.inj (h1.symm.trans hc)
  subst hr
  obtain ⟨hS, hfc, kC, hkC, hkind⟩ := hK.1 ci _ hc
  obtain ⟨cf, kf, fi, f, hi, hsl⟩ := hS k hk
  have hlay := hta _ (hin _ (u_in_lay hk))
  unfold u_lay at hlay
  rw [if_neg (by rw [hfin]; decide)] at hlay
  have hst := (u_facts hfc hkC (u_lays hta hin hk) hi).1
  have h6 := u_store hfc hkC hkind hlay hi hd hn hfit
  refine W.putK hx hb (f := f) ⟨hown, hlink, ⟨_, _, _, hsame _ hi⟩, hst⟩ (by rw [q2]; exact h6) q1 q3 (by rw [hsl]; exact k2_hasslot (q4 k hk)) rfl rfl hdg fun H' e1 e2 e3 => ?_
  rw [hsl] at e1 ⊢
  have h9 := hC.1.set (H1 := H') (e := .inr (ci, fs.set k v)) zcs_D he ⟨_, hc, t_OB.to (V := updV (vp_V fs) k v) ⟨_, e1, q2, q3, t_set q4 hap hk v⟩ (fun j _ => vp_updV_set hl v j)⟩ e3
  rw [zcs_set] at h9
  exact kk H' _ ⟨h9, by rw [e2, hC.2]; simp⟩ (hS0.put e2 e3 (zcs_D.2 0 _ he))
/-- a store into the int array that was made last -/
theorem zC_iast (hx : p.tables.exec = Jvm.exec) (hb : c.code = cc) (hK : va_K G.1 zCl (zty G) s) {n k : Nat} {f : Nat → Int32} (hC : zC G o (es ++ [.inl (G.2.2.1, n, .inl f)]) H) (hS : va_S (zA o) H0 H locs) (hk : es.length = k) {i x : Int32} (hin : vp_in i n) (hdg : decode cc pc = .ok (.iastore, 1))
    (kk : ∀ (H1 : Heap) (locs1 : List Loc), zC G o (es ++ [.inl (G.2.2.1, n, .inl (upd f i.toNatClampNeg x))]) H1 → va_S (zA o) H0 H1 locs1 → W p l e R s m args below meth c H1 locs1 cells slots Q (F0 m (pc + 1) ls rest)) : W p l e R s m args below meth c H locs cells slots Q (F0 m pc ls (.int x :: .int i :: .ref (o + k) :: rest)) := by
  subst hk
  have he : (es ++ [.inl (G.2.2.1, n, .inl f)])[es.length]? = some (.inl (G.2.2.1, n, .inl f) : va_E) := by simp
  have ha := hC.1 es.length _ (zcs_at he)
  refine W.iast hx hb ha ((hK.2 1 _ rfl).1 n (fun j => .int (f j))) (fun q => by cases q) (by show ¬ (i < 0 ∨ (arrV _ _ _).slots.size ≤ _); rw [arrV_size]; exact hin) rfl rfl hdg fun H1 e z oq => ?_
  have h9 := hC.1.set (e := .inl (G.2.2.1, n, .inl (upd f i.toNatClampNeg x))) zcs_D (zcs_at he) (by
    show H1[_]? = some (vp_cell _ _)
    rw [e, vp_cell_i, vp_cell_i, arrV_store]
    congr 2
    funext q
    by_cases hq : q = i.toNatClampNeg
    · subst hq; simp [updV, upd]
    · simp [updV, upd, hq]) oq
  rw [zcs_set] at h9
  have h8 : (es ++ [.inl (G.2.2.1, n, .inl f)] : List va_E).set es.length (.inl (G.2.2.1, n, .inl (upd f i.toNatClampNeg x))) = (es ++ [.inl (G.2.2.1, n, .inl (upd f i.toNatClampNeg x))] : List va_E) := by
    rw [List.set_append_right _ _ (Nat.le_refl _), Nat.sub_self]
    rfl
  rw [h8] at h9
  exact kk H1 _ ⟨h9, by rw [z, hC.2]; simp⟩ (hS.put z oq (zcs_D.2 _ _ (zcs_at he)))
theorem zC_blind {b0 : va_E} : FrameBlind (zCc G o b0) := fun a U g mk h =>
  ⟨h.1, h.2.1, va_K.moved (u := U) (U := U.calling g mk a) (Vm.Alike.refl U.vm) h.2.2.1, zNn_same (s := U) (U := U.calling g mk a) rfl h.2.2.2.1, va_AOA_moved (u := U) (U := U.calling g mk a) (Vm.Alike.refl U.vm) h.2.2.2.2⟩
theorem zC_one (hC : zC G o (pre ++ [e0]) H) (ho : o + pre.length = o') : zC G o' [e0] H := by
  subst ho
  refine ⟨?_, by rw [hC.2]; simp; omega⟩
  have h := hC.1
  rw [zcs_app] at h
  intro k q hq
  refine h (pre.length + k) q ?_
  rw [List.getElem?_append_right (by rw [zcs_len]; omega), zcs_len]
  rw [show pre.length + k - pre.length = k by omega]
  exact hq
theorem zC_preI (hC : zC G o (pre ++ [e0]) H) (ho : o + pre.length = o') (hK : va_K G.1 zCl (zty G) s) (hN : zNn s) (hO : va_AOA .long s) : PreS s H (zCc G o' e0) [.ref o'] :=
  ⟨zC_blind, fun U hU hW => ⟨rfl, by rw [hU]; exact zC_one hC ho, va_K.moved hW.alike hK, zNn_warm hW hN, va_AOA_moved hW.alike hO⟩⟩
theorem z_ctor (hC : zC G o (pre ++ [e0]) H) (ho : o + pre.length = o') (hr : va_Run p l e R s m args below meth c H locs cells slots mc ms (F0 m pc ls st0) rest (zQc G o' es' a) (zA o')) (hS : va_S (zA o) H0 H locs)
    (kk : ∀ (H1 : Heap) (locs1 : List Loc), zC G o (pre ++ es') H1 → va_S (zA o) H0 H1 locs1 → W p l e R s m args below meth c H1 locs1 (cells + mc) (slots + ms) Q (F0 m (pc + 3) ls rest)) : W p l e R s m args below meth c H locs cells slots Q (F0 m pc ls st0) := by
  subst ho
  refine va_callv hr hS (fun q _ h => ?_) (fun q h => ?_) (fun u t H1 locs1 ht _ hp hB hz hkeep hS1 => kk H1 locs1 ?_ hS1)
  · have h1 : o + pre.length ≤ q := h
    show o ≤ q
    omega
  · have h1 : o + pre.length ≤ q := h
    show o ≤ q
    omega
  · rw [ht] at hB
    refine ⟨?_, by rw [hB.2, List.length_append]; omega⟩
    rw [zcs_app]
    have h := hC.1
    rw [zcs_app] at h
    refine va_P.app (fun k q hq => ?_) hB.1
    have h2 : ((zcs o pre) ++ zcs (o + pre.length) [e0])[k]? = some q := by
      have hlt := (List.getElem?_eq_some_iff.mp hq).1
      rw [List.getElem?_append_left hlt]; exact hq
    have h3 := h k q h2
    refine h3.kept ?_
    refine hkeep q.1 h3.lt (fun hA => ?_)
    rw [zcs_get] at hq
    obtain ⟨a, ha, rfl⟩ := Option.map_eq_some_iff.mp hq
    have h4 := (List.getElem?_eq_some_iff.mp ha).1
    have h5 : o + pre.length ≤ o + k := hA
    omega
theorem zC_vret (hx : p.tables.exec = Jvm.exec) (hb : c.code = cc) (hr : meth.sig.returnType = none) (hlocks : meth.locks = false) (hC : zC G o es H) (hS : va_S (zA o) s.heap H locs) (hdg : decode cc pc = .ok (.return_, 1)) :
    W p l e R s m args below meth c H locs cells slots (MQ below (zQc G o es) args s cells slots (zA o)) (F0 m pc ls []) :=
  W.vret hx hb hr (fun t ht _ => ⟨⟨(), rfl, trivial, by show zC G o es t.heap; rw [ht]; exact hC⟩, hS.F ht⟩) hS.2.2 hdg hlocks
end ZCT
