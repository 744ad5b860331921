def zdec : List MethodName := [({ cls := "java/lang/RuntimeException", name := "<init>", desc := "()V" } : Jvm.MethodName), ({ cls := "java/lang/RuntimeException", name := "<init>", desc := "(Ljava/lang/String;)V" } : Jvm.MethodName), ({ cls := "java/lang/Exception", name := "<init>", desc := "()V" } : Jvm.MethodName), ({ cls := "java/lang/Exception", name := "<init>", desc := "(Ljava/lang/String;)V" } : Jvm.MethodName), ({ cls := "java/lang/Throwable", name := "<init>", desc := "()V" } : Jvm.MethodName), ({ cls := "java/lang/Throwable", name := "<init>", desc := "(Ljava/lang/String;)V" } : Jvm.MethodName)]
/-! What the tables and the statics say, as every method's start wants it. -/
def zxn (k : Nat) : String := match k with
  | 1 => "java/lang/IndexOutOfBoundsException"
  | 2 => "java/lang/IllegalArgumentException"
  | 3 => "java/lang/IllegalStateException"
  | 4 => "java/lang/ArithmeticException"
  | _ => "java/util/NoSuchElementException"
def zlp (j : Nat) : Int64 := ([2147483647, 2147483629, 2147483587, 2147483579, 2147483563, 2147483549, 2147483543, 2147483497, 2147483489] : List Int64).getD j 0
def zsp (j : Nat) : Int32 := ([2, 3, 5, 7, 11, 13, 17, 19, 23, 29, 31, 37, 41, 43, 47, 53, 59, 61, 67, 71, 73, 79, 83, 89, 97, 101, 103, 107, 109, 113, 127, 131, 137, 139, 149, 151, 157, 163, 167, 173, 179, 181, 191, 193, 197, 199] : List Int32).getD j 0
/-- words that are true of the tables, but that no list of words may carry -/
def zNw (U : State) : Prop := (∀ k, 1 ≤ k → k ≤ 5 → va_Nw (.castable (zxn k) (zxn k)) U) ∧ (∀ y ∈ zdec, va_Nw (.declares y) U) ∧ ∀ i j, 1 ≤ i → i ≤ 5 → 1 ≤ j → j ≤ 5 → i ≠ j → va_Nc (zxn i) (zxn j) U
theorem zNw_moved {u U : State} (hvm : u.vm.Alike U.vm) (h : zNw u) : zNw U :=
  ⟨fun k h1 h2 => va_tabs rfl (rfl : (u.setVm U.vm).vm = U.vm) (by rw [Cond.castable_setVm hvm]; exact h.1 k h1 h2), fun y hy => va_tabs rfl (rfl : (u.setVm U.vm).vm = U.vm) (by rw [Cond.declares_setVm hvm]; exact h.2.1 y hy), fun i j a b c d e => va_Nc.moved hvm (h.2.2 i j a b c d e)⟩
def zT (b : Nat) (U : State) (H : Heap) : Prop := zNw U ∧ vx_Zq Bundle.tN "UNASSIGNED_STACK" Bundle.steD (zA b) U H ∧ vx_Zq Bundle.tN "SUPPRESSED_SENTINEL" Bundle.listD (zA b) U H ∧
  (∃ t : Nat, va_Z "IntegerSplitter$CommonDivisor" "LARGE_PRIMES" "[J" (.ref t) (zA b) U H ∧ va_T .long t 9 (fun j => .long (zlp j)) (zA b) U H) ∧
  (∃ t : Nat, va_Z "IntegerSplitter$Splitter" "SMALL_PRIMES" "[I" (.ref t) (zA b) U H ∧ va_T .int t 46 (fun j => .int (zsp j)) (zA b) U H)
theorem zT_moved {b : Nat} {u U : State} {H : Heap} (hvm : u.vm.Alike U.vm) (h : zT b u H) : zT b U H := by
  obtain ⟨h0, h1, h2, ⟨t, h3, h4⟩, ⟨t2, h5, h6⟩⟩ := h
  exact ⟨zNw_moved hvm h0, vx_Zq.moved hvm h1, vx_Zq.moved hvm h2, ⟨t, va_Z.moved hvm h3, va_T.moved hvm h4⟩, ⟨t2, va_Z.moved hvm h5, va_T.moved hvm h6⟩⟩
theorem zT_kept {b : Nat} {U : State} {H H1 : Heap} (h : zT b U H) (hq : ∀ a : Nat, a < H.size → ¬ zA b a → H1[a]? = H[a]?) : zT b U H1 := by
  obtain ⟨h0, h1, h2, ⟨t, h3, h4⟩, ⟨t2, h5, h6⟩⟩ := h
  exact ⟨h0, h1.kept hq, h2.kept hq, ⟨t, h3.kept hq, h4.kept hq⟩, ⟨t2, h5.kept hq, h6.kept hq⟩⟩
def zW (G : zG) (b : Nat) (M : zM) (N : zN) (U : State) : Prop := va_P G.1 zCl (zws G b M N) U.heap ∧ va_K G.1 zCl (zty G) U ∧ zT b U U.heap
abbrev zPc (G : zG) (b : Nat) (M : zM) (N : zN) (av : List Value) : Array Value → State → Prop := va_Pc av (zW G b M N)
abbrev zQi (G : zG) (b : Nat) (P : Int32 → zM → zN → Prop) : Array Value → State → Outcome → State → Prop := va_Qi (fun r (u : zM × zN) => P r u.1 u.2) (fun u t => zW G b u.1 u.2 t) (zA b)
abbrev zQl (G : zG) (b : Nat) (P : Int64 → zM → zN → Prop) : Array Value → State → Outcome → State → Prop := va_Ql (fun r (u : zM × zN) => P r u.1 u.2) (fun u t => zW G b u.1 u.2 t) (zA b)
abbrev zQv (G : zG) (b : Nat) (P : zM → zN → Prop) : Array Value → State → Outcome → State → Prop := va_Qv (fun (u : zM × zN) => P u.1 u.2) (fun u t => zW G b u.1 u.2 t) (zA b)
abbrev zQr (G : zG) (b : Nat) (P : Nat → zM → zN → Prop) : Array Value → State → Outcome → State → Prop := va_Qr (fun (u : Nat × zM × zN) => P u.1 u.2.1 u.2.2) (fun u a t => a = b + u.1 ∧ zW G b u.2.1 u.2.2 t) (zA b)
section ZC1
variable {p : Program} {l : Launch} {e : Env} {R : Room} {s : State} {m : MethodId} {args : Array Value} {below : List Frame} {meth : Method} {c : Code} {H : Heap} {locs : List Loc} {cells slots : Nat} {Q : State → Prop}
variable {cc : ByteArray} {pc : Nat} {ls : Array Slot} {rest st0 : List Value} {G : zG} {b : Nat} {M : zM} {N : zN} {H0 : Heap} {As : List Value} {mc ms : Nat} {a : Array Value}
theorem z_now {U : State} (hZ : va_P G.1 zCl (zws G b M N) H) (hK : va_K G.1 zCl (zty G) s) (hT : zT b s s.heap) (hS : va_S (zA b) s.heap H locs) (hU : U.heap = H) (hW : s.vm.Alike U.vm) : zW G b M N U :=
  ⟨by rw [hU]; exact hZ, va_K.moved hW hK, by rw [hU]; exact zT_moved hW (zT_kept hT hS.2.1)⟩
theorem z_blind {av : List Value} : FrameBlind (zPc G b M N av) := fun a U g mk h =>
  ⟨h.1, h.2.1, va_K.moved (u := U) (U := U.calling g mk a) (Vm.Alike.refl U.vm) h.2.2.1, zT_moved (u := U) (U := U.calling g mk a) (Vm.Alike.refl U.vm) h.2.2.2⟩
theorem z_preS (hZ : va_P G.1 zCl (zws G b M N) H) (hK : va_K G.1 zCl (zty G) s) (hT : zT b s s.heap) (hS : va_S (zA b) s.heap H locs) : PreS s H (zPc G b M N As) As :=
  ⟨z_blind, fun U hU hW => ⟨rfl, z_now hZ hK hT hS hU hW.alike⟩⟩
theorem z_preV {C : String} {r : vw_C} {k ci : Nat} {fs : List Value} (he : (zws G b M N)[k]? = some (b + k, .inr (ci, fs))) (hc : zCl[ci]? = some r) (hC : r.1 = C) (hZ : va_P G.1 zCl (zws G b M N) H) (hK : va_K G.1 zCl (zty G) s) (hT : zT b s s.heap) (hS : va_S (zA b) s.heap H locs) : PreV s H C (b + k) (zPc G b M N (Value.ref (b + k) :: As)) As :=
  ⟨z_blind, by rw [← hC]; exact va_recv hK hZ hc he, fun U hU hW => ⟨rfl, z_now hZ hK hT hS hU hW.alike⟩⟩
theorem z_calli {P : Int32 → zM → zN → Prop} (hr : va_Run p l e R s m args below meth c H locs cells slots mc ms (F0 m pc ls st0) rest (zQi G b P a) (zA b)) (hS : va_S (zA b) H0 H locs)
    (kk : ∀ (r : Int32) (M1 : zM) (N1 : zN) (H1 : Heap) (locs1 : List Loc), P r M1 N1 → va_P G.1 zCl (zws G b M1 N1) H1 → va_S (zA b) H0 H1 locs1 → W p l e R s m args below meth c H1 locs1 (cells + mc) (slots + ms) Q (F0 m (pc + 3) ls (.int r :: rest))) : W p l e R s m args below meth c H locs cells slots Q (F0 m pc ls st0) :=
  va_calli hr hS (fun _ _ h => h) (fun _ h => h) (fun r u t H1 locs1 ht _ hp hB _ _ hS1 => kk r u.1 u.2 H1 locs1 hp (by rw [← ht]; exact hB.1) hS1)
theorem z_calll {P : Int64 → zM → zN → Prop} (hr : va_Run p l e R s m args below meth c H locs cells slots mc ms (F0 m pc ls st0) rest (zQl G b P a) (zA b)) (hS : va_S (zA b) H0 H locs)
    (kk : ∀ (r : Int64) (M1 : zM) (N1 : zN) (H1 : Heap) (locs1 : List Loc), P r M1 N1 → va_P G.1 zCl (zws G b M1 N1) H1 → va_S (zA b) H0 H1 locs1 → W p l e R s m args below meth c H1 locs1 (cells + mc) (slots + ms) Q (F0 m (pc + 3) ls (.long r :: rest))) : W p l e R s m args below meth c H locs cells slots Q (F0 m pc ls st0) :=
  va_calll hr hS (fun _ _ h => h) (fun _ h => h) (fun r u t H1 locs1 ht _ hp hB _ _ hS1 => kk r u.1 u.2 H1 locs1 hp (by rw [← ht]; exact hB.1) hS1)
theorem z_callv {P : zM → zN → Prop} (hr : va_Run p l e R s m args below meth c H locs cells slots mc ms (F0 m pc ls st0) rest (zQv G b P a) (zA b)) (hS : va_S (zA b) H0 H locs)
    (kk : ∀ (M1 : zM) (N1 : zN) (H1 : Heap) (locs1 : List Loc), P M1 N1 → va_P G.1 zCl (zws G b M1 N1) H1 → va_S (zA b) H0 H1 locs1 → W p l e R s m args below meth c H1 locs1 (cells + mc) (slots + ms) Q (F0 m (pc + 3) ls rest)) : W p l e R s m args below meth c H locs cells slots Q (F0 m pc ls st0) :=
  va_callv hr hS (fun _ _ h => h) (fun _ h => h) (fun u t H1 locs1 ht _ hp hB _ _ hS1 => kk u.1 u.2 H1 locs1 hp (by rw [← ht]; exact hB.1) hS1)
theorem z_callr {P : Nat → zM → zN → Prop} (hr : va_Run p l e R s m args below meth c H locs cells slots mc ms (F0 m pc ls st0) rest (zQr G b P a) (zA b)) (hS : va_S (zA b) H0 H locs)
    (kk : ∀ (r : Nat) (M1 : zM) (N1 : zN) (H1 : Heap) (locs1 : List Loc), P r M1 N1 → va_P G.1 zCl (zws G b M1 N1) H1 → va_S (zA b) H0 H1 locs1 → W p l e R s m args below meth c H1 locs1 (cells + mc) (slots + ms) Q (F0 m (pc + 3) ls (.ref (b + r) :: rest))) : W p l e R s m args below meth c H locs cells slots Q (F0 m pc ls st0) :=
  va_callr hr hS (fun _ _ h => h) (fun _ h => h) (fun u ra t H1 locs1 ht _ hp hB _ _ hS1 => by
    obtain ⟨h1, h2⟩ := hB
    subst h1
    exact kk u.1 u.2.1 u.2.2 H1 locs1 hp (by rw [← ht]; exact h2.1) hS1)
theorem z_iret {P : Int32 → zM → zN → Prop} {v : Int32} (hx : p.tables.exec = Jvm.exec) (hb : c.code = cc) (hr : meth.sig.returnType = some .int) (hlocks : meth.locks = false) (hK : va_K G.1 zCl (zty G) s) (hT : zT b s s.heap) (hZ : va_P G.1 zCl (zws G b M N) H) (hS : va_S (zA b) s.heap H locs) (hw : P v M N) (hdg : decode cc pc = .ok (.ireturn, 1)) :
    W p l e R s m args below meth c H locs cells slots (MQ below (zQi G b P) args s cells slots (zA b)) (F0 m pc ls [.int v]) :=
  W.iret hx hb hr (fun t ht hW => ⟨⟨v, (M, N), rfl, hw, z_now hZ hK hT hS ht hW.alike⟩, hS.F ht⟩) hS.2.2 hdg hlocks
theorem z_zret {P : Int32 → zM → zN → Prop} {v : Int32} (hx : p.tables.exec = Jvm.exec) (hb : c.code = cc) (hr : meth.sig.returnType = some .boolean) (hlocks : meth.locks = false) (hK : va_K G.1 zCl (zty G) s) (hT : zT b s s.heap) (hZ : va_P G.1 zCl (zws G b M N) H) (hS : va_S (zA b) s.heap H locs) (hw : narrow .boolean (.int v) = .int v ∧ P v M N) (hdg : decode cc pc = .ok (.ireturn, 1)) :
    W p l e R s m args below meth c H locs cells slots (MQ below (zQi G b P) args s cells slots (zA b)) (F0 m pc ls [.int v]) :=
  W.zret hx hb hr hw.1 (fun t ht hW => ⟨⟨v, (M, N), rfl, hw.2, z_now hZ hK hT hS ht hW.alike⟩, hS.F ht⟩) hS.2.2 hdg hlocks
theorem z_lret {P : Int64 → zM → zN → Prop} {v : Int64} (hx : p.tables.exec = Jvm.exec) (hb : c.code = cc) (hr : meth.sig.returnType = some .long) (hlocks : meth.locks = false) (hK : va_K G.1 zCl (zty G) s) (hT : zT b s s.heap) (hZ : va_P G.1 zCl (zws G b M N) H) (hS : va_S (zA b) s.heap H locs) (hw : P v M N) (hdg : decode cc pc = .ok (.lreturn, 1)) :
    W p l e R s m args below meth c H locs cells slots (MQ below (zQl G b P) args s cells slots (zA b)) (F0 m pc ls [.long v]) :=
  W.lret hx hb hr (fun t ht hW => ⟨⟨v, (M, N), rfl, hw, z_now hZ hK hT hS ht hW.alike⟩, hS.F ht⟩) hS.2.2 hdg hlocks
theorem z_vret {P : zM → zN → Prop} (hx : p.tables.exec = Jvm.exec) (hb : c.code = cc) (hr : meth.sig.returnType = none) (hlocks : meth.locks = false) (hK : va_K G.1 zCl (zty G) s) (hT : zT b s s.heap) (hZ : va_P G.1 zCl (zws G b M N) H) (hS : va_S (zA b) s.heap H locs) (hw : P M N) (hdg : decode cc pc = .ok (.return_, 1)) :
    W p l e R s m args below meth c H locs cells slots (MQ below (zQv G b P) args s cells slots (zA b)) (F0 m pc ls []) :=
  W.vret hx hb hr (fun t ht hW => ⟨⟨(M, N), rfl, hw, z_now hZ hK hT hS ht hW.alike⟩, hS.F ht⟩) hS.2.2 hdg hlocks
theorem z_aret {P : Nat → zM → zN → Prop} {v : Nat} {rt : FieldType} (hx : p.tables.exec = Jvm.exec) (hb : c.code = cc) (hr : meth.sig.returnType = some (.array rt)) (hlocks : meth.locks = false) (hK : va_K G.1 zCl (zty G) s) (hT : zT b s s.heap) (hZ : va_P G.1 zCl (zws G b M N) H) (hS : va_S (zA b) s.heap H locs) (hw : P v M N) (hdg : decode cc pc = .ok (.areturn, 1)) :
    W p l e R s m args below meth c H locs cells slots (MQ below (zQr G b P) args s cells slots (zA b)) (F0 m pc ls [.ref (b + v)]) :=
  W.aret hx hb hr (Or.inr ⟨_, rfl⟩) (Or.inr ⟨_, rfl⟩) (fun t ht hW => ⟨⟨(v, M, N), b + v, rfl, hw, rfl, z_now hZ hK hT hS ht hW.alike⟩, hS.F ht⟩) hS.2.2 hdg hlocks
end ZC1
/-! Methods that may throw: P of a return, X of a throw (the number of the exception's class). -/
abbrev zXC (G : zG) (b : Nat) (X : Nat → zM → zN → Prop) : String → State → State → Prop := vx_X (fun (u : Nat × zM × zN) => X u.1 u.2.1 u.2.2) (fun E u t => E = zxn u.1 ∧ zW G b u.2.1 u.2.2 t) (zA b)
section ZX1
variable {p : Program} {l : Launch} {e : Env} {R : Room} {s : State} {m : MethodId} {args : Array Value} {below : List Frame} {meth : Method} {c : Code} {H : Heap} {locs : List Loc} {cells slots : Nat} {Q : State → Prop}
variable {cc : ByteArray} {pc : Nat} {ls : Array Slot} {rest st0 : List Value} {G : zG} {b : Nat} {M : zM} {N : zN} {H0 : Heap} {mc ms : Nat} {a : Array Value} {X : Nat → zM → zN → Prop}
theorem z_xcalli {P : Int32 → zM → zN → Prop} (hr : vx_Run p l e R s m args below meth c H locs cells slots mc ms (F0 m pc ls st0) rest (zQi G b P a) (zXC G b X) (zA b)) (hS : va_S (zA b) H0 H locs)
    (kx : ∀ (k : Nat) (q : Addr) (ce : Cell) (M1 : zM) (N1 : zN) (H1 : Heap) (locs1 : List Loc), X k M1 N1 → va_P G.1 zCl (zws G b M1 N1) H1 → va_S (zA b) H0 H1 locs1 → H1[q]? = some ce → ce.vm = .none → s.vm.findClass (zxn k) = some ce.cls → vx_W p l e R s m args below meth c H1 locs1 (cells + mc) (slots + ms) Q (F0 m pc ls rest) q)
    (kk : ∀ (r : Int32) (M1 : zM) (N1 : zN) (H1 : Heap) (locs1 : List Loc), P r M1 N1 → va_P G.1 zCl (zws G b M1 N1) H1 → va_S (zA b) H0 H1 locs1 → W p l e R s m args below meth c H1 locs1 (cells + mc) (slots + ms) Q (F0 m (pc + 3) ls (.int r :: rest))) : W p l e R s m args below meth c H locs cells slots Q (F0 m pc ls st0) :=
  vx_calli hr hS (fun _ _ h => h) (fun _ h => h) (fun _ _ h => h)
    (fun E ce q u t H1 locs1 ht _ hp hB _ _ hS1 h1 h2 h3 => kx u.1 q ce u.2.1 u.2.2 H1 locs1 hp (by rw [← ht]; exact hB.2.1) hS1 h1 h2 (by rw [← hB.1]; exact h3))
    (fun r u t H1 locs1 ht _ hp hB _ _ hS1 => kk r u.1 u.2 H1 locs1 hp (by rw [← ht]; exact hB.1) hS1)
theorem z_xcalll {P : Int64 → zM → zN → Prop} (hr : vx_Run p l e R s m args below meth c H locs cells slots mc ms (F0 m pc ls st0) rest (zQl G b P a) (zXC G b X) (zA b)) (hS : va_S (zA b) H0 H locs)
    (kx : ∀ (k : Nat) (q : Addr) (ce : Cell) (M1 : zM) (N1 : zN) (H1 : Heap) (locs1 : List Loc), X k M1 N1 → va_P G.1 zCl (zws G b M1 N1) H1 → va_S (zA b) H0 H1 locs1 → H1[q]? = some ce → ce.vm = .none → s.vm.findClass (zxn k) = some ce.cls → vx_W p l e R s m args below meth c H1 locs1 (cells + mc) (slots + ms) Q (F0 m pc ls rest) q)
    (kk : ∀ (r : Int64) (M1 : zM) (N1 : zN) (H1 : Heap) (locs1 : List Loc), P r M1 N1 → va_P G.1 zCl (zws G b M1 N1) H1 → va_S (zA b) H0 H1 locs1 → W p l e R s m args below meth c H1 locs1 (cells + mc) (slots + ms) Q (F0 m (pc + 3) ls (.long r :: rest))) : W p l e R s m args below meth c H locs cells slots Q (F0 m pc ls st0) :=
  vx_calll hr hS (fun _ _ h => h) (fun _ h => h) (fun _ _ h => h)
    (fun E ce q u t H1 locs1 ht _ hp hB _ _ hS1 h1 h2 h3 => kx u.1 q ce u.2.1 u.2.2 H1 locs1 hp (by rw [← ht]; exact hB.2.1) hS1 h1 h2 (by rw [← hB.1]; exact h3))
    (fun r u t H1 locs1 ht _ hp hB _ _ hS1 => kk r u.1 u.2 H1 locs1 hp (by rw [← ht]; exact hB.1) hS1)
theorem z_xcallv {P : zM → zN → Prop} (hr : vx_Run p l e R s m args below meth c H locs cells slots mc ms (F0 m pc ls st0) rest (zQv G b P a) (zXC G b X) (zA b)) (hS : va_S (zA b) H0 H locs)
    (kx : ∀ (k : Nat) (q : Addr) (ce : Cell) (M1 : zM) (N1 : zN) (H1 : Heap) (locs1 : List Loc), X k M1 N1 → va_P G.1 zCl (zws G b M1 N1) H1 → va_S (zA b) H0 H1 locs1 → H1[q]? = some ce → ce.vm = .none → s.vm.findClass (zxn k) = some ce.cls → vx_W p l e R s m args below meth c H1 locs1 (cells + mc) (slots + ms) Q (F0 m pc ls rest) q)
    (kk : ∀ (M1 : zM) (N1 : zN) (H1 : Heap) (locs1 : List Loc), P M1 N1 → va_P G.1 zCl (zws G b M1 N1) H1 → va_S (zA b) H0 H1 locs1 → W p l e R s m args below meth c H1 locs1 (cells + mc) (slots + ms) Q (F0 m (pc + 3) ls rest)) : W p l e R s m args below meth c H locs cells slots Q (F0 m pc ls st0) :=
  vx_callv hr hS (fun _ _ h => h) (fun _ h => h) (fun _ _ h => h)
    (fun E ce q u t H1 locs1 ht _ hp hB _ _ hS1 h1 h2 h3 => kx u.1 q ce u.2.1 u.2.2 H1 locs1 hp (by rw [← ht]; exact hB.2.1) hS1 h1 h2 (by rw [← hB.1]; exact h3))
    (fun u t H1 locs1 ht _ hp hB _ _ hS1 => kk u.1 u.2 H1 locs1 hp (by rw [← ht]; exact hB.1) hS1)
/-- the exception goes through this method -/
theorem z_xout {Qc : Array Value → State → Outcome → State → Prop} {k : Nat} {q : Addr} {ce : Cell} (hout : ∀ x ∈ c.exceptionTable.toList, False) (hlocks : meth.locks = false) (hK : va_K G.1 zCl (zty G) s) (hT : zT b s s.heap) (hZ : va_P G.1 zCl (zws G b M N) H) (hS : va_S (zA b) s.heap H locs) (h1 : H[q]? = some ce) (h2 : ce.vm = .none) (h3 : s.vm.findClass (zxn k) = some ce.cls) (hw : X k M N) (hc : cells ≤ mc) (hs : slots ≤ ms) :
    vx_W p l e R s m args below meth c H locs cells slots (vx_MQ below Qc (zXC G b X) args s mc ms (zA b)) (F0 m pc ls rest) q :=
  vx_out (fun x h => (hout x h).elim) hlocks h1 h2 h3 (fun t ht hv => ⟨(k, M, N), hw, ⟨rfl, z_now hZ hK hT hS ht hv⟩, hS.F ht⟩) hS.2.2 hc hs
/-- throw new X() -/
theorem z_xthrow {Qc : Array Value → State → Outcome → State → Prop} {k : Nat} (hx : p.tables.exec = Jvm.exec) (hb : c.code = cc) (hl : l.stackTraces = false) {own : String} {ik ic : Nat} (hown : s.vm.findClass own = some m.cls)
    (hk : (Cond.classLink own ik (zxn k)).before args s = true) (hini : (Cond.initialized (zxn k)).before args s = true) (hat : ∀ w ∈ vx_at0 own ic (zxn k) ["java/lang/RuntimeException", "java/lang/Exception"], w.before args s = true)
    (hcls : Bundle.fit (zxn k) = true) (hgood : ∀ w ∈ Cond.classLink own ik (zxn k) :: Cond.initialized (zxn k) :: vx_at0 own ic (zxn k) ["java/lang/RuntimeException", "java/lang/Exception"], vx_ot w = true)
    (hout : ∀ x ∈ c.exceptionTable.toList, False) (hlocks : meth.locks = false) (hK : va_K G.1 zCl (zty G) s) (hT : zT b s s.heap) (hZ : va_P G.1 zCl (zws G b M N) H) (hS : va_S (zA b) s.heap H locs) (hsize : ls.size = c.maxLocals)
    (d0 : decode cc pc = .ok (.new ik, 3)) (d3 : decode cc (pc + 3) = .ok (.dup, 1)) (d4 : decode cc (pc + 4) = .ok (.invokespecial ic, 3)) (d7 : decode cc (pc + 7) = .ok (.athrow, 1))
    (hRf : 5 < R.frames) (hRl : 81 ≤ R.locals) (hRc : cells + 1 ≤ R.cells) (hRs : slots + 6 ≤ R.slots) (hw : X k M N) (hc : cells + 1 ≤ mc) (hs : slots + 6 ≤ ms) :
    W p l e R s m args below meth c H locs cells slots (vx_MQ below Qc (zXC G b X) args s mc ms (zA b)) (F0 m pc ls []) := by
  refine vx_throw0 (names := ["java/lang/RuntimeException", "java/lang/Exception"]) hx hb hl hown hcls (by decide) hk hini hat hgood hT.2.1 hT.2.2.1 hS hsize d0 d3 d4 d7 (fun x h => (hout x h).elim) hRf (by simpa using hRl) hRc hRs hlocks (fun t hv hz hq => ?_) hS.2.2 hc hs
  have hF : va_F (zA b) s t := ⟨Nat.le_trans hS.1 hz, fun q h1 h2 => by rw [hq q (Nat.lt_of_lt_of_le h1 hS.1), hS.2.1 q h1 h2]⟩
  refine ⟨(k, M, N), hw, ⟨rfl, hZ.kept (fun j q hj => hq _ (hZ j q hj).lt), va_K.moved hv hK, zT_moved hv (zT_kept hT hF.2)⟩, hF⟩
end ZX1
theorem zgS {own : String} {idx : Nat} {y : MethodName} {c : Cond} (h1 : Cond.methodLink own idx y ∈ zall) (h2 : Cond.static y ∈ zall) (h3 : Cond.initialized y.cls ∈ zall) (h4 : c ∈ zall) : ∀ w ∈ va_wsS own idx y (c :: zall), w ∈ zall := by
  intro w hw
  unfold va_wsS at hw
  rcases List.mem_append.mp hw with h | h
  · simp only [List.mem_cons, List.not_mem_nil, or_false] at h
    rcases h with rfl | rfl | rfl
    · exact h1
    · exact h2
    · exact h3
  · rcases List.mem_cons.mp h with rfl | h
    · exact h4
    · exact h
theorem zgV {own C : String} {idx : Nat} {y : MethodName} {c : Cond} (h1 : Cond.methodLink own idx y ∈ zall) (h2 : Cond.instanceMethod y ∈ zall) (h3 : Cond.selects C y y ∈ zall) (h5 : Cond.initialized C ∈ zall) (h4 : c ∈ zall) : ∀ w ∈ wsV own idx C y (c :: zall), w ∈ zall := by
  intro w hw
  unfold wsV at hw
  rcases List.mem_append.mp hw with h | h
  · simp only [List.mem_cons, List.not_mem_nil, or_false] at h
    rcases h with rfl | rfl | rfl | rfl
    · exact h1
    · exact h2
    · exact h3
    · exact h5
  · rcases List.mem_cons.mp h with rfl | h
    · exact h4
    · exact h
theorem z_copy8 {p : Program} {l : Launch} {e : Env} {R : Room} {s : State} {m : MethodId} {args : Array Value} {below : List Frame} {meth : Method} {c : Code} {H : Heap} {locs : List Loc} {cells slots : Nat} {Q : State → Prop} {cc : ByteArray} {pc : Nat} {ls : Array Slot} {rest : List Value} {G : zG} {b : Nat} {M : zM} {N : zN} {H0 : Heap}
    (hx : p.tables.exec = Jvm.exec) (hb : c.code = cc) (hml : c.maxLocals = ls.size) (hta : ∀ w ∈ zall, w.before args s = true) {own : String} {index : Nat} (hown : s.vm.findClass own = some m.cls) (hlink : (Cond.methodLink own index arraycopyName).before args s = true)
    (hK : va_K G.1 zCl (zty G) s) (hZ : va_P G.1 zCl (zws G b M N) H) (hS : va_S (zA b) H0 H locs) {f t : Nat} (h1 : 8 ≤ zlong f) (h2 : 8 ≤ zlong t) (hfr : 1 ≤ R.frames) (hlo : (rest.map fun v => v.category).sum + (nativeFrameWords "java/lang/System" "arraycopy" 5 + 11) ≤ R.locals) (hdg : decode cc pc = .ok (.invokestatic index, 3))
    (kk : ∀ (M1 : zM) (H1 : Heap) (locs1 : List Loc), M1 = zcpy M f t 0 0 8 → va_P G.1 zCl (zws G b M1 N) H1 → va_S (zA b) H0 H1 locs1 → W p l e R s m args below meth c H1 locs1 cells slots Q (F0 m (pc + 3) ls rest)) : W p l e R s m args below meth c H locs cells slots Q (F0 m pc ls (.int 8 :: .int 0 :: .ref (b + t) :: .int 0 :: .ref (b + f) :: rest)) := by
  have hf : 0 < zlong f := by omega
  have ht : 0 < zlong t := by omega
  refine va_copyl hx hb hml hown hlink (hta _ wd367) (hta _ wd366) (hta _ wd16) hK hZ z_D hS f t 0 0 (by rw [z_at (zlong_lt hf), zc_L hf]) (by rw [z_at (zlong_lt ht), zc_L ht]) rfl rfl rfl (by decide) (by decide) (by decide) h1 h2 (fun _ _ => rfl) hfr hlo hdg (fun H1 locs1 h1 _ h3 => ?_)
  rw [z_set (M' := zcpy M f t 0 0 8) (N' := N) (zlong_lt ht) (by rw [zc_L ht, zcpy_at]; rfl) (fun j hj => zcpy_ne hj) (fun j _ => rfl)] at h1
  exact kk _ H1 locs1 rfl h1 h3
