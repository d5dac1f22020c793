/-! constructors: worlds that grow, as lists -/
def cB (D : va_G) (cy cz : ClassId) (ws : va_W) (sz : Nat) (U : State) : Prop :=
  U.heap.size = sz ∧ va_P D vwCl ws U.heap ∧ va_K D vwCl [(cy, .int), (cz, .boolean)] U ∧ va_D (fun _ => True) ws ∧ fN U
def fMc (D : va_G) (cy cz : ClassId) (l : Launch) (y : MethodName) (cc : ByteArray) (nL : Nat) (rm : Room) (av : List Value) (ws : va_W) (mc ms : Nat) (post : (Nat → Nat) → va_W) : Prop :=
  ∀ sz, Met l y (fCd y cc nL none) rm (va_Pc av (cB D cy cz ws sz)) (va_Qv (fun (_ : Nat → Nat) => True) (fun a t => va_P D vwCl (post a) t.heap ∧ va_D (va_A ws sz) (post a)) (va_A ws sz)) mc ms (va_A ws sz)
def cC (D : va_G) (cy cz : ClassId) (p : Program) (s : State) (m : MethodId) (args : Array Value) (c : Code) (cc : ByteArray) (nL : Nat) (own : String) : Prop :=
  p.tables.exec = Jvm.exec ∧ c.code = cc ∧ c.maxLocals = nL ∧ s.vm.findClass own = some m.cls ∧ (∀ w ∈ TW, w.before args s = true) ∧ va_K D vwCl [(cy, .int), (cz, .boolean)] s ∧ fN s
def cI (D : va_G) (A : Nat → Prop) (ws : va_W) (s : State) (H : Heap) (locs : List Loc) : Prop := va_P D vwCl ws H ∧ va_D A ws ∧ va_S A s.heap H locs
section CROW
variable {D : va_G} {cy cz : ClassId} {cc : ByteArray} {nL : Nat} {own : String} {ws : va_W} {A : Nat → Prop}
variable {p : Program} {l : Launch} {e : Env} {R : Room} {s : State} {m : MethodId} {args : Array Value} {below : List Frame} {meth : Method} {c : Code} {H : Heap} {locs : List Loc} {cells slots : Nat} {Q : State → Prop} {pc : Nat} {ls : Array Slot} {rest : List Value}
theorem c_newi (hC : cC D cy cz p s m args c cc nL own) (hA : ∀ q, s.heap.size ≤ q → A q) (hI : cI D A ws s H locs) (harr : Cond.arrayClass .int ∈ TW) {v : Int32} {N : Nat} (hn : ¬ v < 0) (hN : v.toNatClampNeg = N) (hbytes : N * componentBytes .int ≤ 536870912) (hcells : cells + 1 ≤ R.cells) (hslots : slots + N ≤ R.slots) (hdg : decode cc pc = .ok (.newarray .int, 2))
    (kk : ∀ (q : Nat) (H1 : Heap), cI D A (ws ++ [(q, .inl (cy, N, .inl fun _ => 0))]) s H1 locs → W p l e R s m args below meth c H1 locs (cells + 1) (slots + N) Q (F0 m (pc + 2) ls (.ref q :: rest))) : W p l e R s m args below meth c H locs cells slots Q (F0 m pc ls (.int v :: rest)) := by
  obtain ⟨hx, hb, hml, hown, hts, hK, hN'⟩ := hC
  refine va_newa (atype := .int) (ty := .int) (N' := N) (a0 := (N, .inl fun _ => 0)) hx hb (hts _ harr) rfl hK hI.1 hI.2.1 hI.2.2 hA (fun cA => rfl) hn hN hbytes hcells hslots hdg (fun q cA H1 hK1 hP1 hD1 hS1 => ?_)
  have e1 := (hK.2 0 _ rfl).2
  have e2 := (hK1.2 2 _ rfl).2
  have e3 : cA = cy := Option.some.inj ((show s.vm.findClass _ = some cA from e2).symm.trans e1)
  subst e3
  exact kk q H1 ⟨hP1, hD1, hS1⟩
theorem c_newz (hC : cC D cy cz p s m args c cc nL own) (hA : ∀ q, s.heap.size ≤ q → A q) (hI : cI D A ws s H locs) (harr : Cond.arrayClass .boolean ∈ TW) {v : Int32} {N : Nat} (hn : ¬ v < 0) (hN : v.toNatClampNeg = N) (hbytes : N * componentBytes .boolean ≤ 536870912) (hcells : cells + 1 ≤ R.cells) (hslots : slots + N ≤ R.slots) (hdg : decode cc pc = .ok (.newarray .boolean, 2))
    (kk : ∀ (q : Nat) (H1 : Heap), cI D A (ws ++ [(q, .inl (cz, N, .inl fun _ => 0))]) s H1 locs → W p l e R s m args below meth c H1 locs (cells + 1) (slots + N) Q (F0 m (pc + 2) ls (.ref q :: rest))) : W p l e R s m args below meth c H locs cells slots Q (F0 m pc ls (.int v :: rest)) := by
  obtain ⟨hx, hb, hml, hown, hts, hK, hN'⟩ := hC
  refine va_newa (atype := .boolean) (ty := .boolean) (N' := N) (a0 := (N, .inl fun _ => 0)) hx hb (hts _ harr) rfl hK hI.1 hI.2.1 hI.2.2 hA (fun cA => rfl) hn hN hbytes hcells hslots hdg (fun q cA H1 hK1 hP1 hD1 hS1 => ?_)
  have e1 := (hK.2 1 _ rfl).2
  have e2 := (hK1.2 2 _ rfl).2
  have e3 : cA = cz := Option.some.inj ((show s.vm.findClass _ = some cA from e2).symm.trans e1)
  subst e3
  exact kk q H1 ⟨hP1, hD1, hS1⟩
theorem c_putF (hC : cC D cy cz p s m args c cc nL own) (hI : cI D A ws s H locs) (hin2 : meth.name = "<init>") {a q0 ci : Nat} {fs : List Value} (he : ws[q0]? = some (a, .inr (ci, fs))) {T : u_T} {N : Nat} (hc : vwCl[ci]? = some (own, T, N)) (hin : ∀ w ∈ u_ws own T N, w ∈ TW) (ty0 : Nat → FieldType) (hty : ∀ k, k < N → parseFieldDescriptor (T k).2.2.1 = some (ty0 k)) (hnm : ∀ a, a < N → ∀ b, b < N → a ≠ b → (T a).2.1 ≠ (T b).2.1) (f : Nat) (hf : f < N) (h1 : (T f).1 = own) (hfin : (T f).2.2.2 = true) {index : Nat} (hlink : Cond.fieldLink own index own (T f).2.1 (T f).2.2.1 ∈ TW) {v : Value} (hn : narrow (ty0 f) v = v) (hfit : fits (ty0 f) v = true) (hl : f < fs.length) (hdg : decode cc pc = .ok (.putfield index, 3)) {ws' : va_W} (hw : ws.set q0 (a, .inr (ci, fs.set f v)) = ws')
    (kk : ∀ (H1 : Heap) (locs1 : List Loc), cI D A ws' s H1 locs1 → W p l e R s m args below meth c H1 locs1 cells slots Q (F0 m (pc + 3) ls rest)) : W p l e R s m args below meth c H locs cells slots Q (F0 m pc ls (v :: .ref a :: rest)) := by
  subst hw
  exact va_putF (own := own) (ref := own) hC.1 hC.2.1 hC.2.2.2.2.1 hin ty0 hty hnm hC.2.2.2.1 hC.2.2.2.2.2.1 hI.1 hI.2.1 hI.2.2 q0 he hc f hf (hC.2.2.2.2.1 _ hlink) (fun x hx => by rw [← h1]; exact hx) hfin hin2 h1 (hty f hf) hn hfit hl hdg fun H1 locs1 hP1 hD1 hS1 => kk H1 locs1 ⟨hP1, hD1, hS1⟩
theorem c_put (hC : cC D cy cz p s m args c cc nL own) (hI : cI D A ws s H locs) {a q0 ci : Nat} {fs : List Value} (he : ws[q0]? = some (a, .inr (ci, fs))) {T : u_T} {N : Nat} (hc : vwCl[ci]? = some (own, T, N)) (hin : ∀ w ∈ u_ws own T N, w ∈ TW) (ty0 : Nat → FieldType) (hty : ∀ k, k < N → parseFieldDescriptor (T k).2.2.1 = some (ty0 k)) (hnm : ∀ a, a < N → ∀ b, b < N → a ≠ b → (T a).2.1 ≠ (T b).2.1) (f : Nat) (hf : f < N) (h1 : (T f).1 = own) (hfin : (T f).2.2.2 = false) {index : Nat} (hlink : Cond.fieldLink own index own (T f).2.1 (T f).2.2.1 ∈ TW) {v : Value} (hn : narrow (ty0 f) v = v) (hfit : fits (ty0 f) v = true) (hl : f < fs.length) (hdg : decode cc pc = .ok (.putfield index, 3)) {ws' : va_W} (hw : ws.set q0 (a, .inr (ci, fs.set f v)) = ws')
    (kk : ∀ (H1 : Heap) (locs1 : List Loc), cI D A ws' s H1 locs1 → W p l e R s m args below meth c H1 locs1 cells slots Q (F0 m (pc + 3) ls rest)) : W p l e R s m args below meth c H locs cells slots Q (F0 m pc ls (v :: .ref a :: rest)) := by
  subst hw
  exact va_put (own := own) (ref := own) hC.1 hC.2.1 hC.2.2.2.2.1 hin ty0 hty hnm hC.2.2.2.1 hC.2.2.2.2.2.1 hI.1 hI.2.1 hI.2.2 q0 he hc f hf (hC.2.2.2.2.1 _ hlink) (fun x hx => by rw [← h1]; exact hx) hfin (hty f hf) hn hfit hl hdg fun H1 locs1 hP1 hD1 hS1 => kk H1 locs1 ⟨hP1, hD1, hS1⟩
theorem c_get (hC : cC D cy cz p s m args c cc nL own) (hI : cI D A ws s H locs) {a q0 ci : Nat} {fs : List Value} (he : ws[q0]? = some (a, .inr (ci, fs))) {T : u_T} {N : Nat} (hc : vwCl[ci]? = some (own, T, N)) (hin : ∀ w ∈ u_ws own T N, w ∈ TW) (f : Nat) (hf : f < N) (h1 : (T f).1 = own) {index : Nat} (hlink : Cond.fieldLink own index own (T f).2.1 (T f).2.2.1 ∈ TW) {v : Value} (hv : fs[f]? = some v) (hdg : decode cc pc = .ok (.getfield index, 3))
    (kk : W p l e R s m args below meth c H locs cells slots Q (F0 m (pc + 3) ls (v :: rest))) : W p l e R s m args below meth c H locs cells slots Q (F0 m pc ls (.ref a :: rest)) :=
  va_get (own := own) (ref := own) hC.1 hC.2.1 hC.2.2.2.2.1 hin hC.2.2.2.1 hC.2.2.2.2.2.1 hI.1 q0 he hc f hf (hC.2.2.2.2.1 _ hlink) (fun x hx => by rw [← h1]; exact hx) hv hdg kk
theorem c_new (hC : cC D cy cz p s m args c cc nL own) (hA : ∀ q, s.heap.size ≤ q → A q) (hI : cI D A ws s H locs) {C : String} {T : u_T} {N ci index : Nat} (hin : ∀ w ∈ u_ws C T N, w ∈ TW) (ty : Nat → FieldType) (hty : ∀ k, k < N → parseFieldDescriptor (T k).2.2.1 = some (ty k)) (hcl : Cond.classLink own index C ∈ TW) (hinst : Cond.instantiable C N ∈ TW) (hini : Cond.initialized C ∈ TW) (hc : vwCl[ci]? = some (C, T, N)) {fs : List Value} (hfs : ∀ j, j < N → defaultValue (ty j) = vp_V fs j) (hcells : cells + 1 ≤ R.cells) (hslots : slots + N ≤ R.slots) (hdg : decode cc pc = .ok (.new index, 3))
    (kk : ∀ (q : Nat) (H1 : Heap), cI D A (ws ++ [(q, .inr (ci, fs))]) s H1 locs → W p l e R s m args below meth c H1 locs (cells + 1) (slots + N) Q (F0 m (pc + 3) ls (.ref q :: rest))) : W p l e R s m args below meth c H locs cells slots Q (F0 m pc ls rest) :=
  va_new hC.1 hC.2.1 hC.2.2.2.2.1 hin ty hty hC.2.2.2.1 (hC.2.2.2.2.1 _ hcl) (hC.2.2.2.2.1 _ hinst) (hC.2.2.2.2.1 _ hini) hC.2.2.2.2.2.1 hI.1 hI.2.1 hI.2.2 hA hc hfs hcells hslots hdg fun q H1 hP1 hD1 hS1 => kk q H1 ⟨hP1, hD1, hS1⟩
theorem c_obj (hC : cC D cy cz p s m args c cc nL own) {index a : Nat} (hlink : Cond.methodLink own index Lib.objectInit ∈ TW) (hinst : Cond.instanceMethod Lib.objectInit ∈ TW) (hcode : Cond.code Lib.objectInit ⟨#[0xb1]⟩ 1 none ∈ TW) (hls : ls.size = nL) (hdg : decode cc pc = .ok (.invokespecial index, 3)) (hframes : 1 ≤ R.frames) (hlocals : 12 ≤ R.locals)
    (kk : W p l e R s m args below meth c H locs cells slots Q (F0 m (pc + 3) ls [])) : W p l e R s m args below meth c H locs cells slots Q (F0 m pc ls [.ref a]) :=
  W.objInit hC.1 hC.2.1 hC.2.2.2.1 (hC.2.2.2.2.1 _ hlink) (hC.2.2.2.2.1 _ hinst) (hC.2.2.2.2.1 _ hcode) rfl (hls.trans hC.2.2.1.symm) rfl hdg hframes hlocals kk
theorem cB_blind {av : List Value} {sz : Nat} : FrameBlind (va_Pc av (cB D cy cz ws sz)) := by
  intro a U g mk q
  obtain ⟨q0, q1, qP, qK, qD, qN⟩ := q
  exact ⟨q0, q1, qP, va_K.moved (u := U) (U := U.calling g mk a) (Vm.Alike.refl U.vm) qK, qD, fN.same (u := U) rfl qN⟩
theorem cB_pre {av : List Value} {wc : va_W} (hC : cC D cy cz p s m args c cc nL own) (hP : va_P D vwCl wc H) (hD : va_D A wc) : ∀ U : State, U.heap = H → s.WarmedH U.vm → va_Pc av (cB D cy cz wc H.size) av.toArray U := fun U hU hW =>
  ⟨rfl, by rw [hU], by rw [hU]; exact hP, va_K.moved hW.alike hC.2.2.2.2.2.1, hD.weaken (fun _ _ _ _ => trivial), fN.warm hW hC.2.2.2.2.2.2⟩
/-- the last cell of a world is handed to a callee; what comes back stands in its place -/
theorem c_back {w0 w1 : va_W} {q : Nat} {ee : va_E} {H1 : Heap} (hA : ∀ q, s.heap.size ≤ q → A q) (hI : cI D A (w0 ++ [(q, ee)]) s H locs) (hk : ∀ x : Nat, x < H.size → ¬ va_A [(q, ee)] H.size x → H1[x]? = H[x]?) (hP1 : va_P D vwCl w1 H1) (hD1 : va_D (va_A [(q, ee)] H.size) w1) : va_P D vwCl (w0 ++ w1) H1 ∧ va_D A (w0 ++ w1) := by
  obtain ⟨hP, hD, hS⟩ := hI
  have hq : (w0 ++ [(q, ee)])[w0.length]? = some (q, ee) := by rw [List.getElem?_append_right (Nat.le_refl _), Nat.sub_self]; rfl
  have h0 : ∀ (k : Nat) (x : Nat × va_E), w0[k]? = some x → (w0 ++ [(q, ee)])[k]? = some x := fun k x h => by
    rw [List.getElem?_append_left (List.getElem?_eq_some_iff.mp h).1]; exact h
  have apart : ∀ (k : Nat) (x : Nat × va_E), w0[k]? = some x → x.1 < H.size ∧ ¬ va_A [(q, ee)] H.size x.1 := by
    intro k x h
    have hl := (hP k x (h0 k x h)).lt
    refine ⟨hl, fun hx => ?_⟩
    rcases hx with ⟨j, e', hj⟩ | hx
    · have hj0 : j = 0 := by
        have := (List.getElem?_eq_some_iff.mp hj).1
        simpa using this
      subst hj0
      have hj' : (q, ee) = (x.1, e') := Option.some.inj hj
      have e1 : q = x.1 := congrArg Prod.fst hj'
      have := hD.1 k w0.length x (q, ee) (h0 k x h) hq e1.symm
      have := (List.getElem?_eq_some_iff.mp h).1
      omega
    · omega
  refine ⟨va_P.app (fun k x h => ?_) hP1, va_D.app ⟨fun i j x y hi hj hxy => hD.1 i j x y (h0 i x hi) (h0 j y hj) hxy, fun k x h => hD.2 k x (h0 k x h)⟩ (hD1.weaken (fun k x _ h => ?_)) (fun i j x y hx hy hxy => ?_)⟩
  · obtain ⟨g1, g2⟩ := apart k x h
    exact (hP k x (h0 k x h)).kept (hk x.1 g1 g2)
  · rcases h with ⟨j, e', hj⟩ | h
    · have hj0 : j = 0 := by
        have := (List.getElem?_eq_some_iff.mp hj).1
        simpa using this
      subst hj0
      have hj' : (q, ee) = (x.1, e') := Option.some.inj hj
      have e1 : q = x.1 := congrArg Prod.fst hj'
      rw [← e1]
      exact hD.2 _ _ hq
    · exact hA _ (Nat.le_trans hS.1 h)
  · exact (apart i x hx).2 (by rw [hxy]; exact hD1.2 j y hy)
theorem c_freeA {w0 : va_W} {q : Nat} {ee : va_E} (hA : ∀ q, s.heap.size ≤ q → A q) (hI : cI D A (w0 ++ [(q, ee)]) s H locs) : ∀ x, va_A [(q, ee)] H.size x → A x := by
  intro x h
  have hq : (w0 ++ [(q, ee)])[w0.length]? = some (q, ee) := by rw [List.getElem?_append_right (Nat.le_refl _), Nat.sub_self]; rfl
  rcases h with ⟨j, e', hj⟩ | h
  · have hj0 : j = 0 := by
      have := (List.getElem?_eq_some_iff.mp hj).1
      simpa using this
    subst hj0
    have hj' : (q, ee) = (x, e') := Option.some.inj hj
    have e1 : q = x := congrArg Prod.fst hj'
    rw [← e1]
    exact hI.2.1.2 _ _ hq
  · exact hA _ (Nat.le_trans hI.2.2.1 h)
theorem c_lastP {w0 : va_W} {q : Nat} {ee : va_E} (hI : cI D A (w0 ++ [(q, ee)]) s H locs) : va_P D vwCl [(q, ee)] H ∧ va_D A [(q, ee)] := by
  have hq : (w0 ++ [(q, ee)])[w0.length]? = some (q, ee) := by rw [List.getElem?_append_right (Nat.le_refl _), Nat.sub_self]; rfl
  have key : ∀ (k : Nat) (x : Nat × va_E), ([(q, ee)] : va_W)[k]? = some x → k = 0 ∧ x = (q, ee) := by
    intro k x hk
    have hk0 : k = 0 := by
      have := (List.getElem?_eq_some_iff.mp hk).1
      simpa using this
    subst hk0
    exact ⟨rfl, (Option.some.inj hk).symm⟩
  refine ⟨fun k x hk => ?_, fun i j x y hi hj _ => by rw [(key i x hi).1, (key j y hj).1], fun k x hk => ?_⟩
  · rw [(key k x hk).2]; exact hI.1 _ _ hq
  · rw [(key k x hk).2]; exact hI.2.1.2 _ _ hq
variable {y : MethodName} {cb : ByteArray} {nB mc ms : Nat} {rm : Room} {As st : List Value} {post : (Nat → Nat) → va_W}
theorem c_call {w0 : va_W} {q : Nat} {ee : va_E} (hC : cC D cy cz p s m args c cc nL own) (hA : ∀ q, s.heap.size ≤ q → A q) (hI : cI D A (w0 ++ [(q, ee)]) s H locs) (hM : fMc D cy cz l y cb nB rm (.ref q :: As) [(q, ee)] mc ms post) (hcode : Cond.code y cb nB none ∈ TW) (hinst : Cond.instanceMethod y ∈ TW) (hini : Cond.initialized y.cls ∈ TW) {index np : Nat} (hlink : Cond.methodLink own index y ∈ TW) (hy1 : y.name = "<init>") (hd : y.cls ≠ "java/lang/invoke/MethodHandle" ∧ y.cls ≠ "java/lang/invoke/VarHandle" ∧ (parseMethodDescriptor y.desc).map (fun d => d.parameters.length) = some np) (hR : rm.frames + 1 ≤ R.frames ∧ 8 + (nB + 11) + rm.locals ≤ R.locals) (hrc : rm.cells = mc ∧ rm.slots = ms) (hn : As.length = np) (hls : ls.size = nL) (hst : st = As.reverse ++ .ref q :: rest) (hroom : (rest.map fun v => v.category).sum ≤ 8) (hdg : decode cc pc = .ok (.invokespecial index, 3)) (hcs : cells + mc ≤ R.cells ∧ slots + ms ≤ R.slots)
    (kk : ∀ (a : Nat → Nat) (H1 : Heap) (locs1 : List Loc), cI D A (w0 ++ post a) s H1 locs1 → W p l e R s m args below meth c H1 locs1 (cells + mc) (slots + ms) Q (F0 m (pc + 3) ls rest)) : W p l e R s m args below meth c H locs cells slots Q (F0 m pc ls st) := by
  obtain ⟨hPl, hDl⟩ := c_lastP hI
  have hp := cB_pre (av := .ref q :: As) hC hPl hDl
  obtain ⟨hx, hb, hml, hown, hts, hK, hN⟩ := id hC
  refine va_callv (va_runI (As := As) (rest := rest) ⟨hx, hb, hml, hown, hts⟩ (hM H.size) (cwI np hts (fG hcode) rfl hrc.1 hrc.2 (hts _ hini) (hts _ hlink) (hts _ hinst) hy1 hd hR) ⟨cB_blind, hp⟩ rfl hn hls hst (lv_room hroom) hdg hcs) hI.2.2 (fun x _ h => c_freeA hA hI x h) (c_freeA hA hI) (fun u t H1 locs1 ht hvm hw hB hz1 hk1 hS => ?_)
  subst ht
  obtain ⟨hP2, hD2⟩ := c_back hA hI hk1 hB.1 hB.2
  exact kk u _ locs1 ⟨hP2, hD2, hS⟩
theorem c_callN {w0 : va_W} {q : Nat} {ee : va_E} (hC : cC D cy cz p s m args c cc nL own) (hA : ∀ q, s.heap.size ≤ q → A q) (hI : cI D A (w0 ++ [(q, ee)]) s H locs) (hM : fMc D cy cz l y cb nB rm (.ref q :: As) [(q, ee)] mc ms post) (hcode : Cond.code y cb nB none ∈ TW) (hinst : Cond.instanceMethod y ∈ TW) (hini : Cond.initialized y.cls ∈ TW) {index np : Nat} {host : String} (hlink : Cond.methodLinkNest own index y host ∈ nwL) (hy1 : y.name = "<init>") (hd : y.cls ≠ "java/lang/invoke/MethodHandle" ∧ y.cls ≠ "java/lang/invoke/VarHandle" ∧ (parseMethodDescriptor y.desc).map (fun d => d.parameters.length) = some np) (hR : rm.frames + 1 ≤ R.frames ∧ 8 + (nB + 11) + rm.locals ≤ R.locals) (hrc : rm.cells = mc ∧ rm.slots = ms) (hn : As.length = np) (hls : ls.size = nL) (hst : st = As.reverse ++ .ref q :: rest) (hroom : (rest.map fun v => v.category).sum ≤ 8) (hdg : decode cc pc = .ok (.invokespecial index, 3)) (hcs : cells + mc ≤ R.cells ∧ slots + ms ≤ R.slots)
    (kk : ∀ (a : Nat → Nat) (H1 : Heap) (locs1 : List Loc), cI D A (w0 ++ post a) s H1 locs1 → W p l e R s m args below meth c H1 locs1 (cells + mc) (slots + ms) Q (F0 m (pc + 3) ls rest)) : W p l e R s m args below meth c H locs cells slots Q (F0 m pc ls st) := by
  obtain ⟨hPl, hDl⟩ := c_lastP hI
  have hp := cB_pre (av := .ref q :: As) hC hPl hDl
  obtain ⟨hx, hb, hml, hown, hts, hK, hN⟩ := id hC
  refine va_callv (va_runIN (As := As) (rest := rest) ⟨hx, hb, hml, hown, hts⟩ (hM H.size) ⟨va_cnB np hts (fG hcode) rfl hrc.1 hrc.2 (hN _ hlink) (hts _ hini) hd hR, hy1, hts _ hinst⟩ ⟨cB_blind, hp⟩ rfl hn hls hst (lv_room hroom) hdg hcs) hI.2.2 (fun x _ h => c_freeA hA hI x h) (c_freeA hA hI) (fun u t H1 locs1 ht hvm hw hB hz1 hk1 hS => ?_)
  subst ht
  obtain ⟨hP2, hD2⟩ := c_back hA hI hk1 hB.1 hB.2
  exact kk u _ locs1 ⟨hP2, hD2, hS⟩
theorem c_body {av : List Value} (hy : plainName y.cls = true) (hyn : y.name = "<init>") (hlen : (lg_sl av).length ≤ nL) (body : ∀ (p : Program) (e : Env) (s : State) (m : MethodId) (args : Array Value) (below : List Frame) (meth : Method) (c : Code) (Q : State → Prop) (A : Nat → Prop), meth.name = "<init>" → cC D cy cz p s m args c cc nL y.cls → (∀ q, s.heap.size ≤ q → A q) → (∀ {pc : Nat} {ls : Array Slot} {H : Heap} {locs : List Loc} (a : Nat → Nat), decode cc pc = .ok (.return_, 1) → cI D A (post a) s H locs → W p l e rm s m args below meth c H locs mc ms Q (F0 m pc ls [])) → ∀ ls : Array Slot, lv_has ls nL (lv_args 0 av) → cI D A ws s s.heap [] → W p l e rm s m args below meth c s.heap [] 0 0 Q (F0 m 0 ls [])) : fMc D cy cz l y cc nL rm av ws mc ms post := by
  intro sz
  refine Met.ofW (cc := cc) (maxL := nL) (ret := none) hy rfl ?_
  intro p e s m args below meth c s₁ B hml hv
  obtain ⟨rfl, hsz, hP, hK, hD, hN⟩ := hv
  have hts := atoms_spec (ws := fCd y cc nL none) B.pre
  subst hsz
  have hl := lv_entry av (n := nL) hlen
  rw [lg_entry_eq]
  refine body p e s m _ below meth c _ (va_A ws s.heap.size) ((name_of_methodNamed B.named B.method).1.trans hyn) ⟨B.exec, B.bytes, hml, findClass_of_methodNamed B.named, fun w hw => hts w (List.mem_cons_of_mem _ hw), hK, hN⟩ (fun q h => Or.inr h) (fun {pc} {ls} {H} {locs} a hd hI => ?_) _ hl ⟨hP, hD.self, va_S.rf⟩
  exact W.vret B.exec B.bytes B.returns (fun t ht hW => ⟨⟨a, rfl, trivial, by subst ht; exact ⟨hI.1, hI.2.1⟩⟩, hI.2.2.F ht⟩) hI.2.2.2.2 hd (hlocks := B.notSynchronized)
end CROW
