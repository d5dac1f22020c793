/-! function worlds: n cells at addresses ad, cell k holds cf k (σ k) -/
theorem isb_nar {v : Int32} (h : isb v = true) : narrow .boolean (.int v) = .int v := by
  rcases of_decide_eq_true h with rfl | rfl <;> decide +kernel
theorem isb_fit {v : Int32} (h : isb v = true) : fits .boolean (.int v) = true := by
  rcases of_decide_eq_true h with rfl | rfl <;> decide +kernel
def fw (n : Nat) (ad : Nat → Nat) (cf : Nat → (Nat → Int32) → va_E) (σ : fS) : va_W := (List.range n).map fun k => (ad k, cf k (σ k))
theorem fw_at {n : Nat} {ad : Nat → Nat} {cf : Nat → (Nat → Int32) → va_E} {σ : fS} {k : Nat} (h : k < n) : (fw n ad cf σ)[k]? = some (ad k, cf k (σ k)) := by
  unfold fw
  rw [List.getElem?_map, List.getElem?_range h]
  rfl
theorem fw_inv {n : Nat} {ad : Nat → Nat} {cf : Nat → (Nat → Int32) → va_E} {σ : fS} {k : Nat} {q : Nat × va_E} (h : (fw n ad cf σ)[k]? = some q) : k < n ∧ q = (ad k, cf k (σ k)) := by
  have hk : k < n := by
    have := (List.getElem?_eq_some_iff.mp h).1
    simpa [fw] using this
  rw [fw_at hk] at h
  exact ⟨hk, (Option.some.inj h).symm⟩
theorem fw_set {n : Nat} {ad : Nat → Nat} {cf : Nat → (Nat → Int32) → va_E} {σ : fS} {k : Nat} {row : Nat → Int32} {e : va_E} (h : k < n) (he : cf k row = e) : (fw n ad cf σ).set k (ad k, e) = fw n ad cf (wrr σ k row) := by
  subst he
  apply List.ext_getElem?
  intro i
  by_cases hi : i < n
  · rw [fw_at hi]
    by_cases e : i = k
    · subst e
      rw [List.getElem?_set_self (by simp [fw]; exact hi)]
      simp [wrr]
    · rw [List.getElem?_set_ne (Ne.symm e), fw_at hi]
      simp [wrr, e]
  · have h1 : (fw n ad cf (wrr σ k row))[i]? = none := List.getElem?_eq_none (by simp [fw]; omega)
    have h2 : ((fw n ad cf σ).set k (ad k, cf k row))[i]? = none := List.getElem?_eq_none (by simp [fw]; omega)
    rw [h1, h2]
def fJ (n : Nat) (ad : Nat → Nat) : Prop := ∀ i j, i < n → j < n → ad i = ad j → i = j
def fA (n : Nat) (ad : Nat → Nat) (sz : Nat) : Nat → Prop := fun q => (∃ k, k < n ∧ q = ad k) ∨ sz ≤ q
theorem fw_D {n : Nat} {ad : Nat → Nat} {cf : Nat → (Nat → Int32) → va_E} {σ : fS} {sz : Nat} (hj : fJ n ad) : va_D (fA n ad sz) (fw n ad cf σ) := by
  refine ⟨fun i j x y hi hj' hxy => ?_, fun k q hk => ?_⟩
  · obtain ⟨h1, rfl⟩ := fw_inv hi
    obtain ⟨h2, rfl⟩ := fw_inv hj'
    exact hj i j h1 h2 hxy
  · obtain ⟨h1, rfl⟩ := fw_inv hk
    exact Or.inl ⟨k, h1, rfl⟩
def nwL : List Cond := [.fieldLinkNest "EqualCourt$Partition" 159 "EqualCourt$Terms" "kinds" "[I" "EqualCourt", .fieldLinkNest "EqualCourt$Partition" 162 "EqualCourt$Terms" "shown" "[I" "EqualCourt", .fieldLinkNest "EqualCourt$Partition" 172 "EqualCourt$Terms" "sizes" "[I" "EqualCourt", .fieldLinkNest "EqualCourt$Partition" 150 "EqualCourt$Terms" "parts" "[I" "EqualCourt", .fieldLinkNest "EqualCourt$Partition" 139 "EqualCourt$Terms" "firstPlace" "[I" "EqualCourt", .fieldLinkNest "EqualCourt$Partition" 142 "EqualCourt$Terms" "nextPlace" "[I" "EqualCourt", .methodLinkNest "EqualCourt" 18 ⟨"EqualCourt$Sayings", "<init>", "()V"⟩ "EqualCourt", .methodLinkNest "EqualCourt$Court" 11 ⟨"EqualCourt$Core", "<init>", "()V"⟩ "EqualCourt", .methodLinkNest "EqualCourt$Court" 39 ⟨"EqualCourt$Agenda", "<init>", "()V"⟩ "EqualCourt", .methodLinkNest "EqualCourt" 50 ⟨"EqualCourt$Core", "<init>", "()V"⟩ "EqualCourt", .methodLinkNest "EqualCourt$Terms" 49 ⟨"EqualCourt", "slotFor", "(IIIII)I"⟩ "EqualCourt", .methodLinkNest "EqualCourt$Partition" 165 ⟨"EqualCourt", "slotFor", "(IIIII)I"⟩ "EqualCourt"]
def fN (U : State) : Prop := ∀ w ∈ nwL, va_Nw w U
theorem fN_tab : ∀ w ∈ nwL, w.onTables = true := by decide +kernel
theorem fN.same {u U : State} (h : u.vm = U.vm) (hN : fN u) : fN U := fun w hw => va_Nw.same (fN_tab w hw) h (hN w hw)
theorem fN.warm {s U : State} (hW : s.WarmedH U.vm) (hN : fN s) : fN U := by
  intro w hw
  have h := hN w hw
  simp only [nwL, List.mem_cons, List.not_mem_nil, or_false] at hw
  rcases hw with rfl | rfl | rfl | rfl | rfl | rfl | rfl | rfl | rfl | rfl | rfl | rfl
  all_goals first | exact va_Nw.warmF hW h | exact va_Nw.warmM hW h
def fB (D : va_G) (n : Nat) (ad : Nat → Nat) (cf : Nat → (Nat → Int32) → va_E) (cy cz : ClassId) (σ : fS) (sz : Nat) (U : State) : Prop :=
  U.heap.size = sz ∧ va_P D vwCl (fw n ad cf σ) U.heap ∧ va_K D vwCl [(cy, .int), (cz, .boolean)] U ∧ fJ n ad ∧ fN U
/-- what a method knows all along -/
def fC (D : va_G) (n : Nat) (ad : Nat → Nat) (cy cz : ClassId) (p : Program) (s : State) (m : MethodId) (args : Array Value) (c : Code) (cc : ByteArray) (nL : Nat) (own : String) : Prop :=
  p.tables.exec = Jvm.exec ∧ c.code = cc ∧ c.maxLocals = nL ∧ s.vm.findClass own = some m.cls ∧ (∀ w ∈ TW, w.before args s = true) ∧ va_K D vwCl [(cy, .int), (cz, .boolean)] s ∧ fJ n ad ∧ fN s
/-- where a method is: the world now, and what it has changed -/
def fI (D : va_G) (n : Nat) (ad : Nat → Nat) (cf : Nat → (Nat → Int32) → va_E) (σ : fS) (s : State) (H : Heap) (locs : List Loc) : Prop :=
  va_P D vwCl (fw n ad cf σ) H ∧ va_S (fA n ad s.heap.size) s.heap H locs
abbrev fCd (y : MethodName) (cc : ByteArray) (nL : Nat) (ret : Option FieldType) : List Cond := .code y cc nL ret :: TW
def fMi (D : va_G) (n : Nat) (ad : Nat → Nat) (cf : Nat → (Nat → Int32) → va_E) (cy cz : ClassId) (l : Launch) (y : MethodName) (cc : ByteArray) (nL : Nat) (ret : Option FieldType) (rm : Room) (av : List Value) (σ : fS) (r : Int32) (τ : fS) : Prop :=
  ∀ sz, Met l y (fCd y cc nL ret) rm (va_Pc av (fB D n ad cf cy cz σ sz)) (va_Qi (fun r1 (_ : Unit) => r1 = r) (fun _ t => va_P D vwCl (fw n ad cf τ) t.heap) (fA n ad sz)) 0 0 (fA n ad sz)
def fMl (D : va_G) (n : Nat) (ad : Nat → Nat) (cf : Nat → (Nat → Int32) → va_E) (cy cz : ClassId) (l : Launch) (y : MethodName) (cc : ByteArray) (nL : Nat) (ret : Option FieldType) (rm : Room) (av : List Value) (σ : fS) (r : Int64) (τ : fS) : Prop :=
  ∀ sz, Met l y (fCd y cc nL ret) rm (va_Pc av (fB D n ad cf cy cz σ sz)) (va_Ql (fun r1 (_ : Unit) => r1 = r) (fun _ t => va_P D vwCl (fw n ad cf τ) t.heap) (fA n ad sz)) 0 0 (fA n ad sz)
def fMv (D : va_G) (n : Nat) (ad : Nat → Nat) (cf : Nat → (Nat → Int32) → va_E) (cy cz : ClassId) (l : Launch) (y : MethodName) (cc : ByteArray) (nL : Nat) (ret : Option FieldType) (rm : Room) (av : List Value) (σ : fS) (τ : fS) : Prop :=
  ∀ sz, Met l y (fCd y cc nL ret) rm (va_Pc av (fB D n ad cf cy cz σ sz)) (va_Qv (fun (_ : Unit) => True) (fun _ t => va_P D vwCl (fw n ad cf τ) t.heap) (fA n ad sz)) 0 0 (fA n ad sz)
def fMr (D : va_G) (n : Nat) (ad : Nat → Nat) (cf : Nat → (Nat → Int32) → va_E) (cy cz : ClassId) (l : Launch) (y : MethodName) (cc : ByteArray) (nL : Nat) (ret : Option FieldType) (rm : Room) (av : List Value) (σ : fS) (k : Nat) (τ : fS) : Prop :=
  ∀ sz, Met l y (fCd y cc nL ret) rm (va_Pc av (fB D n ad cf cy cz σ sz)) (va_Qr (fun (_ : Unit) => True) (fun _ a t => a = ad k ∧ va_P D vwCl (fw n ad cf τ) t.heap) (fA n ad sz)) 0 0 (fA n ad sz)
/-- cell k is an int array of L places; a boolean one; an object -/
def fAi (n : Nat) (cf : Nat → (Nat → Int32) → va_E) (cy : ClassId) (k L : Nat) : Prop := k < n ∧ ∀ row, cf k row = .inl (cy, L, .inl row)
def fOb (n : Nat) (cf : Nat → (Nat → Int32) → va_E) (k ci : Nat) (fs : (Nat → Int32) → List Value) : Prop := k < n ∧ ∀ row, cf k row = .inr (ci, fs row)
section FROW
variable {D : va_G} {n : Nat} {ad : Nat → Nat} {cf : Nat → (Nat → Int32) → va_E} {cy cz : ClassId} {cc : ByteArray} {nL : Nat} {own : String} {σ τ : fS}
variable {p : Program} {l : Launch} {e : Env} {R : Room} {s : State} {m : MethodId} {args : Array Value} {below : List Frame} {meth : Method} {c : Code} {H : Heap} {locs : List Loc} {Q : State → Prop} {pc : Nat} {ls : Array Slot} {rest : List Value}
theorem r_iald (hC : fC D n ad cy cz p s m args c cc nL own) (hI : fI D n ad cf σ s H locs) {k L : Nat} (ha : fAi n cf cy k L) {i : Int32} (hin : inb i L = true) (hdg : decode cc pc = .ok (.iaload, 1))
    (kk : W p l e R s m args below meth c H locs 0 0 Q (F0 m (pc + 1) ls (.int (rd σ k i) :: rest))) : W p l e R s m args below meth c H locs 0 0 Q (F0 m pc ls (.int i :: .ref (ad k) :: rest)) :=
  va_iald hC.1 hC.2.1 hC.2.2.2.2.2.1 hI.1 k 0 (by rw [fw_at ha.1, ha.2]) rfl (inb_vp hin) hdg kk
theorem r_zald (hC : fC D n ad cy cz p s m args c cc nL own) (hI : fI D n ad cf σ s H locs) {k L : Nat} (ha : fAi n cf cz k L) {i : Int32} (hin : inb i L = true) (hdg : decode cc pc = .ok (.baload, 1))
    (kk : W p l e R s m args below meth c H locs 0 0 Q (F0 m (pc + 1) ls (.int (rd σ k i) :: rest))) : W p l e R s m args below meth c H locs 0 0 Q (F0 m pc ls (.int i :: .ref (ad k) :: rest)) :=
  va_zald hC.1 hC.2.1 hC.2.2.2.2.2.1 hI.1 k 1 (by rw [fw_at ha.1, ha.2]) rfl (inb_vp hin) hdg kk
theorem r_iast (hC : fC D n ad cy cz p s m args c cc nL own) (hI : fI D n ad cf σ s H locs) {k L : Nat} (ha : fAi n cf cy k L) {i x : Int32} (hin : inb i L = true) (hdg : decode cc pc = .ok (.iastore, 1))
    (kk : ∀ (σ1 : fS) (H1 : Heap) (locs1 : List Loc), σ1 = wr σ k i x → fI D n ad cf σ1 s H1 locs1 → W p l e R s m args below meth c H1 locs1 0 0 Q (F0 m (pc + 1) ls rest)) : W p l e R s m args below meth c H locs 0 0 Q (F0 m pc ls (.int x :: .int i :: .ref (ad k) :: rest)) :=
  va_iast hC.1 hC.2.1 hC.2.2.2.2.2.1 hI.1 (fw_D hC.2.2.2.2.2.2.1) hI.2 k 0 (by rw [fw_at ha.1, ha.2]) rfl (inb_vp hin) hdg fun H1 locs1 hP1 _ hS1 => kk _ H1 locs1 rfl ⟨by
    rw [fw_set ha.1 (ha.2 _)] at hP1; exact hP1, hS1⟩
theorem r_zast (hC : fC D n ad cy cz p s m args c cc nL own) (hI : fI D n ad cf σ s H locs) {k L : Nat} (ha : fAi n cf cz k L) {i x : Int32} (hin : inb i L = true) (hdg : decode cc pc = .ok (.bastore, 1))
    (kk : ∀ (σ1 : fS) (H1 : Heap) (locs1 : List Loc), σ1 = wr σ k i (zb x) → fI D n ad cf σ1 s H1 locs1 → W p l e R s m args below meth c H1 locs1 0 0 Q (F0 m (pc + 1) ls rest)) : W p l e R s m args below meth c H locs 0 0 Q (F0 m pc ls (.int x :: .int i :: .ref (ad k) :: rest)) :=
  va_zast hC.1 hC.2.1 hC.2.2.2.2.2.1 hI.1 (fw_D hC.2.2.2.2.2.2.1) hI.2 k 1 (by rw [fw_at ha.1, ha.2]) rfl (inb_vp hin) hdg fun H1 locs1 hP1 _ hS1 => kk _ H1 locs1 rfl ⟨by
    rw [fw_set ha.1 (ha.2 _)] at hP1; exact hP1, hS1⟩
theorem r_get (hC : fC D n ad cy cz p s m args c cc nL own) (hI : fI D n ad cf σ s H locs) {k ci : Nat} {fs : (Nat → Int32) → List Value} (ho : fOb n cf k ci fs) {C : String} {T : u_T} {N : Nat} (hc : vwCl[ci]? = some (C, T, N)) (hin : ∀ w ∈ u_ws C T N, w ∈ TW) (f : Nat) (hf : f < N) (h1 : (T f).1 = C) {index : Nat} (hlink : Cond.fieldLink own index C (T f).2.1 (T f).2.2.1 ∈ TW) {v : Value} (hv : (fs (σ k))[f]? = some v) (hdg : decode cc pc = .ok (.getfield index, 3))
    (kk : W p l e R s m args below meth c H locs 0 0 Q (F0 m (pc + 3) ls (v :: rest))) : W p l e R s m args below meth c H locs 0 0 Q (F0 m pc ls (.ref (ad k) :: rest)) :=
  va_get (own := own) (ref := C) hC.1 hC.2.1 hC.2.2.2.2.1 hin hC.2.2.2.1 hC.2.2.2.2.2.1 hI.1 k (by rw [fw_at ho.1, ho.2]) hc f hf (hC.2.2.2.2.1 _ hlink) (fun x hx => by rw [← h1]; exact hx) hv hdg kk
theorem r_getN (hC : fC D n ad cy cz p s m args c cc nL own) (hI : fI D n ad cf σ s H locs) {k ci : Nat} {fs : (Nat → Int32) → List Value} (ho : fOb n cf k ci fs) {C : String} {T : u_T} {N : Nat} (hc : vwCl[ci]? = some (C, T, N)) (hin : ∀ w ∈ u_ws C T N, w ∈ TW) (f : Nat) (hf : f < N) (h1 : (T f).1 = C) {index : Nat} {host : String} (hlink : Cond.fieldLinkNest own index C (T f).2.1 (T f).2.2.1 host ∈ nwL) {v : Value} (hv : (fs (σ k))[f]? = some v) (hdg : decode cc pc = .ok (.getfield index, 3))
    (kk : W p l e R s m args below meth c H locs 0 0 Q (F0 m (pc + 3) ls (v :: rest))) : W p l e R s m args below meth c H locs 0 0 Q (F0 m pc ls (.ref (ad k) :: rest)) :=
  va_getN (own := own) (ref := C) (host := host) hC.1 hC.2.1 hC.2.2.2.2.1 hin hC.2.2.2.1 hC.2.2.2.2.2.1 hI.1 k (by rw [fw_at ho.1, ho.2]) hc f hf (va_Nw.use rfl (hC.2.2.2.2.2.2.2 _ hlink)) (fun x hx => by rw [← h1]; exact hx) hv hdg kk
theorem r_put (hC : fC D n ad cy cz p s m args c cc nL own) (hI : fI D n ad cf σ s H locs) {k ci : Nat} {fs : (Nat → Int32) → List Value} (ho : fOb n cf k ci fs) {C : String} {T : u_T} {N : Nat} (hc : vwCl[ci]? = some (C, T, N)) (hin : ∀ w ∈ u_ws C T N, w ∈ TW) (ty0 : Nat → FieldType) (hty : ∀ k, k < N → parseFieldDescriptor (T k).2.2.1 = some (ty0 k)) (hnm : ∀ a, a < N → ∀ b, b < N → a ≠ b → (T a).2.1 ≠ (T b).2.1) (f : Nat) (hf : f < N) (h1 : (T f).1 = C) (hfin : (T f).2.2.2 = false) {index : Nat} (hlink : Cond.fieldLink own index C (T f).2.1 (T f).2.2.1 ∈ TW) {v : Value} {x : Int32} (hn : narrow (ty0 f) v = v) (hfit : fits (ty0 f) v = true) (hl : f < (fs (σ k)).length) (hset : (fs (σ k)).set f v = fs (upd (σ k) f x)) (hdg : decode cc pc = .ok (.putfield index, 3))
    (kk : ∀ (σ1 : fS) (H1 : Heap) (locs1 : List Loc), σ1 = wf σ k f x → fI D n ad cf σ1 s H1 locs1 → W p l e R s m args below meth c H1 locs1 0 0 Q (F0 m (pc + 3) ls rest)) : W p l e R s m args below meth c H locs 0 0 Q (F0 m pc ls (v :: .ref (ad k) :: rest)) :=
  va_put (own := own) (ref := C) hC.1 hC.2.1 hC.2.2.2.2.1 hin ty0 hty hnm hC.2.2.2.1 hC.2.2.2.2.2.1 hI.1 (fw_D hC.2.2.2.2.2.2.1) hI.2 k (by rw [fw_at ho.1, ho.2]) hc f hf (hC.2.2.2.2.1 _ hlink) (fun x hx => by rw [← h1]; exact hx) hfin (hty f hf) hn hfit hl hdg fun H1 locs1 hP1 _ hS1 => kk _ H1 locs1 rfl ⟨by
    rw [hset, fw_set ho.1 (ho.2 _)] at hP1; exact hP1, hS1⟩
/-- what the tables say of a method that is called -/
def fY (y : MethodName) (C : String) (cc : ByteArray) (nL : Nat) (ret : Option FieldType) (np : Nat) : Prop :=
  Cond.instanceMethod y ∈ TW ∧ Cond.selects C y y ∈ TW ∧ Cond.initialized C ∈ TW ∧ Cond.code y cc nL ret ∈ TW ∧ (y.cls = C ∧ y.cls ≠ "java/lang/invoke/MethodHandle" ∧ y.cls ≠ "java/lang/invoke/VarHandle" ∧ (parseMethodDescriptor y.desc).map (fun d => d.parameters.length) = some np)
theorem fG {y : MethodName} {cc : ByteArray} {nL : Nat} {ret : Option FieldType} (h : Cond.code y cc nL ret ∈ TW) : GoodIn TW (fCd y cc nL ret) := by
  intro w hw
  rcases List.mem_cons.mp hw with rfl | hw
  · exact ⟨h, good_of_word (TW_good _ h)⟩
  · exact ⟨hw, good_of_word (TW_good _ hw)⟩
theorem fB_blind {av : List Value} {sz : Nat} : FrameBlind (va_Pc av (fB D n ad cf cy cz σ sz)) := by
  intro a U g mk q
  obtain ⟨q0, q1, qP, qK, qJ, qN⟩ := q
  exact ⟨q0, q1, qP, va_K.moved (u := U) (U := U.calling g mk a) (Vm.Alike.refl U.vm) qK, qJ, fN.same (u := U) rfl qN⟩
theorem fB_pre {av : List Value} (hC : fC D n ad cy cz p s m args c cc nL own) (hI : fI D n ad cf σ s H locs) : ∀ U : State, U.heap = H → s.WarmedH U.vm → va_Pc av (fB D n ad cf cy cz σ H.size) av.toArray U := fun U hU hW =>
  ⟨rfl, by rw [hU], by rw [hU]; exact hI.1, va_K.moved hW.alike hC.2.2.2.2.2.1, hC.2.2.2.2.2.2.1, fN.warm hW hC.2.2.2.2.2.2.2⟩
theorem fA_sub (hI : fI D n ad cf σ s H locs) : ∀ q, fA n ad H.size q → fA n ad s.heap.size q := fun q h => by
  rcases h with h | h
  · exact Or.inl h
  · exact Or.inr (Nat.le_trans hI.2.1 h)
variable {y : MethodName} {cb : ByteArray} {nB : Nat} {ret : Option FieldType} {rm : Room} {As st : List Value} {r : Int32} {rl : Int64} {kr : Nat}
theorem r_calli (hC : fC D n ad cy cz p s m args c cc nL own) (hI : fI D n ad cf σ s H locs) {k ci : Nat} {fs : (Nat → Int32) → List Value} (ho : fOb n cf k ci fs) {C : String} {T : u_T} {N : Nat} (hc : vwCl[ci]? = some (C, T, N)) {np : Nat} (hy : fY y C cb nB ret np) {index : Nat} (hlink : Cond.methodLink own index y ∈ TW) (hM : fMi D n ad cf cy cz l y cb nB ret rm (.ref (ad k) :: As) σ r τ) (hR : rm.frames + 1 ≤ R.frames ∧ 8 + (nB + 11) + rm.locals ≤ R.locals) (hrc : rm.cells = 0 ∧ rm.slots = 0) (hn : As.length = np) (hls : ls.size = nL) (hst : st = As.reverse ++ .ref (ad k) :: rest) (hroom : (rest.map fun v => v.category).sum ≤ 8) (hdg : decode cc pc = .ok (.invokevirtual index, 3))
    (kk : ∀ (H1 : Heap) (locs1 : List Loc), fI D n ad cf τ s H1 locs1 → W p l e R s m args below meth c H1 locs1 0 0 Q (F0 m (pc + 3) ls (.int r :: rest))) : W p l e R s m args below meth c H locs 0 0 Q (F0 m pc ls st) := by
  have hp := fB_pre (av := .ref (ad k) :: As) hC hI
  obtain ⟨hx, hb, hml, hown, hts, hK, hJ, hN⟩ := id hC
  have hGv : GoodIn TW (wsV own index C y (fCd y cb nB ret)) := by
    intro w hw
    rcases List.mem_append.mp hw with hw | hw
    · simp only [List.mem_cons, List.not_mem_nil, or_false] at hw
      rcases hw with rfl | rfl | rfl | rfl
      · exact ⟨hlink, good_of_word (TW_good _ hlink)⟩
      · exact ⟨hy.1, good_of_word (TW_good _ hy.1)⟩
      · exact ⟨hy.2.1, good_of_word (TW_good _ hy.2.1)⟩
      · exact ⟨hy.2.2.1, good_of_word (TW_good _ hy.2.2.1)⟩
    · exact fG hy.2.2.2.1 w hw
  refine va_calli (va_runV (As := As) (rest := rest) ⟨hx, hb, hml, hown, hts⟩ (hM H.size) (cwV np hts hGv rfl hrc.1 hrc.2 hy.2.2.2.2 hR) ⟨fB_blind, va_recv hK hI.1 (q0 := k) hc (by rw [fw_at ho.1, ho.2]), hp⟩ rfl hn hls hst (lv_room hroom) hdg ⟨Nat.zero_le _, Nat.zero_le _⟩) hI.2 (fun q _ h => fA_sub hI q h) (fA_sub hI) (fun r1 u t H1 locs1 ht hvm hw hB hz1 hk1 hS => ?_)
  subst hw
  exact kk H1 locs1 ⟨by rw [← ht]; exact hB, hS⟩
theorem r_callv (hC : fC D n ad cy cz p s m args c cc nL own) (hI : fI D n ad cf σ s H locs) {k ci : Nat} {fs : (Nat → Int32) → List Value} (ho : fOb n cf k ci fs) {C : String} {T : u_T} {N : Nat} (hc : vwCl[ci]? = some (C, T, N)) {np : Nat} (hy : fY y C cb nB ret np) {index : Nat} (hlink : Cond.methodLink own index y ∈ TW) (hM : fMv D n ad cf cy cz l y cb nB ret rm (.ref (ad k) :: As) σ τ) (hR : rm.frames + 1 ≤ R.frames ∧ 8 + (nB + 11) + rm.locals ≤ R.locals) (hrc : rm.cells = 0 ∧ rm.slots = 0) (hn : As.length = np) (hls : ls.size = nL) (hst : st = As.reverse ++ .ref (ad k) :: rest) (hroom : (rest.map fun v => v.category).sum ≤ 8) (hdg : decode cc pc = .ok (.invokevirtual index, 3))
    (kk : ∀ (H1 : Heap) (locs1 : List Loc), fI D n ad cf τ s H1 locs1 → W p l e R s m args below meth c H1 locs1 0 0 Q (F0 m (pc + 3) ls rest)) : W p l e R s m args below meth c H locs 0 0 Q (F0 m pc ls st) := by
  have hp := fB_pre (av := .ref (ad k) :: As) hC hI
  obtain ⟨hx, hb, hml, hown, hts, hK, hJ, hN⟩ := id hC
  have hGv : GoodIn TW (wsV own index C y (fCd y cb nB ret)) := by
    intro w hw
    rcases List.mem_append.mp hw with hw | hw
    · simp only [List.mem_cons, List.not_mem_nil, or_false] at hw
      rcases hw with rfl | rfl | rfl | rfl
      · exact ⟨hlink, good_of_word (TW_good _ hlink)⟩
      · exact ⟨hy.1, good_of_word (TW_good _ hy.1)⟩
      · exact ⟨hy.2.1, good_of_word (TW_good _ hy.2.1)⟩
      · exact ⟨hy.2.2.1, good_of_word (TW_good _ hy.2.2.1)⟩
    · exact fG hy.2.2.2.1 w hw
  refine va_callv (va_runV (As := As) (rest := rest) ⟨hx, hb, hml, hown, hts⟩ (hM H.size) (cwV np hts hGv rfl hrc.1 hrc.2 hy.2.2.2.2 hR) ⟨fB_blind, va_recv hK hI.1 (q0 := k) hc (by rw [fw_at ho.1, ho.2]), hp⟩ rfl hn hls hst (lv_room hroom) hdg ⟨Nat.zero_le _, Nat.zero_le _⟩) hI.2 (fun q _ h => fA_sub hI q h) (fA_sub hI) (fun u t H1 locs1 ht hvm hw hB hz1 hk1 hS => ?_)
  exact kk H1 locs1 ⟨by rw [← ht]; exact hB, hS⟩
theorem r_calll (hC : fC D n ad cy cz p s m args c cc nL own) (hI : fI D n ad cf σ s H locs) {k ci : Nat} {fs : (Nat → Int32) → List Value} (ho : fOb n cf k ci fs) {C : String} {T : u_T} {N : Nat} (hc : vwCl[ci]? = some (C, T, N)) {np : Nat} (hy : fY y C cb nB ret np) {index : Nat} (hlink : Cond.methodLink own index y ∈ TW) (hM : fMl D n ad cf cy cz l y cb nB ret rm (.ref (ad k) :: As) σ rl τ) (hR : rm.frames + 1 ≤ R.frames ∧ 8 + (nB + 11) + rm.locals ≤ R.locals) (hrc : rm.cells = 0 ∧ rm.slots = 0) (hn : As.length = np) (hls : ls.size = nL) (hst : st = As.reverse ++ .ref (ad k) :: rest) (hroom : (rest.map fun v => v.category).sum ≤ 8) (hdg : decode cc pc = .ok (.invokevirtual index, 3))
    (kk : ∀ (H1 : Heap) (locs1 : List Loc), fI D n ad cf τ s H1 locs1 → W p l e R s m args below meth c H1 locs1 0 0 Q (F0 m (pc + 3) ls (.long rl :: rest))) : W p l e R s m args below meth c H locs 0 0 Q (F0 m pc ls st) := by
  have hp := fB_pre (av := .ref (ad k) :: As) hC hI
  obtain ⟨hx, hb, hml, hown, hts, hK, hJ, hN⟩ := id hC
  have hGv : GoodIn TW (wsV own index C y (fCd y cb nB ret)) := by
    intro w hw
    rcases List.mem_append.mp hw with hw | hw
    · simp only [List.mem_cons, List.not_mem_nil, or_false] at hw
      rcases hw with rfl | rfl | rfl | rfl
      · exact ⟨hlink, good_of_word (TW_good _ hlink)⟩
      · exact ⟨hy.1, good_of_word (TW_good _ hy.1)⟩
      · exact ⟨hy.2.1, good_of_word (TW_good _ hy.2.1)⟩
      · exact ⟨hy.2.2.1, good_of_word (TW_good _ hy.2.2.1)⟩
    · exact fG hy.2.2.2.1 w hw
  refine va_calll (va_runV (As := As) (rest := rest) ⟨hx, hb, hml, hown, hts⟩ (hM H.size) (cwV np hts hGv rfl hrc.1 hrc.2 hy.2.2.2.2 hR) ⟨fB_blind, va_recv hK hI.1 (q0 := k) hc (by rw [fw_at ho.1, ho.2]), hp⟩ rfl hn hls hst (lv_room hroom) hdg ⟨Nat.zero_le _, Nat.zero_le _⟩) hI.2 (fun q _ h => fA_sub hI q h) (fA_sub hI) (fun r1 u t H1 locs1 ht hvm hw hB hz1 hk1 hS => ?_)
  subst hw
  exact kk H1 locs1 ⟨by rw [← ht]; exact hB, hS⟩
theorem r_callr (hC : fC D n ad cy cz p s m args c cc nL own) (hI : fI D n ad cf σ s H locs) {k ci : Nat} {fs : (Nat → Int32) → List Value} (ho : fOb n cf k ci fs) {C : String} {T : u_T} {N : Nat} (hc : vwCl[ci]? = some (C, T, N)) {np : Nat} (hy : fY y C cb nB ret np) {index : Nat} (hlink : Cond.methodLink own index y ∈ TW) (hM : fMr D n ad cf cy cz l y cb nB ret rm (.ref (ad k) :: As) σ kr τ) (hR : rm.frames + 1 ≤ R.frames ∧ 8 + (nB + 11) + rm.locals ≤ R.locals) (hrc : rm.cells = 0 ∧ rm.slots = 0) (hn : As.length = np) (hls : ls.size = nL) (hst : st = As.reverse ++ .ref (ad k) :: rest) (hroom : (rest.map fun v => v.category).sum ≤ 8) (hdg : decode cc pc = .ok (.invokevirtual index, 3))
    (kk : ∀ (H1 : Heap) (locs1 : List Loc), fI D n ad cf τ s H1 locs1 → W p l e R s m args below meth c H1 locs1 0 0 Q (F0 m (pc + 3) ls (.ref (ad kr) :: rest))) : W p l e R s m args below meth c H locs 0 0 Q (F0 m pc ls st) := by
  have hp := fB_pre (av := .ref (ad k) :: As) hC hI
  obtain ⟨hx, hb, hml, hown, hts, hK, hJ, hN⟩ := id hC
  have hGv : GoodIn TW (wsV own index C y (fCd y cb nB ret)) := by
    intro w hw
    rcases List.mem_append.mp hw with hw | hw
    · simp only [List.mem_cons, List.not_mem_nil, or_false] at hw
      rcases hw with rfl | rfl | rfl | rfl
      · exact ⟨hlink, good_of_word (TW_good _ hlink)⟩
      · exact ⟨hy.1, good_of_word (TW_good _ hy.1)⟩
      · exact ⟨hy.2.1, good_of_word (TW_good _ hy.2.1)⟩
      · exact ⟨hy.2.2.1, good_of_word (TW_good _ hy.2.2.1)⟩
    · exact fG hy.2.2.2.1 w hw
  refine va_callr (va_runV (As := As) (rest := rest) ⟨hx, hb, hml, hown, hts⟩ (hM H.size) (cwV np hts hGv rfl hrc.1 hrc.2 hy.2.2.2.2 hR) ⟨fB_blind, va_recv hK hI.1 (q0 := k) hc (by rw [fw_at ho.1, ho.2]), hp⟩ rfl hn hls hst (lv_room hroom) hdg ⟨Nat.zero_le _, Nat.zero_le _⟩) hI.2 (fun q _ h => fA_sub hI q h) (fA_sub hI) (fun u ra t H1 locs1 ht hvm hw hB hz1 hk1 hS => ?_)
  obtain ⟨rfl, hB⟩ := hB
  exact kk H1 locs1 ⟨by rw [← ht]; exact hB, hS⟩
/-- a static method of a nest mate, that keeps the world -/
theorem r_callsn (hC : fC D n ad cy cz p s m args c cc nL own) (hI : fI D n ad cf σ s H locs) {np : Nat} {host : String} (hcode : Cond.code y cb nB ret ∈ TW) (hini : Cond.initialized y.cls ∈ TW) (hstat : Cond.static y ∈ TW) (hd : y.cls ≠ "java/lang/invoke/MethodHandle" ∧ y.cls ≠ "java/lang/invoke/VarHandle" ∧ (parseMethodDescriptor y.desc).map (fun d => d.parameters.length) = some np) {index : Nat} (hlink : Cond.methodLinkNest own index y host ∈ nwL) (hM : fMi D n ad cf cy cz l y cb nB ret rm As σ r τ) (hR : rm.frames + 1 ≤ R.frames ∧ 8 + (nB + 11) + rm.locals ≤ R.locals) (hrc : rm.cells = 0 ∧ rm.slots = 0) (hn : As.length = np) (hls : ls.size = nL) (hst : st = As.reverse ++ rest) (hroom : (rest.map fun v => v.category).sum ≤ 8) (hdg : decode cc pc = .ok (.invokestatic index, 3))
    (kk : ∀ (H1 : Heap) (locs1 : List Loc), fI D n ad cf τ s H1 locs1 → W p l e R s m args below meth c H1 locs1 0 0 Q (F0 m (pc + 3) ls (.int r :: rest))) : W p l e R s m args below meth c H locs 0 0 Q (F0 m pc ls st) := by
  have hp := fB_pre (av := As) hC hI
  obtain ⟨hx, hb, hml, hown, hts, hK, hJ, hN⟩ := id hC
  refine va_calli (va_runSN (As := As) (rest := rest) ⟨hx, hb, hml, hown, hts⟩ (hM H.size) ⟨va_cnB np hts (fG hcode) rfl hrc.1 hrc.2 (hN _ hlink) (hts _ hini) hd hR, hts _ hstat, trivial⟩ ⟨fB_blind, hp⟩ rfl hn hls hst (lv_room hroom) hdg ⟨Nat.zero_le _, Nat.zero_le _⟩) hI.2 (fun q _ h => fA_sub hI q h) (fA_sub hI) (fun r1 u t H1 locs1 ht hvm hw hB hz1 hk1 hS => ?_)
  subst hw
  exact kk H1 locs1 ⟨by rw [← ht]; exact hB, hS⟩
theorem r_min (hC : fC D n ad cy cz p s m args c cc nL own) (hls : ls.size = nL) {index : Nat} (hlink : Cond.methodLink own index Lib.Math.min.name ∈ TW) (hstat : Cond.static Lib.Math.min.name ∈ TW) (hini : Cond.initialized "java/lang/Math" ∈ TW) (hcode : Cond.code Lib.Math.min.name Lib.Math.min.code 2 (some .int) ∈ TW) (hframes : 1 ≤ R.frames) (hlocals : (rest.map fun v => v.category).sum + 13 ≤ R.locals) {x y : Int32} (hdg : decode cc pc = .ok (.invokestatic index, 3))
    (kk : W p l e R s m args below meth c H locs 0 0 Q (F0 m (pc + 3) ls (.int (if y < x then y else x) :: rest))) : W p l e R s m args below meth c H locs 0 0 Q (F0 m pc ls (.int y :: .int x :: rest)) :=
  va_mmin hC.1 hC.2.1 (hC.2.2.1.trans hls.symm) hC.2.2.2.1 (hC.2.2.2.2.1 _ hlink) (hC.2.2.2.2.1 _ hstat) (hC.2.2.2.2.1 _ hini) (hC.2.2.2.2.1 _ hcode) hframes hlocals (Nat.zero_le _) (Nat.zero_le _) hdg kk
theorem r_copyi (hC : fC D n ad cy cz p s m args c cc nL own) (hI : fI D n ad cf σ s H locs) (hls : ls.size = nL) {index : Nat} (hlink : Cond.methodLink own index arraycopyName ∈ TW) (hnat : Cond.native arraycopyName ∈ TW) (hstat : Cond.static arraycopyName ∈ TW) (hini : Cond.initialized "java/lang/System" ∈ TW) {k0 k1 n0 n1 : Nat} (ha0 : fAi n cf cy k0 n0) (ha1 : fAi n cf cy k1 n1) {sp dp cn : Int32} (hc : cpb sp dp cn n0 n1 = true) (hframes : 1 ≤ R.frames) (hlocals : (rest.map fun v => v.category).sum + (nativeFrameWords "java/lang/System" "arraycopy" 5 + 11) ≤ R.locals) (hdg : decode cc pc = .ok (.invokestatic index, 3))
    (kk : ∀ (σ1 : fS) (H1 : Heap) (locs1 : List Loc), σ1 = cpy σ k0 sp k1 dp cn → fI D n ad cf σ1 s H1 locs1 → W p l e R s m args below meth c H1 locs1 0 0 Q (F0 m (pc + 3) ls rest)) : W p l e R s m args below meth c H locs 0 0 Q (F0 m pc ls (.int cn :: .int dp :: .ref (ad k1) :: .int sp :: .ref (ad k0) :: rest)) := by
  obtain ⟨h1, h2, h3, h4, h5⟩ := of_decide_eq_true hc
  exact va_copyi hC.1 hC.2.1 (hC.2.2.1.trans hls.symm) hC.2.2.2.1 (hC.2.2.2.2.1 _ hlink) (hC.2.2.2.2.1 _ hnat) (hC.2.2.2.2.1 _ hstat) (hC.2.2.2.2.1 _ hini) hC.2.2.2.2.2.1 hI.1 (fw_D hC.2.2.2.2.2.2.1) hI.2 k0 k1 0 0 (by rw [fw_at ha0.1, ha0.2]) (by rw [fw_at ha1.1, ha1.2]) rfl rfl rfl h1 h2 h3 h4 h5 (fun i _ => rfl) hframes hlocals hdg fun H1 locs1 hP1 _ hS1 => kk _ H1 locs1 rfl ⟨by
    rw [fw_set ha1.1 (ha1.2 _)] at hP1; exact hP1, hS1⟩
/-- a method's body: from its first instruction to its return -/
theorem f_bodyi {av : List Value} {rm : Room} (hy : plainName y.cls = true) (hlen : (lg_sl av).length ≤ nL) (body : ∀ (p : Program) (e : Env) (s : State) (m : MethodId) (args : Array Value) (below : List Frame) (meth : Method) (c : Code) (Q : State → Prop), fC D n ad cy cz p s m args c cc nL y.cls → (∀ {pc : Nat} {ls : Array Slot} {H : Heap} {locs : List Loc} {v : Int32} {z : fS}, some (v, z) = some (r, τ) → decode cc pc = .ok (.ireturn, 1) → fI D n ad cf z s H locs → W p l e rm s m args below meth c H locs 0 0 Q (F0 m pc ls [.int v])) → ∀ ls : Array Slot, lv_has ls nL (lv_args 0 av) → fI D n ad cf σ s s.heap [] → W p l e rm s m args below meth c s.heap [] 0 0 Q (F0 m 0 ls [])) : fMi D n ad cf cy cz l y cc nL (some .int) rm av σ r τ := by
  intro sz
  refine Met.ofW (cc := cc) (maxL := nL) (ret := some .int) hy rfl ?_
  intro p e s m args below meth c s₁ B hml hv
  obtain ⟨rfl, hsz, hP, hK, hj, hN⟩ := hv
  have hts := atoms_spec (ws := fCd y cc nL (some .int)) B.pre
  subst hsz
  have hl := lv_entry av (n := nL) hlen
  rw [lg_entry_eq]
  refine body p e s m _ below meth c _ ⟨B.exec, B.bytes, hml, findClass_of_methodNamed B.named, fun w hw => hts w (List.mem_cons_of_mem _ hw), hK, hj, hN⟩ (fun {pc} {ls} {H} {locs} {v} {z} hvz hd hI => ?_) _ hl ⟨hP, va_S.rf⟩
  cases hvz
  exact W.iret B.exec B.bytes B.returns (fun t ht hW => ⟨⟨r, (), rfl, rfl, by subst ht; exact hI.1⟩, hI.2.F ht⟩) hI.2.2.2 hd (hlocks := B.notSynchronized)
theorem f_bodyz {av : List Value} {rm : Room} (hy : plainName y.cls = true) (hlen : (lg_sl av).length ≤ nL) (body : ∀ (p : Program) (e : Env) (s : State) (m : MethodId) (args : Array Value) (below : List Frame) (meth : Method) (c : Code) (Q : State → Prop), fC D n ad cy cz p s m args c cc nL y.cls → (∀ {pc : Nat} {ls : Array Slot} {H : Heap} {locs : List Loc} {v : Int32} {z : fS}, some (v, z) = some (r, τ) → isb v = true → decode cc pc = .ok (.ireturn, 1) → fI D n ad cf z s H locs → W p l e rm s m args below meth c H locs 0 0 Q (F0 m pc ls [.int v])) → ∀ ls : Array Slot, lv_has ls nL (lv_args 0 av) → fI D n ad cf σ s s.heap [] → W p l e rm s m args below meth c s.heap [] 0 0 Q (F0 m 0 ls [])) : fMi D n ad cf cy cz l y cc nL (some .boolean) rm av σ r τ := by
  intro sz
  refine Met.ofW (cc := cc) (maxL := nL) (ret := some .boolean) hy rfl ?_
  intro p e s m args below meth c s₁ B hml hv
  obtain ⟨rfl, hsz, hP, hK, hj, hN⟩ := hv
  have hts := atoms_spec (ws := fCd y cc nL (some .boolean)) B.pre
  subst hsz
  have hl := lv_entry av (n := nL) hlen
  rw [lg_entry_eq]
  refine body p e s m _ below meth c _ ⟨B.exec, B.bytes, hml, findClass_of_methodNamed B.named, fun w hw => hts w (List.mem_cons_of_mem _ hw), hK, hj, hN⟩ (fun {pc} {ls} {H} {locs} {v} {z} hvz hb01 hd hI => ?_) _ hl ⟨hP, va_S.rf⟩
  cases hvz
  exact W.zret B.exec B.bytes B.returns (isb_nar hb01) (fun t ht hW => ⟨⟨r, (), rfl, rfl, by subst ht; exact hI.1⟩, hI.2.F ht⟩) hI.2.2.2 hd (hlocks := B.notSynchronized)
theorem f_bodyv {av : List Value} {rm : Room} (hy : plainName y.cls = true) (hlen : (lg_sl av).length ≤ nL) (body : ∀ (p : Program) (e : Env) (s : State) (m : MethodId) (args : Array Value) (below : List Frame) (meth : Method) (c : Code) (Q : State → Prop), fC D n ad cy cz p s m args c cc nL y.cls → (∀ {pc : Nat} {ls : Array Slot} {H : Heap} {locs : List Loc} {z : fS}, some z = some τ → decode cc pc = .ok (.return_, 1) → fI D n ad cf z s H locs → W p l e rm s m args below meth c H locs 0 0 Q (F0 m pc ls [])) → ∀ ls : Array Slot, lv_has ls nL (lv_args 0 av) → fI D n ad cf σ s s.heap [] → W p l e rm s m args below meth c s.heap [] 0 0 Q (F0 m 0 ls [])) : fMv D n ad cf cy cz l y cc nL none rm av σ τ := by
  intro sz
  refine Met.ofW (cc := cc) (maxL := nL) (ret := none) hy rfl ?_
  intro p e s m args below meth c s₁ B hml hv
  obtain ⟨rfl, hsz, hP, hK, hj, hN⟩ := hv
  have hts := atoms_spec (ws := fCd y cc nL (none)) B.pre
  subst hsz
  have hl := lv_entry av (n := nL) hlen
  rw [lg_entry_eq]
  refine body p e s m _ below meth c _ ⟨B.exec, B.bytes, hml, findClass_of_methodNamed B.named, fun w hw => hts w (List.mem_cons_of_mem _ hw), hK, hj, hN⟩ (fun {pc} {ls} {H} {locs} {z} hvz hd hI => ?_) _ hl ⟨hP, va_S.rf⟩
  cases hvz
  exact W.vret B.exec B.bytes B.returns (fun t ht hW => ⟨⟨(), rfl, trivial, by subst ht; exact hI.1⟩, hI.2.F ht⟩) hI.2.2.2 hd (hlocks := B.notSynchronized)
theorem f_bodyl {av : List Value} {rm : Room} (hy : plainName y.cls = true) (hlen : (lg_sl av).length ≤ nL) (body : ∀ (p : Program) (e : Env) (s : State) (m : MethodId) (args : Array Value) (below : List Frame) (meth : Method) (c : Code) (Q : State → Prop), fC D n ad cy cz p s m args c cc nL y.cls → (∀ {pc : Nat} {ls : Array Slot} {H : Heap} {locs : List Loc} {v : Int64} {z : fS}, some (v, z) = some (rl, τ) → decode cc pc = .ok (.lreturn, 1) → fI D n ad cf z s H locs → W p l e rm s m args below meth c H locs 0 0 Q (F0 m pc ls [.long v])) → ∀ ls : Array Slot, lv_has ls nL (lv_args 0 av) → fI D n ad cf σ s s.heap [] → W p l e rm s m args below meth c s.heap [] 0 0 Q (F0 m 0 ls [])) : fMl D n ad cf cy cz l y cc nL (some .long) rm av σ rl τ := by
  intro sz
  refine Met.ofW (cc := cc) (maxL := nL) (ret := some .long) hy rfl ?_
  intro p e s m args below meth c s₁ B hml hv
  obtain ⟨rfl, hsz, hP, hK, hj, hN⟩ := hv
  have hts := atoms_spec (ws := fCd y cc nL (some .long)) B.pre
  subst hsz
  have hl := lv_entry av (n := nL) hlen
  rw [lg_entry_eq]
  refine body p e s m _ below meth c _ ⟨B.exec, B.bytes, hml, findClass_of_methodNamed B.named, fun w hw => hts w (List.mem_cons_of_mem _ hw), hK, hj, hN⟩ (fun {pc} {ls} {H} {locs} {v} {z} hvz hd hI => ?_) _ hl ⟨hP, va_S.rf⟩
  cases hvz
  exact W.lret B.exec B.bytes B.returns (fun t ht hW => ⟨⟨rl, (), rfl, rfl, by subst ht; exact hI.1⟩, hI.2.F ht⟩) hI.2.2.2 hd (hlocks := B.notSynchronized)
theorem f_bodyr {C : String} {av : List Value} {rm : Room} (hy : plainName y.cls = true) (hlen : (lg_sl av).length ≤ nL) (body : ∀ (p : Program) (e : Env) (s : State) (m : MethodId) (args : Array Value) (below : List Frame) (meth : Method) (c : Code) (Q : State → Prop), fC D n ad cy cz p s m args c cc nL y.cls → (∀ {pc : Nat} {ls : Array Slot} {H : Heap} {locs : List Loc} {v : Nat} {z : fS}, some (v, z) = some (kr, τ) → decode cc pc = .ok (.areturn, 1) → fI D n ad cf z s H locs → W p l e rm s m args below meth c H locs 0 0 Q (F0 m pc ls [.ref (ad v)])) → ∀ ls : Array Slot, lv_has ls nL (lv_args 0 av) → fI D n ad cf σ s s.heap [] → W p l e rm s m args below meth c s.heap [] 0 0 Q (F0 m 0 ls [])) : fMr D n ad cf cy cz l y cc nL (some (.object C)) rm av σ kr τ := by
  intro sz
  refine Met.ofW (cc := cc) (maxL := nL) (ret := some (.object C)) hy rfl ?_
  intro p e s m args below meth c s₁ B hml hv
  obtain ⟨rfl, hsz, hP, hK, hj, hN⟩ := hv
  have hts := atoms_spec (ws := fCd y cc nL (some (.object C))) B.pre
  subst hsz
  have hl := lv_entry av (n := nL) hlen
  rw [lg_entry_eq]
  refine body p e s m _ below meth c _ ⟨B.exec, B.bytes, hml, findClass_of_methodNamed B.named, fun w hw => hts w (List.mem_cons_of_mem _ hw), hK, hj, hN⟩ (fun {pc} {ls} {H} {locs} {v} {z} hvz hd hI => ?_) _ hl ⟨hP, va_S.rf⟩
  cases hvz
  exact W.aret B.exec B.bytes B.returns (Or.inl ⟨C, rfl⟩) (Or.inr ⟨_, rfl⟩) (fun t ht hW => ⟨⟨(), ad kr, rfl, trivial, rfl, by subst ht; exact hI.1⟩, hI.2.F ht⟩) hI.2.2.2 hd (hlocks := B.notSynchronized)
end FROW
theorem ret_p {α : Type} {v r : α} (z : fS) (h : some v = some r) : some (v, z) = some (r, z) := by cases h; rfl
theorem none_no {α : Type} {P : Prop} {r : α} (h : none = some r) : P := by cases h
