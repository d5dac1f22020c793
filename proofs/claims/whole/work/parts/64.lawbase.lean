/-! the law: two worlds side by side, both made since the law began -/
def lC (D : va_G) (aX aM : Nat → Nat) (cy cz : ClassId) (p : Program) (s : State) (m : MethodId) (args : Array Value) (c : Code) : Prop :=
  p.tables.exec = Jvm.exec ∧ c.code = code ∧ c.maxLocals = 4 ∧ s.vm.findClass "EqualCourtLaw" = some m.cls ∧ (∀ w ∈ TW, w.before args s = true) ∧ va_K D vwCl [(cy, .int), (cz, .boolean)] s ∧ fN s ∧ fJ 76 aX ∧ fJ 31 aM ∧ (∀ i j, i < 76 → j < 31 → aX i ≠ aM j) ∧ (∀ i, i < 76 → s.heap.size ≤ aX i) ∧ (∀ i, i < 31 → s.heap.size ≤ aM i)
def lI (D : va_G) (aX aM : Nat → Nat) (cy cz : ClassId) (zX zM : fS) (s : State) (H : Heap) (locs : List Loc) : Prop :=
  va_P D vwCl (fw 76 aX (cfX aX cy cz) zX) H ∧ va_P D vwCl (fw 31 aM (cfM aM cy cz) zM) H ∧ va_S (fun q => s.heap.size ≤ q) s.heap H locs
section LROW
variable {D : va_G} {aX aM : Nat → Nat} {cy cz : ClassId} {zX zM τ : fS}
variable {p : Program} {l : Launch} {e : Env} {R : Room} {s : State} {m : MethodId} {args : Array Value} {below : List Frame} {meth : Method} {c : Code} {H : Heap} {locs : List Loc} {cells slots : Nat} {Q : State → Prop} {pc : Nat} {ls : Array Slot} {rest : List Value}
variable {y : MethodName} {cb : ByteArray} {nB : Nat} {ret : Option FieldType} {rm : Room} {As st : List Value} {r : Int32} {rl : Int64}
theorem l_good {C : String} {index np : Nat} (hy : fY y C cb nB ret np) (hlink : Cond.methodLink "EqualCourtLaw" index y ∈ TW) : GoodIn TW (wsV "EqualCourtLaw" index C y (fCd y cb nB ret)) := by
  intro w hw
  rcases List.mem_append.mp hw with hw | hw
  · simp only [List.mem_cons, List.not_mem_nil, or_false] at hw
    rcases hw with rfl | rfl | rfl | rfl
    · exact ⟨hlink, good_of_word (TW_good _ hlink)⟩
    · exact ⟨hy.1, good_of_word (TW_good _ hy.1)⟩
    · exact ⟨hy.2.1, good_of_word (TW_good _ hy.2.1)⟩
    · exact ⟨hy.2.2.1, good_of_word (TW_good _ hy.2.2.1)⟩
  · exact fG hy.2.2.2.1 w hw
theorem l_keep {n : Nat} {ad : Nat → Nat} {cf : Nat → (Nat → Int32) → va_E} {z : fS} {H1 : Heap} {A1 : Nat → Prop} (hP : va_P D vwCl (fw n ad cf z) H) (hk : ∀ q : Nat, q < H.size → ¬ A1 q → H1[q]? = H[q]?) (ha : ∀ i, i < n → ¬ A1 (ad i)) : va_P D vwCl (fw n ad cf z) H1 := by
  refine hP.kept (fun k q h => ?_)
  have hl := (hP k q h).lt
  obtain ⟨h1, rfl⟩ := fw_inv h
  exact hk _ hl (ha k h1)
theorem l_callX (hL : lC D aX aM cy cz p s m args c) (hI : lI D aX aM cy cz zX zM s H locs) {np : Nat} (hy : fY y "EqualCourt" cb nB ret np) {index : Nat} (hlink : Cond.methodLink "EqualCourtLaw" index y ∈ TW) (hM : fMi D 76 aX (cfX aX cy cz) cy cz l y cb nB ret rm (.ref (aX 0) :: As) zX r τ) (hR : rm.frames + 1 ≤ R.frames ∧ 8 + (nB + 11) + rm.locals ≤ R.locals) (hrc : rm.cells = 0 ∧ rm.slots = 0) (hn : As.length = np) (hls : ls.size = 4) (hst : st = As.reverse ++ .ref (aX 0) :: rest) (hroom : (rest.map fun v => v.category).sum ≤ 8) (hdg : decode code pc = .ok (.invokevirtual index, 3)) (hcs : cells ≤ R.cells ∧ slots ≤ R.slots)
    (kk : ∀ (H1 : Heap) (locs1 : List Loc), lI D aX aM cy cz τ zM s H1 locs1 → W p l e R s m args below meth c H1 locs1 cells slots Q (F0 m (pc + 3) ls (.int r :: rest))) : W p l e R s m args below meth c H locs cells slots Q (F0 m pc ls st) := by
  obtain ⟨hx, hb, hml, hown, hts, hK, hN, hJX, hJM, hap, hX1, hM1⟩ := hL
  have hp : ∀ U : State, U.heap = H → s.WarmedH U.vm → va_Pc (.ref (aX 0) :: As) (fB D 76 aX (cfX aX cy cz) cy cz zX H.size) (Value.ref (aX 0) :: As).toArray U := fun U hU hW => ⟨rfl, by rw [hU], by rw [hU]; exact hI.1, va_K.moved hW.alike hK, hJX, fN.warm hW hN⟩
  have hfree : ∀ q, fA 76 aX H.size q → s.heap.size ≤ q := fun q h => by
    rcases h with ⟨k, hk, rfl⟩ | h
    · exact hX1 k hk
    · exact Nat.le_trans hI.2.2.1 h
  refine va_calli (va_runV (As := As) (rest := rest) ⟨hx, hb, hml, hown, hts⟩ (hM H.size) (cwV np hts (l_good hy hlink) rfl hrc.1 hrc.2 hy.2.2.2.2 hR) ⟨fB_blind, va_recv hK hI.1 (q0 := 0) (ci := 8) rfl (by rw [fw_at (by decide), oX_0.2]), hp⟩ rfl hn hls hst (lv_room hroom) hdg hcs) hI.2.2 (fun q _ h => hfree q h) hfree (fun r1 u t H1 locs1 ht hvm hw hB hz1 hk1 hS => ?_)
  subst hw
  subst ht
  refine kk _ locs1 ⟨hB, l_keep hI.2.1 hk1 (fun i hi h => ?_), hS⟩
  rcases h with ⟨k, hk, h⟩ | h
  · exact hap k i hk hi h.symm
  · exact absurd (hI.2.1 i _ (fw_at hi)).lt (Nat.not_lt.mpr h)
theorem l_callM (hL : lC D aX aM cy cz p s m args c) (hI : lI D aX aM cy cz zX zM s H locs) {np : Nat} (hy : fY y "EqualCourtModel" cb nB ret np) {index : Nat} (hlink : Cond.methodLink "EqualCourtLaw" index y ∈ TW) (hM : fMi D 31 aM (cfM aM cy cz) cy cz l y cb nB ret rm (.ref (aM 0) :: As) zM r τ) (hR : rm.frames + 1 ≤ R.frames ∧ 8 + (nB + 11) + rm.locals ≤ R.locals) (hrc : rm.cells = 0 ∧ rm.slots = 0) (hn : As.length = np) (hls : ls.size = 4) (hst : st = As.reverse ++ .ref (aM 0) :: rest) (hroom : (rest.map fun v => v.category).sum ≤ 8) (hdg : decode code pc = .ok (.invokevirtual index, 3)) (hcs : cells ≤ R.cells ∧ slots ≤ R.slots)
    (kk : ∀ (H1 : Heap) (locs1 : List Loc), lI D aX aM cy cz zX τ s H1 locs1 → W p l e R s m args below meth c H1 locs1 cells slots Q (F0 m (pc + 3) ls (.int r :: rest))) : W p l e R s m args below meth c H locs cells slots Q (F0 m pc ls st) := by
  obtain ⟨hx, hb, hml, hown, hts, hK, hN, hJX, hJM, hap, hX1, hM1⟩ := hL
  have hp : ∀ U : State, U.heap = H → s.WarmedH U.vm → va_Pc (.ref (aM 0) :: As) (fB D 31 aM (cfM aM cy cz) cy cz zM H.size) (Value.ref (aM 0) :: As).toArray U := fun U hU hW => ⟨rfl, by rw [hU], by rw [hU]; exact hI.2.1, va_K.moved hW.alike hK, hJM, fN.warm hW hN⟩
  have hfree : ∀ q, fA 31 aM H.size q → s.heap.size ≤ q := fun q h => by
    rcases h with ⟨k, hk, rfl⟩ | h
    · exact hM1 k hk
    · exact Nat.le_trans hI.2.2.1 h
  refine va_calli (va_runV (As := As) (rest := rest) ⟨hx, hb, hml, hown, hts⟩ (hM H.size) (cwV np hts (l_good hy hlink) rfl hrc.1 hrc.2 hy.2.2.2.2 hR) ⟨fB_blind, va_recv hK hI.2.1 (q0 := 0) (ci := 9) rfl (by rw [fw_at (by decide), oM_0.2]), hp⟩ rfl hn hls hst (lv_room hroom) hdg hcs) hI.2.2 (fun q _ h => hfree q h) hfree (fun r1 u t H1 locs1 ht hvm hw hB hz1 hk1 hS => ?_)
  subst hw
  subst ht
  refine kk _ locs1 ⟨l_keep hI.1 hk1 (fun i hi h => ?_), hB, hS⟩
  rcases h with ⟨k, hk, h⟩ | h
  · exact hap i k hi hk h
  · exact absurd (hI.1 i _ (fw_at hi)).lt (Nat.not_lt.mpr h)
theorem l_callXl (hL : lC D aX aM cy cz p s m args c) (hI : lI D aX aM cy cz zX zM s H locs) {np : Nat} (hy : fY y "EqualCourt" cb nB ret np) {index : Nat} (hlink : Cond.methodLink "EqualCourtLaw" index y ∈ TW) (hM : fMl D 76 aX (cfX aX cy cz) cy cz l y cb nB ret rm (.ref (aX 0) :: As) zX rl τ) (hR : rm.frames + 1 ≤ R.frames ∧ 8 + (nB + 11) + rm.locals ≤ R.locals) (hrc : rm.cells = 0 ∧ rm.slots = 0) (hn : As.length = np) (hls : ls.size = 4) (hst : st = As.reverse ++ .ref (aX 0) :: rest) (hroom : (rest.map fun v => v.category).sum ≤ 8) (hdg : decode code pc = .ok (.invokevirtual index, 3)) (hcs : cells ≤ R.cells ∧ slots ≤ R.slots)
    (kk : ∀ (H1 : Heap) (locs1 : List Loc), lI D aX aM cy cz τ zM s H1 locs1 → W p l e R s m args below meth c H1 locs1 cells slots Q (F0 m (pc + 3) ls (.long rl :: rest))) : W p l e R s m args below meth c H locs cells slots Q (F0 m pc ls st) := by
  obtain ⟨hx, hb, hml, hown, hts, hK, hN, hJX, hJM, hap, hX1, hM1⟩ := hL
  have hp : ∀ U : State, U.heap = H → s.WarmedH U.vm → va_Pc (.ref (aX 0) :: As) (fB D 76 aX (cfX aX cy cz) cy cz zX H.size) (Value.ref (aX 0) :: As).toArray U := fun U hU hW => ⟨rfl, by rw [hU], by rw [hU]; exact hI.1, va_K.moved hW.alike hK, hJX, fN.warm hW hN⟩
  have hfree : ∀ q, fA 76 aX H.size q → s.heap.size ≤ q := fun q h => by
    rcases h with ⟨k, hk, rfl⟩ | h
    · exact hX1 k hk
    · exact Nat.le_trans hI.2.2.1 h
  refine va_calll (va_runV (As := As) (rest := rest) ⟨hx, hb, hml, hown, hts⟩ (hM H.size) (cwV np hts (l_good hy hlink) rfl hrc.1 hrc.2 hy.2.2.2.2 hR) ⟨fB_blind, va_recv hK hI.1 (q0 := 0) (ci := 8) rfl (by rw [fw_at (by decide), oX_0.2]), hp⟩ rfl hn hls hst (lv_room hroom) hdg hcs) hI.2.2 (fun q _ h => hfree q h) hfree (fun r1 u t H1 locs1 ht hvm hw hB hz1 hk1 hS => ?_)
  subst hw
  subst ht
  refine kk _ locs1 ⟨hB, l_keep hI.2.1 hk1 (fun i hi h => ?_), hS⟩
  rcases h with ⟨k, hk, h⟩ | h
  · exact hap k i hk hi h.symm
  · exact absurd (hI.2.1 i _ (fw_at hi)).lt (Nat.not_lt.mpr h)
theorem l_callMl (hL : lC D aX aM cy cz p s m args c) (hI : lI D aX aM cy cz zX zM s H locs) {np : Nat} (hy : fY y "EqualCourtModel" cb nB ret np) {index : Nat} (hlink : Cond.methodLink "EqualCourtLaw" index y ∈ TW) (hM : fMl D 31 aM (cfM aM cy cz) cy cz l y cb nB ret rm (.ref (aM 0) :: As) zM rl τ) (hR : rm.frames + 1 ≤ R.frames ∧ 8 + (nB + 11) + rm.locals ≤ R.locals) (hrc : rm.cells = 0 ∧ rm.slots = 0) (hn : As.length = np) (hls : ls.size = 4) (hst : st = As.reverse ++ .ref (aM 0) :: rest) (hroom : (rest.map fun v => v.category).sum ≤ 8) (hdg : decode code pc = .ok (.invokevirtual index, 3)) (hcs : cells ≤ R.cells ∧ slots ≤ R.slots)
    (kk : ∀ (H1 : Heap) (locs1 : List Loc), lI D aX aM cy cz zX τ s H1 locs1 → W p l e R s m args below meth c H1 locs1 cells slots Q (F0 m (pc + 3) ls (.long rl :: rest))) : W p l e R s m args below meth c H locs cells slots Q (F0 m pc ls st) := by
  obtain ⟨hx, hb, hml, hown, hts, hK, hN, hJX, hJM, hap, hX1, hM1⟩ := hL
  have hp : ∀ U : State, U.heap = H → s.WarmedH U.vm → va_Pc (.ref (aM 0) :: As) (fB D 31 aM (cfM aM cy cz) cy cz zM H.size) (Value.ref (aM 0) :: As).toArray U := fun U hU hW => ⟨rfl, by rw [hU], by rw [hU]; exact hI.2.1, va_K.moved hW.alike hK, hJM, fN.warm hW hN⟩
  have hfree : ∀ q, fA 31 aM H.size q → s.heap.size ≤ q := fun q h => by
    rcases h with ⟨k, hk, rfl⟩ | h
    · exact hM1 k hk
    · exact Nat.le_trans hI.2.2.1 h
  refine va_calll (va_runV (As := As) (rest := rest) ⟨hx, hb, hml, hown, hts⟩ (hM H.size) (cwV np hts (l_good hy hlink) rfl hrc.1 hrc.2 hy.2.2.2.2 hR) ⟨fB_blind, va_recv hK hI.2.1 (q0 := 0) (ci := 9) rfl (by rw [fw_at (by decide), oM_0.2]), hp⟩ rfl hn hls hst (lv_room hroom) hdg hcs) hI.2.2 (fun q _ h => hfree q h) hfree (fun r1 u t H1 locs1 ht hvm hw hB hz1 hk1 hS => ?_)
  subst hw
  subst ht
  refine kk _ locs1 ⟨l_keep hI.1 hk1 (fun i hi h => ?_), hB, hS⟩
  rcases h with ⟨k, hk, h⟩ | h
  · exact hap i k hi hk h
  · exact absurd (hI.1 i _ (fw_at hi)).lt (Nat.not_lt.mpr h)
end LROW
