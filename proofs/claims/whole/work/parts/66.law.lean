-- ===== end of PART A; then your names; then what follows =====
/-! THE CLAIM OUT OF ONE WALK OF THE LAW'S BODY. Your part is whole_start (and what it stands on); all else here is the same for every law, but numbers. -/
def R_law : String := "EqualCourtLaw"
def lw_P (b : Addr) (xs : List Int32) (args : Array Value) (s : State) : Prop := args = #[.ref b] ∧ s.IntsAt b xs ∧ xs.length ≤ 3072 ∧ (Jvm.Cond.and given_1 narrow_1).before args s = true
def lw_Q (_ : Array Value) (s : State) (o : Outcome) (t : State) : Prop := o = .returned (some (.int 1)) ∧ Framed s o t [] 107 12585
def lw_Z (below : List Frame) (a : Array Value) (s : State) : State → Prop := fun t => ∃ o, t.status = .running ∧ Ended t below o ∧ lw_Q a s o t
/-- the law's own end, with 1 on the stack, nothing written that was there before, its room as the claim has it -/
theorem lw_ret {p : Program} {l : Launch} {e : Env} {s : State} {m : MethodId} {below : List Frame} {meth : Method} {c : Code} {b : Nat} (hx : p.tables.exec = Jvm.exec) (hb : c.code = code) (hr : meth.sig.returnType = ret) (hlocks : meth.locks = false) {pc : Nat} {H : Heap} {ls : Array Slot} (hdg : decode code pc = .ok (.ireturn, 1)) : W p l e room_1 s m #[Value.ref b] below meth c H [] 107 12585 (lw_Z below #[Value.ref b] s) (F0 m pc ls [.int 1]) := by
  intro T hT X
  obtain ⟨fs, hret, hrun, hended, hW, hframe⟩ := X.leave (v := some (.int 1)) (hlocks := hlocks) (fun h => by rw [hr] at h; cases h)
  have hmeth' : T.vm.method? m = some meth := X.method'
  refine ⟨T.setFrames fs, ?_, .returned (some (.int 1)), hrun, hended, rfl, ⟨_, rfl⟩, hW, hframe⟩
  jvm_step X.here [X.here.top, hx, hb, hdg, hmeth', hr, ret, narrow_b1]
  (try refine ⟨rfl, ?_⟩); (try refine ⟨rfl, ?_⟩)
  first | (intro acts; rw [hret _ acts rfl rfl rfl]) | rw [hret _ _ rfl rfl rfl]
  exact Steps.refl _
/-- what holds at the law's entry: the machine, the code, the tables' words (any of lw_tbl by 'hts w (by decide +kernel)'), the script of L ints xs at the cell b, what the Statement gives of the start (any of its parts by flat_of_before) -/
def lw_At (p : Program) (s : State) (m : MethodId) (meth : Method) (c : Code) (b L : Nat) (xs : Nat → Int32) : Prop :=
  p.tables.exec = Jvm.exec ∧ c.code = code ∧ meth.sig.returnType = ret ∧ c.maxLocals = 4 ∧ s.vm.findClass R_law = some m.cls ∧ (∀ w ∈ lw_tbl, w.before #[Value.ref b] s = true) ∧ va_X b L xs s s.heap ∧ b < s.heap.size ∧ meth.locks = false ∧ (Jvm.Cond.and given_1 narrow_1).before #[Value.ref b] s = true

theorem lg_self (r : Int64) : lg_cmp r r = 0 := by simp [lg_cmp]
theorem nwL_in : ∀ w ∈ nwL, w ∈ lw_tbl := by decide +kernel
theorem law_end {L j : Nat} (hL : L ≤ 3072) (hj : j ≤ 512) : (nI L - 6 < nI (6 * j)) ↔ L < 6 * j + 6 := by
  have h1 : (nI L - nI 6).toInt = (L : Int) - 6 := pk_sub_toInt (by omega) (by omega)
  have h2 : (nI (6 * j)).toInt = ((6 * j : Nat) : Int) := nI_toInt (by omega)
  rw [Int32.lt_iff_toInt_lt, show (6 : Int32) = nI 6 from rfl, h1, h2]
  omega
theorem law_in {L j k : Nat} (hL : L ≤ 3072) (h : 6 * j + 6 ≤ L) (hk : k < 6) : vp_in (nI (6 * j) + nI k) L := by
  rw [nI_add]
  exact vp_in_nI (by omega) (by omega)
set_option maxHeartbeats 8000000 in
set_option maxRecDepth 100000 in
theorem law_loop (Rel : Nat → fS → fS → Prop) (hst : StepOK Rel) {D : va_G} {aX aM : Nat → Nat} {cy cz : ClassId} {p : Program} {l : Launch} {e : Env} {s : State} {m : MethodId} {below : List Frame} {meth : Method} {c : Code} {b L : Nat} {xs : Nat → Int32} (hL : lC D aX aM cy cz p s m #[Value.ref b] c) (hLL : L ≤ 3072) (hX : va_X b L xs s s.heap) (hbl : b < s.heap.size) (hr : meth.sig.returnType = ret) (hlocks : meth.locks = false) : ∀ (k j : Nat) (zX zM : fS) (H : Heap) (locs : List Loc) (ls : Array Slot), j + k = 512 → 6 * j ≤ L → Rel j zX zM → lI D aX aM cy cz zX zM s H locs → lv_has ls 4 [(3, .int (nI (6 * j))), (2, .ref (aM 0)), (1, .ref (aX 0)), (0, .ref b)] → W p l e room_1 s m #[Value.ref b] below meth c H locs 107 12585 (lw_Z below #[Value.ref b] s) (F0 m 18 ls []) := by
  have hx := hL.1
  have hb := hL.2.1
  intro k
  induction k with
  | zero =>
    intro j zX zM H locs ls hj h6 hR hI hl
    refine lv_iload_n hx hb dL_law_18 rfl (lv_at hl 0 rfl) ?_
    refine lv_aload_n hx hb dL_law_19 rfl (lv_at hl 3 rfl) ?_
    refine va_slen hx hb hX hbl (Nat.not_le.mpr hbl) hI.2.2 dL_law_20 ?_
    refine lv_bipush (v := 6) hx hb dL_law_21 (by decide) ?_
    refine lv_isub hx hb dL_law_23 ?_
    refine lv_icmp_gt (tgt := 1139) hx hb dL_law_24 (by decide) (fun _ => ?_) (fun q => absurd ((law_end hLL (by omega)).mpr (by omega)) q)
    refine va_forget (fun q hq => hI.2.2.2.2 q hq) ?_
    refine lv_iconst (v := 1) hx hb dL_law_1139 (by decide) ?_
    exact lw_ret hx hb hr hlocks dL_law_1140
  | succ k ih =>
    intro j zX zM H locs ls hj h6 hR hI hl
    refine lv_iload_n hx hb dL_law_18 rfl (lv_at hl 0 rfl) ?_
    refine lv_aload_n hx hb dL_law_19 rfl (lv_at hl 3 rfl) ?_
    refine va_slen hx hb hX hbl (Nat.not_le.mpr hbl) hI.2.2 dL_law_20 ?_
    refine lv_bipush (v := 6) hx hb dL_law_21 (by decide) ?_
    refine lv_isub hx hb dL_law_23 ?_
    refine lv_icmp_gt (tgt := 1139) hx hb dL_law_24 (by decide) (fun _ => ?_) (fun q24 => ?_)
    · refine va_forget (fun q hq => hI.2.2.2.2 q hq) ?_
      refine lv_iconst (v := 1) hx hb dL_law_1139 (by decide) ?_
      exact lw_ret hx hb hr hlocks dL_law_1140
    have h66 : 6 * j + 6 ≤ L := by
      rcases Nat.lt_or_ge L (6 * j + 6) with q | q
      · exact absurd ((law_end hLL (by omega)).mpr q) q24
      · exact q
    have hin0 : vp_in (nI (6 * j)) L := vp_in_nI (by omega) (by omega)
    have hin1 : vp_in (nI (6 * j) + 1) L := law_in (k := 1) hLL h66 (by decide)
    have hin2 : vp_in (nI (6 * j) + 2) L := law_in (k := 2) hLL h66 (by decide)
    have hin3 : vp_in (nI (6 * j) + 3) L := law_in (k := 3) hLL h66 (by decide)
    have hin4 : vp_in (nI (6 * j) + 4) L := law_in (k := 4) hLL h66 (by decide)
    have hin5 : vp_in (nI (6 * j) + 5) L := law_in (k := 5) hLL h66 (by decide)
    have hnext : ∀ (zX zM : fS) (H : Heap) (locs : List Loc) (ls : Array Slot), Rel (j + 1) zX zM → lI D aX aM cy cz zX zM s H locs → lv_has ls 4 [(3, .int (nI (6 * j))), (2, .ref (aM 0)), (1, .ref (aX 0)), (0, .ref b)] → W p l e room_1 s m #[Value.ref b] below meth c H locs 107 12585 (lw_Z below #[Value.ref b] s) (F0 m 1133 ls []) := by
      intro zX zM H locs ls hR hI hl
      refine lv_iinc (v := nI (6 * (j + 1))) (lv' := [(3, .int (nI (6 * (j + 1)))), (2, .ref (aM 0)), (1, .ref (aX 0)), (0, .ref b)]) hx hb dL_law_1133 hl (k := 0) rfl (by show nI (6 * j) + nI 6 = _; rw [nI_add, Nat.mul_add]) (by decide) rfl (fun ls hl => ?_)
      refine lv_goto (tgt := 18) hx hb dL_law_1136 (by decide) ?_
      exact ih (j + 1) zX zM H locs ls (by omega) (by omega) hR hI hl
    refine lv_aload_n hx hb dL_law_27 rfl (lv_at hl 3 rfl) ?_
    refine lv_iload_n hx hb dL_law_28 rfl (lv_at hl 0 rfl) ?_
    refine va_sld hx hb hX hbl (Nat.not_le.mpr hbl) hI.2.2 hin0 dL_law_29 ?_
    refine lv_bipush (v := 31) hx hb dL_law_30 (by decide) ?_
    refine lv_iand hx hb dL_law_32 ?_
    refine lv_topi (fun y ey => ?_)
    obtain ⟨w, hw, hw2⟩ := pk_andE (xs (nI (6 * j)).toNatClampNeg) (m := 31) 5 (by decide)
    rw [hw2] at ey
    by_cases b0 : w = 0
    · rw [b0] at ey
      refine lv_tableIn (tgt := 176) hx hb dL_law_33 (by rw [ey]; decide) (by rw [ey]; decide) (by rw [ey]; rfl) (by decide) ?_
      obtain ⟨r, tX, tM, eX, eM, hR1⟩ := hst.1 j zX zM (xs (nI (6 * j) + 1).toNatClampNeg) (by omega) hR
      refine lv_aload_n hx hb dL_law_176 rfl (lv_at hl 2 rfl) ?_
      refine lv_aload_n hx hb dL_law_177 rfl (lv_at hl 3 rfl) ?_
      refine lv_iload_n hx hb dL_law_178 rfl (lv_at hl 0 rfl) ?_
      refine lv_iconst (v := 1) hx hb dL_law_179 (by decide) ?_
      refine lv_iadd hx hb dL_law_180 ?_
      refine va_sld hx hb hX hbl (Nat.not_le.mpr hbl) hI.2.2 hin1 dL_law_181 ?_
      refine l_callX (rest := []) hL hI ywX8_name tw_321 (cX8_name_ok eX) ⟨Nat.le_of_ble_eq_true rfl, Nat.le_of_ble_eq_true rfl⟩ ⟨rfl, rfl⟩ rfl hl.1 rfl (Nat.le_of_ble_eq_true rfl) dL_law_182 ⟨Nat.le_of_ble_eq_true rfl, Nat.le_of_ble_eq_true rfl⟩ (fun H locs hI => ?_)
      refine lv_aload_n hx hb dL_law_185 rfl (lv_at hl 1 rfl) ?_
      refine lv_aload_n hx hb dL_law_186 rfl (lv_at hl 3 rfl) ?_
      refine lv_iload_n hx hb dL_law_187 rfl (lv_at hl 0 rfl) ?_
      refine lv_iconst (v := 1) hx hb dL_law_188 (by decide) ?_
      refine lv_iadd hx hb dL_law_189 ?_
      refine va_sld hx hb hX hbl (Nat.not_le.mpr hbl) hI.2.2 hin1 dL_law_190 ?_
      refine l_callM (rest := [.int r]) hL hI ywX9_name tw_981 (cX9_name_ok eM) ⟨Nat.le_of_ble_eq_true rfl, Nat.le_of_ble_eq_true rfl⟩ ⟨rfl, rfl⟩ rfl hl.1 rfl (Nat.le_of_ble_eq_true rfl) dL_law_191 ⟨Nat.le_of_ble_eq_true rfl, Nat.le_of_ble_eq_true rfl⟩ (fun H locs hI => ?_)
      exact lv_icmp_eq (tgt := 1133) hx hb dL_law_194 (by decide) (fun _ => hnext _ _ _ _ _ hR1 hI hl) (fun q => absurd rfl q)
    by_cases b1 : w = 1
    · rw [b1] at ey
      refine lv_tableIn (tgt := 199) hx hb dL_law_33 (by rw [ey]; decide) (by rw [ey]; decide) (by rw [ey]; rfl) (by decide) ?_
      obtain ⟨r, tX, tM, eX, eM, hR1⟩ := hst.2.1 j zX zM (xs (nI (6 * j) + 1).toNatClampNeg) (by omega) hR
      refine lv_aload_n hx hb dL_law_199 rfl (lv_at hl 2 rfl) ?_
      refine lv_aload_n hx hb dL_law_200 rfl (lv_at hl 3 rfl) ?_
      refine lv_iload_n hx hb dL_law_201 rfl (lv_at hl 0 rfl) ?_
      refine lv_iconst (v := 1) hx hb dL_law_202 (by decide) ?_
      refine lv_iadd hx hb dL_law_203 ?_
      refine va_sld hx hb hX hbl (Nat.not_le.mpr hbl) hI.2.2 hin1 dL_law_204 ?_
      refine l_callX (rest := []) hL hI ywX8_number tw_443 (cX8_number_ok eX) ⟨Nat.le_of_ble_eq_true rfl, Nat.le_of_ble_eq_true rfl⟩ ⟨rfl, rfl⟩ rfl hl.1 rfl (Nat.le_of_ble_eq_true rfl) dL_law_205 ⟨Nat.le_of_ble_eq_true rfl, Nat.le_of_ble_eq_true rfl⟩ (fun H locs hI => ?_)
      refine lv_aload_n hx hb dL_law_208 rfl (lv_at hl 1 rfl) ?_
      refine lv_aload_n hx hb dL_law_209 rfl (lv_at hl 3 rfl) ?_
      refine lv_iload_n hx hb dL_law_210 rfl (lv_at hl 0 rfl) ?_
      refine lv_iconst (v := 1) hx hb dL_law_211 (by decide) ?_
      refine lv_iadd hx hb dL_law_212 ?_
      refine va_sld hx hb hX hbl (Nat.not_le.mpr hbl) hI.2.2 hin1 dL_law_213 ?_
      refine l_callM (rest := [.int r]) hL hI ywX9_number tw_1005 (cX9_number_ok eM) ⟨Nat.le_of_ble_eq_true rfl, Nat.le_of_ble_eq_true rfl⟩ ⟨rfl, rfl⟩ rfl hl.1 rfl (Nat.le_of_ble_eq_true rfl) dL_law_214 ⟨Nat.le_of_ble_eq_true rfl, Nat.le_of_ble_eq_true rfl⟩ (fun H locs hI => ?_)
      exact lv_icmp_eq (tgt := 1133) hx hb dL_law_217 (by decide) (fun _ => hnext _ _ _ _ _ hR1 hI hl) (fun q => absurd rfl q)
    by_cases b2 : w = 2
    · rw [b2] at ey
      refine lv_tableIn (tgt := 222) hx hb dL_law_33 (by rw [ey]; decide) (by rw [ey]; decide) (by rw [ey]; rfl) (by decide) ?_
      obtain ⟨r, tX, tM, eX, eM, hR1⟩ := hst.2.2.1 j zX zM (xs (nI (6 * j) + 1).toNatClampNeg) (xs (nI (6 * j) + 2).toNatClampNeg) (xs (nI (6 * j) + 3).toNatClampNeg) (xs (nI (6 * j) + 4).toNatClampNeg) (xs (nI (6 * j) + 5).toNatClampNeg) (by omega) hR
      refine lv_aload_n hx hb dL_law_222 rfl (lv_at hl 2 rfl) ?_
      refine lv_aload_n hx hb dL_law_223 rfl (lv_at hl 3 rfl) ?_
      refine lv_iload_n hx hb dL_law_224 rfl (lv_at hl 0 rfl) ?_
      refine lv_iconst (v := 1) hx hb dL_law_225 (by decide) ?_
      refine lv_iadd hx hb dL_law_226 ?_
      refine va_sld hx hb hX hbl (Nat.not_le.mpr hbl) hI.2.2 hin1 dL_law_227 ?_
      refine lv_aload_n hx hb dL_law_228 rfl (lv_at hl 3 rfl) ?_
      refine lv_iload_n hx hb dL_law_229 rfl (lv_at hl 0 rfl) ?_
      refine lv_iconst (v := 2) hx hb dL_law_230 (by decide) ?_
      refine lv_iadd hx hb dL_law_231 ?_
      refine va_sld hx hb hX hbl (Nat.not_le.mpr hbl) hI.2.2 hin2 dL_law_232 ?_
      refine lv_aload_n hx hb dL_law_233 rfl (lv_at hl 3 rfl) ?_
      refine lv_iload_n hx hb dL_law_234 rfl (lv_at hl 0 rfl) ?_
      refine lv_iconst (v := 3) hx hb dL_law_235 (by decide) ?_
      refine lv_iadd hx hb dL_law_236 ?_
      refine va_sld hx hb hX hbl (Nat.not_le.mpr hbl) hI.2.2 hin3 dL_law_237 ?_
      refine lv_aload_n hx hb dL_law_238 rfl (lv_at hl 3 rfl) ?_
      refine lv_iload_n hx hb dL_law_239 rfl (lv_at hl 0 rfl) ?_
      refine lv_iconst (v := 4) hx hb dL_law_240 (by decide) ?_
      refine lv_iadd hx hb dL_law_241 ?_
      refine va_sld hx hb hX hbl (Nat.not_le.mpr hbl) hI.2.2 hin4 dL_law_242 ?_
      refine lv_aload_n hx hb dL_law_243 rfl (lv_at hl 3 rfl) ?_
      refine lv_iload_n hx hb dL_law_244 rfl (lv_at hl 0 rfl) ?_
      refine lv_iconst (v := 5) hx hb dL_law_245 (by decide) ?_
      refine lv_iadd hx hb dL_law_246 ?_
      refine va_sld hx hb hX hbl (Nat.not_le.mpr hbl) hI.2.2 hin5 dL_law_247 ?_
      refine l_callX (rest := []) hL hI ywX8_built tw_447 (cX8_built_ok eX) ⟨Nat.le_of_ble_eq_true rfl, Nat.le_of_ble_eq_true rfl⟩ ⟨rfl, rfl⟩ rfl hl.1 rfl (Nat.le_of_ble_eq_true rfl) dL_law_248 ⟨Nat.le_of_ble_eq_true rfl, Nat.le_of_ble_eq_true rfl⟩ (fun H locs hI => ?_)
      refine lv_aload_n hx hb dL_law_251 rfl (lv_at hl 1 rfl) ?_
      refine lv_aload_n hx hb dL_law_252 rfl (lv_at hl 3 rfl) ?_
      refine lv_iload_n hx hb dL_law_253 rfl (lv_at hl 0 rfl) ?_
      refine lv_iconst (v := 1) hx hb dL_law_254 (by decide) ?_
      refine lv_iadd hx hb dL_law_255 ?_
      refine va_sld hx hb hX hbl (Nat.not_le.mpr hbl) hI.2.2 hin1 dL_law_256 ?_
      refine lv_aload_n hx hb dL_law_257 rfl (lv_at hl 3 rfl) ?_
      refine lv_iload_n hx hb dL_law_258 rfl (lv_at hl 0 rfl) ?_
      refine lv_iconst (v := 2) hx hb dL_law_259 (by decide) ?_
      refine lv_iadd hx hb dL_law_260 ?_
      refine va_sld hx hb hX hbl (Nat.not_le.mpr hbl) hI.2.2 hin2 dL_law_261 ?_
      refine lv_aload_n hx hb dL_law_262 rfl (lv_at hl 3 rfl) ?_
      refine lv_iload_n hx hb dL_law_263 rfl (lv_at hl 0 rfl) ?_
      refine lv_iconst (v := 3) hx hb dL_law_264 (by decide) ?_
      refine lv_iadd hx hb dL_law_265 ?_
      refine va_sld hx hb hX hbl (Nat.not_le.mpr hbl) hI.2.2 hin3 dL_law_266 ?_
      refine lv_aload_n hx hb dL_law_267 rfl (lv_at hl 3 rfl) ?_
      refine lv_iload_n hx hb dL_law_268 rfl (lv_at hl 0 rfl) ?_
      refine lv_iconst (v := 4) hx hb dL_law_269 (by decide) ?_
      refine lv_iadd hx hb dL_law_270 ?_
      refine va_sld hx hb hX hbl (Nat.not_le.mpr hbl) hI.2.2 hin4 dL_law_271 ?_
      refine lv_aload_n hx hb dL_law_272 rfl (lv_at hl 3 rfl) ?_
      refine lv_iload_n hx hb dL_law_273 rfl (lv_at hl 0 rfl) ?_
      refine lv_iconst (v := 5) hx hb dL_law_274 (by decide) ?_
      refine lv_iadd hx hb dL_law_275 ?_
      refine va_sld hx hb hX hbl (Nat.not_le.mpr hbl) hI.2.2 hin5 dL_law_276 ?_
      refine l_callM (rest := [.int r]) hL hI ywX9_built tw_1009 (cX9_built_ok eM) ⟨Nat.le_of_ble_eq_true rfl, Nat.le_of_ble_eq_true rfl⟩ ⟨rfl, rfl⟩ rfl hl.1 rfl (Nat.le_of_ble_eq_true rfl) dL_law_277 ⟨Nat.le_of_ble_eq_true rfl, Nat.le_of_ble_eq_true rfl⟩ (fun H locs hI => ?_)
      exact lv_icmp_eq (tgt := 1133) hx hb dL_law_280 (by decide) (fun _ => hnext _ _ _ _ _ hR1 hI hl) (fun q => absurd rfl q)
    by_cases b3 : w = 3
    · rw [b3] at ey
      refine lv_tableIn (tgt := 285) hx hb dL_law_33 (by rw [ey]; decide) (by rw [ey]; decide) (by rw [ey]; rfl) (by decide) ?_
      obtain ⟨r, tX, tM, eX, eM, hR1⟩ := hst.2.2.2.1 j zX zM (xs (nI (6 * j) + 1).toNatClampNeg) (xs (nI (6 * j) + 2).toNatClampNeg) (by omega) hR
      refine lv_aload_n hx hb dL_law_285 rfl (lv_at hl 2 rfl) ?_
      refine lv_aload_n hx hb dL_law_286 rfl (lv_at hl 3 rfl) ?_
      refine lv_iload_n hx hb dL_law_287 rfl (lv_at hl 0 rfl) ?_
      refine lv_iconst (v := 1) hx hb dL_law_288 (by decide) ?_
      refine lv_iadd hx hb dL_law_289 ?_
      refine va_sld hx hb hX hbl (Nat.not_le.mpr hbl) hI.2.2 hin1 dL_law_290 ?_
      refine lv_aload_n hx hb dL_law_291 rfl (lv_at hl 3 rfl) ?_
      refine lv_iload_n hx hb dL_law_292 rfl (lv_at hl 0 rfl) ?_
      refine lv_iconst (v := 2) hx hb dL_law_293 (by decide) ?_
      refine lv_iadd hx hb dL_law_294 ?_
      refine va_sld hx hb hX hbl (Nat.not_le.mpr hbl) hI.2.2 hin2 dL_law_295 ?_
      refine l_callX (rest := []) hL hI ywX8_row tw_455 (cX8_row_ok eX) ⟨Nat.le_of_ble_eq_true rfl, Nat.le_of_ble_eq_true rfl⟩ ⟨rfl, rfl⟩ rfl hl.1 rfl (Nat.le_of_ble_eq_true rfl) dL_law_296 ⟨Nat.le_of_ble_eq_true rfl, Nat.le_of_ble_eq_true rfl⟩ (fun H locs hI => ?_)
      refine lv_aload_n hx hb dL_law_299 rfl (lv_at hl 1 rfl) ?_
      refine lv_aload_n hx hb dL_law_300 rfl (lv_at hl 3 rfl) ?_
      refine lv_iload_n hx hb dL_law_301 rfl (lv_at hl 0 rfl) ?_
      refine lv_iconst (v := 1) hx hb dL_law_302 (by decide) ?_
      refine lv_iadd hx hb dL_law_303 ?_
      refine va_sld hx hb hX hbl (Nat.not_le.mpr hbl) hI.2.2 hin1 dL_law_304 ?_
      refine lv_aload_n hx hb dL_law_305 rfl (lv_at hl 3 rfl) ?_
      refine lv_iload_n hx hb dL_law_306 rfl (lv_at hl 0 rfl) ?_
      refine lv_iconst (v := 2) hx hb dL_law_307 (by decide) ?_
      refine lv_iadd hx hb dL_law_308 ?_
      refine va_sld hx hb hX hbl (Nat.not_le.mpr hbl) hI.2.2 hin2 dL_law_309 ?_
      refine l_callM (rest := [.int r]) hL hI ywX9_row tw_1017 (cX9_row_ok eM) ⟨Nat.le_of_ble_eq_true rfl, Nat.le_of_ble_eq_true rfl⟩ ⟨rfl, rfl⟩ rfl hl.1 rfl (Nat.le_of_ble_eq_true rfl) dL_law_310 ⟨Nat.le_of_ble_eq_true rfl, Nat.le_of_ble_eq_true rfl⟩ (fun H locs hI => ?_)
      exact lv_icmp_eq (tgt := 1133) hx hb dL_law_313 (by decide) (fun _ => hnext _ _ _ _ _ hR1 hI hl) (fun q => absurd rfl q)
    by_cases b4 : w = 4
    · rw [b4] at ey
      refine lv_tableIn (tgt := 318) hx hb dL_law_33 (by rw [ey]; decide) (by rw [ey]; decide) (by rw [ey]; rfl) (by decide) ?_
      obtain ⟨r, tX, tM, eX, eM, hR1⟩ := hst.2.2.2.2.1 j zX zM (xs (nI (6 * j) + 1).toNatClampNeg) (xs (nI (6 * j) + 2).toNatClampNeg) (xs (nI (6 * j) + 3).toNatClampNeg) (by omega) hR
      refine lv_aload_n hx hb dL_law_318 rfl (lv_at hl 2 rfl) ?_
      refine lv_aload_n hx hb dL_law_319 rfl (lv_at hl 3 rfl) ?_
      refine lv_iload_n hx hb dL_law_320 rfl (lv_at hl 0 rfl) ?_
      refine lv_iconst (v := 1) hx hb dL_law_321 (by decide) ?_
      refine lv_iadd hx hb dL_law_322 ?_
      refine va_sld hx hb hX hbl (Nat.not_le.mpr hbl) hI.2.2 hin1 dL_law_323 ?_
      refine lv_aload_n hx hb dL_law_324 rfl (lv_at hl 3 rfl) ?_
      refine lv_iload_n hx hb dL_law_325 rfl (lv_at hl 0 rfl) ?_
      refine lv_iconst (v := 2) hx hb dL_law_326 (by decide) ?_
      refine lv_iadd hx hb dL_law_327 ?_
      refine va_sld hx hb hX hbl (Nat.not_le.mpr hbl) hI.2.2 hin2 dL_law_328 ?_
      refine lv_aload_n hx hb dL_law_329 rfl (lv_at hl 3 rfl) ?_
      refine lv_iload_n hx hb dL_law_330 rfl (lv_at hl 0 rfl) ?_
      refine lv_iconst (v := 3) hx hb dL_law_331 (by decide) ?_
      refine lv_iadd hx hb dL_law_332 ?_
      refine va_sld hx hb hX hbl (Nat.not_le.mpr hbl) hI.2.2 hin3 dL_law_333 ?_
      refine l_callX (rest := []) hL hI ywX8_even tw_459 (cX8_even_ok eX) ⟨Nat.le_of_ble_eq_true rfl, Nat.le_of_ble_eq_true rfl⟩ ⟨rfl, rfl⟩ rfl hl.1 rfl (Nat.le_of_ble_eq_true rfl) dL_law_334 ⟨Nat.le_of_ble_eq_true rfl, Nat.le_of_ble_eq_true rfl⟩ (fun H locs hI => ?_)
      refine lv_aload_n hx hb dL_law_337 rfl (lv_at hl 1 rfl) ?_
      refine lv_aload_n hx hb dL_law_338 rfl (lv_at hl 3 rfl) ?_
      refine lv_iload_n hx hb dL_law_339 rfl (lv_at hl 0 rfl) ?_
      refine lv_iconst (v := 1) hx hb dL_law_340 (by decide) ?_
      refine lv_iadd hx hb dL_law_341 ?_
      refine va_sld hx hb hX hbl (Nat.not_le.mpr hbl) hI.2.2 hin1 dL_law_342 ?_
      refine lv_aload_n hx hb dL_law_343 rfl (lv_at hl 3 rfl) ?_
      refine lv_iload_n hx hb dL_law_344 rfl (lv_at hl 0 rfl) ?_
      refine lv_iconst (v := 2) hx hb dL_law_345 (by decide) ?_
      refine lv_iadd hx hb dL_law_346 ?_
      refine va_sld hx hb hX hbl (Nat.not_le.mpr hbl) hI.2.2 hin2 dL_law_347 ?_
      refine lv_aload_n hx hb dL_law_348 rfl (lv_at hl 3 rfl) ?_
      refine lv_iload_n hx hb dL_law_349 rfl (lv_at hl 0 rfl) ?_
      refine lv_iconst (v := 3) hx hb dL_law_350 (by decide) ?_
      refine lv_iadd hx hb dL_law_351 ?_
      refine va_sld hx hb hX hbl (Nat.not_le.mpr hbl) hI.2.2 hin3 dL_law_352 ?_
      refine l_callM (rest := [.int r]) hL hI ywX9_even tw_1021 (cX9_even_ok eM) ⟨Nat.le_of_ble_eq_true rfl, Nat.le_of_ble_eq_true rfl⟩ ⟨rfl, rfl⟩ rfl hl.1 rfl (Nat.le_of_ble_eq_true rfl) dL_law_353 ⟨Nat.le_of_ble_eq_true rfl, Nat.le_of_ble_eq_true rfl⟩ (fun H locs hI => ?_)
      exact lv_icmp_eq (tgt := 1133) hx hb dL_law_356 (by decide) (fun _ => hnext _ _ _ _ _ hR1 hI hl) (fun q => absurd rfl q)
    by_cases b5 : w = 5
    · rw [b5] at ey
      refine lv_tableIn (tgt := 361) hx hb dL_law_33 (by rw [ey]; decide) (by rw [ey]; decide) (by rw [ey]; rfl) (by decide) ?_
      obtain ⟨r, eX, eM, hR1⟩ := hst.2.2.2.2.2.1 j zX zM (xs (nI (6 * j) + 1).toNatClampNeg) (by omega) hR
      refine lv_aload_n hx hb dL_law_361 rfl (lv_at hl 2 rfl) ?_
      refine lv_aload_n hx hb dL_law_362 rfl (lv_at hl 3 rfl) ?_
      refine lv_iload_n hx hb dL_law_363 rfl (lv_at hl 0 rfl) ?_
      refine lv_iconst (v := 1) hx hb dL_law_364 (by decide) ?_
      refine lv_iadd hx hb dL_law_365 ?_
      refine va_sld hx hb hX hbl (Nat.not_le.mpr hbl) hI.2.2 hin1 dL_law_366 ?_
      refine l_callX (rest := []) hL hI ywX8_kind tw_463 (cX8_kind_ok eX) ⟨Nat.le_of_ble_eq_true rfl, Nat.le_of_ble_eq_true rfl⟩ ⟨rfl, rfl⟩ rfl hl.1 rfl (Nat.le_of_ble_eq_true rfl) dL_law_367 ⟨Nat.le_of_ble_eq_true rfl, Nat.le_of_ble_eq_true rfl⟩ (fun H locs hI => ?_)
      refine lv_aload_n hx hb dL_law_370 rfl (lv_at hl 1 rfl) ?_
      refine lv_aload_n hx hb dL_law_371 rfl (lv_at hl 3 rfl) ?_
      refine lv_iload_n hx hb dL_law_372 rfl (lv_at hl 0 rfl) ?_
      refine lv_iconst (v := 1) hx hb dL_law_373 (by decide) ?_
      refine lv_iadd hx hb dL_law_374 ?_
      refine va_sld hx hb hX hbl (Nat.not_le.mpr hbl) hI.2.2 hin1 dL_law_375 ?_
      refine l_callM (rest := [.int r]) hL hI ywX9_kind tw_1025 (cX9_kind_ok eM) ⟨Nat.le_of_ble_eq_true rfl, Nat.le_of_ble_eq_true rfl⟩ ⟨rfl, rfl⟩ rfl hl.1 rfl (Nat.le_of_ble_eq_true rfl) dL_law_376 ⟨Nat.le_of_ble_eq_true rfl, Nat.le_of_ble_eq_true rfl⟩ (fun H locs hI => ?_)
      exact lv_icmp_eq (tgt := 1133) hx hb dL_law_379 (by decide) (fun _ => hnext _ _ _ _ _ hR1 hI hl) (fun q => absurd rfl q)
    by_cases b6 : w = 6
    · rw [b6] at ey
      refine lv_tableIn (tgt := 384) hx hb dL_law_33 (by rw [ey]; decide) (by rw [ey]; decide) (by rw [ey]; rfl) (by decide) ?_
      obtain ⟨r, tX, tM, eX, eM, hR1⟩ := hst.2.2.2.2.2.2.1 j zX zM (xs (nI (6 * j) + 1).toNatClampNeg) (xs (nI (6 * j) + 2).toNatClampNeg) (by omega) hR
      refine lv_aload_n hx hb dL_law_384 rfl (lv_at hl 2 rfl) ?_
      refine lv_aload_n hx hb dL_law_385 rfl (lv_at hl 3 rfl) ?_
      refine lv_iload_n hx hb dL_law_386 rfl (lv_at hl 0 rfl) ?_
      refine lv_iconst (v := 1) hx hb dL_law_387 (by decide) ?_
      refine lv_iadd hx hb dL_law_388 ?_
      refine va_sld hx hb hX hbl (Nat.not_le.mpr hbl) hI.2.2 hin1 dL_law_389 ?_
      refine lv_aload_n hx hb dL_law_390 rfl (lv_at hl 3 rfl) ?_
      refine lv_iload_n hx hb dL_law_391 rfl (lv_at hl 0 rfl) ?_
      refine lv_iconst (v := 2) hx hb dL_law_392 (by decide) ?_
      refine lv_iadd hx hb dL_law_393 ?_
      refine va_sld hx hb hX hbl (Nat.not_le.mpr hbl) hI.2.2 hin2 dL_law_394 ?_
      refine l_callX (rest := []) hL hI ywX8_part tw_468 (cX8_part_ok eX) ⟨Nat.le_of_ble_eq_true rfl, Nat.le_of_ble_eq_true rfl⟩ ⟨rfl, rfl⟩ rfl hl.1 rfl (Nat.le_of_ble_eq_true rfl) dL_law_395 ⟨Nat.le_of_ble_eq_true rfl, Nat.le_of_ble_eq_true rfl⟩ (fun H locs hI => ?_)
      refine lv_aload_n hx hb dL_law_398 rfl (lv_at hl 1 rfl) ?_
      refine lv_aload_n hx hb dL_law_399 rfl (lv_at hl 3 rfl) ?_
      refine lv_iload_n hx hb dL_law_400 rfl (lv_at hl 0 rfl) ?_
      refine lv_iconst (v := 1) hx hb dL_law_401 (by decide) ?_
      refine lv_iadd hx hb dL_law_402 ?_
      refine va_sld hx hb hX hbl (Nat.not_le.mpr hbl) hI.2.2 hin1 dL_law_403 ?_
      refine lv_aload_n hx hb dL_law_404 rfl (lv_at hl 3 rfl) ?_
      refine lv_iload_n hx hb dL_law_405 rfl (lv_at hl 0 rfl) ?_
      refine lv_iconst (v := 2) hx hb dL_law_406 (by decide) ?_
      refine lv_iadd hx hb dL_law_407 ?_
      refine va_sld hx hb hX hbl (Nat.not_le.mpr hbl) hI.2.2 hin2 dL_law_408 ?_
      refine l_callM (rest := [.int r]) hL hI ywX9_part tw_1029 (cX9_part_ok eM) ⟨Nat.le_of_ble_eq_true rfl, Nat.le_of_ble_eq_true rfl⟩ ⟨rfl, rfl⟩ rfl hl.1 rfl (Nat.le_of_ble_eq_true rfl) dL_law_409 ⟨Nat.le_of_ble_eq_true rfl, Nat.le_of_ble_eq_true rfl⟩ (fun H locs hI => ?_)
      exact lv_icmp_eq (tgt := 1133) hx hb dL_law_412 (by decide) (fun _ => hnext _ _ _ _ _ hR1 hI hl) (fun q => absurd rfl q)
    by_cases b7 : w = 7
    · rw [b7] at ey
      refine lv_tableIn (tgt := 417) hx hb dL_law_33 (by rw [ey]; decide) (by rw [ey]; decide) (by rw [ey]; rfl) (by decide) ?_
      obtain ⟨r, tX, tM, eX, eM, hR1⟩ := hst.2.2.2.2.2.2.2.1 j zX zM (xs (nI (6 * j) + 1).toNatClampNeg) (by omega) hR
      refine lv_aload_n hx hb dL_law_417 rfl (lv_at hl 2 rfl) ?_
      refine lv_aload_n hx hb dL_law_418 rfl (lv_at hl 3 rfl) ?_
      refine lv_iload_n hx hb dL_law_419 rfl (lv_at hl 0 rfl) ?_
      refine lv_iconst (v := 1) hx hb dL_law_420 (by decide) ?_
      refine lv_iadd hx hb dL_law_421 ?_
      refine va_sld hx hb hX hbl (Nat.not_le.mpr hbl) hI.2.2 hin1 dL_law_422 ?_
      refine l_callX (rest := []) hL hI ywX8_shows tw_477 (cX8_shows_ok eX) ⟨Nat.le_of_ble_eq_true rfl, Nat.le_of_ble_eq_true rfl⟩ ⟨rfl, rfl⟩ rfl hl.1 rfl (Nat.le_of_ble_eq_true rfl) dL_law_423 ⟨Nat.le_of_ble_eq_true rfl, Nat.le_of_ble_eq_true rfl⟩ (fun H locs hI => ?_)
      refine lv_aload_n hx hb dL_law_426 rfl (lv_at hl 1 rfl) ?_
      refine lv_aload_n hx hb dL_law_427 rfl (lv_at hl 3 rfl) ?_
      refine lv_iload_n hx hb dL_law_428 rfl (lv_at hl 0 rfl) ?_
      refine lv_iconst (v := 1) hx hb dL_law_429 (by decide) ?_
      refine lv_iadd hx hb dL_law_430 ?_
      refine va_sld hx hb hX hbl (Nat.not_le.mpr hbl) hI.2.2 hin1 dL_law_431 ?_
      refine l_callM (rest := [.int r]) hL hI ywX9_shows tw_1033 (cX9_shows_ok eM) ⟨Nat.le_of_ble_eq_true rfl, Nat.le_of_ble_eq_true rfl⟩ ⟨rfl, rfl⟩ rfl hl.1 rfl (Nat.le_of_ble_eq_true rfl) dL_law_432 ⟨Nat.le_of_ble_eq_true rfl, Nat.le_of_ble_eq_true rfl⟩ (fun H locs hI => ?_)
      exact lv_icmp_eq (tgt := 1133) hx hb dL_law_435 (by decide) (fun _ => hnext _ _ _ _ _ hR1 hI hl) (fun q => absurd rfl q)
    by_cases b8 : w = 8
    · rw [b8] at ey
      refine lv_tableIn (tgt := 440) hx hb dL_law_33 (by rw [ey]; decide) (by rw [ey]; decide) (by rw [ey]; rfl) (by decide) ?_
      obtain ⟨r, tM, eX, eM, hR1⟩ := hst.2.2.2.2.2.2.2.2.1 j zX zM (xs (nI (6 * j) + 1).toNatClampNeg) (by omega) hR
      refine lv_aload_n hx hb dL_law_440 rfl (lv_at hl 2 rfl) ?_
      refine lv_aload_n hx hb dL_law_441 rfl (lv_at hl 3 rfl) ?_
      refine lv_iload_n hx hb dL_law_442 rfl (lv_at hl 0 rfl) ?_
      refine lv_iconst (v := 1) hx hb dL_law_443 (by decide) ?_
      refine lv_iadd hx hb dL_law_444 ?_
      refine va_sld hx hb hX hbl (Nat.not_le.mpr hbl) hI.2.2 hin1 dL_law_445 ?_
      refine l_callX (rest := []) hL hI ywX8_many tw_485 (cX8_many_ok eX) ⟨Nat.le_of_ble_eq_true rfl, Nat.le_of_ble_eq_true rfl⟩ ⟨rfl, rfl⟩ rfl hl.1 rfl (Nat.le_of_ble_eq_true rfl) dL_law_446 ⟨Nat.le_of_ble_eq_true rfl, Nat.le_of_ble_eq_true rfl⟩ (fun H locs hI => ?_)
      refine lv_aload_n hx hb dL_law_449 rfl (lv_at hl 1 rfl) ?_
      refine lv_aload_n hx hb dL_law_450 rfl (lv_at hl 3 rfl) ?_
      refine lv_iload_n hx hb dL_law_451 rfl (lv_at hl 0 rfl) ?_
      refine lv_iconst (v := 1) hx hb dL_law_452 (by decide) ?_
      refine lv_iadd hx hb dL_law_453 ?_
      refine va_sld hx hb hX hbl (Nat.not_le.mpr hbl) hI.2.2 hin1 dL_law_454 ?_
      refine l_callM (rest := [.int r]) hL hI ywX9_many tw_1037 (cX9_many_ok eM) ⟨Nat.le_of_ble_eq_true rfl, Nat.le_of_ble_eq_true rfl⟩ ⟨rfl, rfl⟩ rfl hl.1 rfl (Nat.le_of_ble_eq_true rfl) dL_law_455 ⟨Nat.le_of_ble_eq_true rfl, Nat.le_of_ble_eq_true rfl⟩ (fun H locs hI => ?_)
      exact lv_icmp_eq (tgt := 1133) hx hb dL_law_458 (by decide) (fun _ => hnext _ _ _ _ _ hR1 hI hl) (fun q => absurd rfl q)
    by_cases b9 : w = 9
    · rw [b9] at ey
      refine lv_tableIn (tgt := 463) hx hb dL_law_33 (by rw [ey]; decide) (by rw [ey]; decide) (by rw [ey]; rfl) (by decide) ?_
      obtain ⟨r, tX, tM, eX, eM, hR1⟩ := hst.2.2.2.2.2.2.2.2.2.1 j zX zM (xs (nI (6 * j) + 1).toNatClampNeg) (xs (nI (6 * j) + 2).toNatClampNeg) (by omega) hR
      refine lv_aload_n hx hb dL_law_463 rfl (lv_at hl 2 rfl) ?_
      refine lv_aload_n hx hb dL_law_464 rfl (lv_at hl 3 rfl) ?_
      refine lv_iload_n hx hb dL_law_465 rfl (lv_at hl 0 rfl) ?_
      refine lv_iconst (v := 1) hx hb dL_law_466 (by decide) ?_
      refine lv_iadd hx hb dL_law_467 ?_
      refine va_sld hx hb hX hbl (Nat.not_le.mpr hbl) hI.2.2 hin1 dL_law_468 ?_
      refine lv_aload_n hx hb dL_law_469 rfl (lv_at hl 3 rfl) ?_
      refine lv_iload_n hx hb dL_law_470 rfl (lv_at hl 0 rfl) ?_
      refine lv_iconst (v := 2) hx hb dL_law_471 (by decide) ?_
      refine lv_iadd hx hb dL_law_472 ?_
      refine va_sld hx hb hX hbl (Nat.not_le.mpr hbl) hI.2.2 hin2 dL_law_473 ?_
      refine l_callX (rest := []) hL hI ywX8_say tw_513 (cX8_say_ok eX) ⟨Nat.le_of_ble_eq_true rfl, Nat.le_of_ble_eq_true rfl⟩ ⟨rfl, rfl⟩ rfl hl.1 rfl (Nat.le_of_ble_eq_true rfl) dL_law_474 ⟨Nat.le_of_ble_eq_true rfl, Nat.le_of_ble_eq_true rfl⟩ (fun H locs hI => ?_)
      refine lv_aload_n hx hb dL_law_477 rfl (lv_at hl 1 rfl) ?_
      refine lv_aload_n hx hb dL_law_478 rfl (lv_at hl 3 rfl) ?_
      refine lv_iload_n hx hb dL_law_479 rfl (lv_at hl 0 rfl) ?_
      refine lv_iconst (v := 1) hx hb dL_law_480 (by decide) ?_
      refine lv_iadd hx hb dL_law_481 ?_
      refine va_sld hx hb hX hbl (Nat.not_le.mpr hbl) hI.2.2 hin1 dL_law_482 ?_
      refine lv_aload_n hx hb dL_law_483 rfl (lv_at hl 3 rfl) ?_
      refine lv_iload_n hx hb dL_law_484 rfl (lv_at hl 0 rfl) ?_
      refine lv_iconst (v := 2) hx hb dL_law_485 (by decide) ?_
      refine lv_iadd hx hb dL_law_486 ?_
      refine va_sld hx hb hX hbl (Nat.not_le.mpr hbl) hI.2.2 hin2 dL_law_487 ?_
      refine l_callM (rest := [.int r]) hL hI ywX9_say tw_1077 (cX9_say_ok eM) ⟨Nat.le_of_ble_eq_true rfl, Nat.le_of_ble_eq_true rfl⟩ ⟨rfl, rfl⟩ rfl hl.1 rfl (Nat.le_of_ble_eq_true rfl) dL_law_488 ⟨Nat.le_of_ble_eq_true rfl, Nat.le_of_ble_eq_true rfl⟩ (fun H locs hI => ?_)
      exact lv_icmp_eq (tgt := 1133) hx hb dL_law_491 (by decide) (fun _ => hnext _ _ _ _ _ hR1 hI hl) (fun q => absurd rfl q)
    by_cases b10 : w = 10
    · rw [b10] at ey
      refine lv_tableIn (tgt := 496) hx hb dL_law_33 (by rw [ey]; decide) (by rw [ey]; decide) (by rw [ey]; rfl) (by decide) ?_
      obtain ⟨r, tX, tM, eX, eM, hR1⟩ := hst.2.2.2.2.2.2.2.2.2.2.1 j zX zM (xs (nI (6 * j) + 1).toNatClampNeg) (xs (nI (6 * j) + 2).toNatClampNeg) (by omega) hR
      refine lv_aload_n hx hb dL_law_496 rfl (lv_at hl 2 rfl) ?_
      refine lv_aload_n hx hb dL_law_497 rfl (lv_at hl 3 rfl) ?_
      refine lv_iload_n hx hb dL_law_498 rfl (lv_at hl 0 rfl) ?_
      refine lv_iconst (v := 1) hx hb dL_law_499 (by decide) ?_
      refine lv_iadd hx hb dL_law_500 ?_
      refine va_sld hx hb hX hbl (Nat.not_le.mpr hbl) hI.2.2 hin1 dL_law_501 ?_
      refine lv_aload_n hx hb dL_law_502 rfl (lv_at hl 3 rfl) ?_
      refine lv_iload_n hx hb dL_law_503 rfl (lv_at hl 0 rfl) ?_
      refine lv_iconst (v := 2) hx hb dL_law_504 (by decide) ?_
      refine lv_iadd hx hb dL_law_505 ?_
      refine va_sld hx hb hX hbl (Nat.not_le.mpr hbl) hI.2.2 hin2 dL_law_506 ?_
      refine l_callX (rest := []) hL hI ywX8_unlike tw_594 (cX8_unlike_ok eX) ⟨Nat.le_of_ble_eq_true rfl, Nat.le_of_ble_eq_true rfl⟩ ⟨rfl, rfl⟩ rfl hl.1 rfl (Nat.le_of_ble_eq_true rfl) dL_law_507 ⟨Nat.le_of_ble_eq_true rfl, Nat.le_of_ble_eq_true rfl⟩ (fun H locs hI => ?_)
      refine lv_aload_n hx hb dL_law_510 rfl (lv_at hl 1 rfl) ?_
      refine lv_aload_n hx hb dL_law_511 rfl (lv_at hl 3 rfl) ?_
      refine lv_iload_n hx hb dL_law_512 rfl (lv_at hl 0 rfl) ?_
      refine lv_iconst (v := 1) hx hb dL_law_513 (by decide) ?_
      refine lv_iadd hx hb dL_law_514 ?_
      refine va_sld hx hb hX hbl (Nat.not_le.mpr hbl) hI.2.2 hin1 dL_law_515 ?_
      refine lv_aload_n hx hb dL_law_516 rfl (lv_at hl 3 rfl) ?_
      refine lv_iload_n hx hb dL_law_517 rfl (lv_at hl 0 rfl) ?_
      refine lv_iconst (v := 2) hx hb dL_law_518 (by decide) ?_
      refine lv_iadd hx hb dL_law_519 ?_
      refine va_sld hx hb hX hbl (Nat.not_le.mpr hbl) hI.2.2 hin2 dL_law_520 ?_
      refine l_callM (rest := [.int r]) hL hI ywX9_unlike tw_1109 (cX9_unlike_ok eM) ⟨Nat.le_of_ble_eq_true rfl, Nat.le_of_ble_eq_true rfl⟩ ⟨rfl, rfl⟩ rfl hl.1 rfl (Nat.le_of_ble_eq_true rfl) dL_law_521 ⟨Nat.le_of_ble_eq_true rfl, Nat.le_of_ble_eq_true rfl⟩ (fun H locs hI => ?_)
      exact lv_icmp_eq (tgt := 1133) hx hb dL_law_524 (by decide) (fun _ => hnext _ _ _ _ _ hR1 hI hl) (fun q => absurd rfl q)
    by_cases b11 : w = 11
    · rw [b11] at ey
      refine lv_tableIn (tgt := 529) hx hb dL_law_33 (by rw [ey]; decide) (by rw [ey]; decide) (by rw [ey]; rfl) (by decide) ?_
      obtain ⟨r, tX, tM, eX, eM, hR1⟩ := hst.2.2.2.2.2.2.2.2.2.2.2.1 j zX zM (xs (nI (6 * j) + 1).toNatClampNeg) (by omega) hR
      refine lv_aload_n hx hb dL_law_529 rfl (lv_at hl 2 rfl) ?_
      refine lv_aload_n hx hb dL_law_530 rfl (lv_at hl 3 rfl) ?_
      refine lv_iload_n hx hb dL_law_531 rfl (lv_at hl 0 rfl) ?_
      refine lv_iconst (v := 1) hx hb dL_law_532 (by decide) ?_
      refine lv_iadd hx hb dL_law_533 ?_
      refine va_sld hx hb hX hbl (Nat.not_le.mpr hbl) hI.2.2 hin1 dL_law_534 ?_
      refine l_callX (rest := []) hL hI ywX8_drop tw_599 (cX8_drop_ok eX) ⟨Nat.le_of_ble_eq_true rfl, Nat.le_of_ble_eq_true rfl⟩ ⟨rfl, rfl⟩ rfl hl.1 rfl (Nat.le_of_ble_eq_true rfl) dL_law_535 ⟨Nat.le_of_ble_eq_true rfl, Nat.le_of_ble_eq_true rfl⟩ (fun H locs hI => ?_)
      refine lv_aload_n hx hb dL_law_538 rfl (lv_at hl 1 rfl) ?_
      refine lv_aload_n hx hb dL_law_539 rfl (lv_at hl 3 rfl) ?_
      refine lv_iload_n hx hb dL_law_540 rfl (lv_at hl 0 rfl) ?_
      refine lv_iconst (v := 1) hx hb dL_law_541 (by decide) ?_
      refine lv_iadd hx hb dL_law_542 ?_
      refine va_sld hx hb hX hbl (Nat.not_le.mpr hbl) hI.2.2 hin1 dL_law_543 ?_
      refine l_callM (rest := [.int r]) hL hI ywX9_drop tw_1113 (cX9_drop_ok eM) ⟨Nat.le_of_ble_eq_true rfl, Nat.le_of_ble_eq_true rfl⟩ ⟨rfl, rfl⟩ rfl hl.1 rfl (Nat.le_of_ble_eq_true rfl) dL_law_544 ⟨Nat.le_of_ble_eq_true rfl, Nat.le_of_ble_eq_true rfl⟩ (fun H locs hI => ?_)
      exact lv_icmp_eq (tgt := 1133) hx hb dL_law_547 (by decide) (fun _ => hnext _ _ _ _ _ hR1 hI hl) (fun q => absurd rfl q)
    by_cases b12 : w = 12
    · rw [b12] at ey
      refine lv_tableIn (tgt := 552) hx hb dL_law_33 (by rw [ey]; decide) (by rw [ey]; decide) (by rw [ey]; rfl) (by decide) ?_
      obtain ⟨r, eX, eM, hR1⟩ := hst.2.2.2.2.2.2.2.2.2.2.2.2.1 j zX zM (xs (nI (6 * j) + 1).toNatClampNeg) (xs (nI (6 * j) + 2).toNatClampNeg) (by omega) hR
      refine lv_aload_n hx hb dL_law_552 rfl (lv_at hl 2 rfl) ?_
      refine lv_aload_n hx hb dL_law_553 rfl (lv_at hl 3 rfl) ?_
      refine lv_iload_n hx hb dL_law_554 rfl (lv_at hl 0 rfl) ?_
      refine lv_iconst (v := 1) hx hb dL_law_555 (by decide) ?_
      refine lv_iadd hx hb dL_law_556 ?_
      refine va_sld hx hb hX hbl (Nat.not_le.mpr hbl) hI.2.2 hin1 dL_law_557 ?_
      refine lv_aload_n hx hb dL_law_558 rfl (lv_at hl 3 rfl) ?_
      refine lv_iload_n hx hb dL_law_559 rfl (lv_at hl 0 rfl) ?_
      refine lv_iconst (v := 2) hx hb dL_law_560 (by decide) ?_
      refine lv_iadd hx hb dL_law_561 ?_
      refine va_sld hx hb hX hbl (Nat.not_le.mpr hbl) hI.2.2 hin2 dL_law_562 ?_
      refine l_callX (rest := []) hL hI ywX8_said tw_617 (cX8_said_ok eX) ⟨Nat.le_of_ble_eq_true rfl, Nat.le_of_ble_eq_true rfl⟩ ⟨rfl, rfl⟩ rfl hl.1 rfl (Nat.le_of_ble_eq_true rfl) dL_law_563 ⟨Nat.le_of_ble_eq_true rfl, Nat.le_of_ble_eq_true rfl⟩ (fun H locs hI => ?_)
      refine lv_aload_n hx hb dL_law_566 rfl (lv_at hl 1 rfl) ?_
      refine lv_aload_n hx hb dL_law_567 rfl (lv_at hl 3 rfl) ?_
      refine lv_iload_n hx hb dL_law_568 rfl (lv_at hl 0 rfl) ?_
      refine lv_iconst (v := 1) hx hb dL_law_569 (by decide) ?_
      refine lv_iadd hx hb dL_law_570 ?_
      refine va_sld hx hb hX hbl (Nat.not_le.mpr hbl) hI.2.2 hin1 dL_law_571 ?_
      refine lv_aload_n hx hb dL_law_572 rfl (lv_at hl 3 rfl) ?_
      refine lv_iload_n hx hb dL_law_573 rfl (lv_at hl 0 rfl) ?_
      refine lv_iconst (v := 2) hx hb dL_law_574 (by decide) ?_
      refine lv_iadd hx hb dL_law_575 ?_
      refine va_sld hx hb hX hbl (Nat.not_le.mpr hbl) hI.2.2 hin2 dL_law_576 ?_
      refine l_callM (rest := [.int r]) hL hI ywX9_said tw_1117 (cX9_said_ok eM) ⟨Nat.le_of_ble_eq_true rfl, Nat.le_of_ble_eq_true rfl⟩ ⟨rfl, rfl⟩ rfl hl.1 rfl (Nat.le_of_ble_eq_true rfl) dL_law_577 ⟨Nat.le_of_ble_eq_true rfl, Nat.le_of_ble_eq_true rfl⟩ (fun H locs hI => ?_)
      exact lv_icmp_eq (tgt := 1133) hx hb dL_law_580 (by decide) (fun _ => hnext _ _ _ _ _ hR1 hI hl) (fun q => absurd rfl q)
    by_cases b13 : w = 13
    · rw [b13] at ey
      refine lv_tableIn (tgt := 585) hx hb dL_law_33 (by rw [ey]; decide) (by rw [ey]; decide) (by rw [ey]; rfl) (by decide) ?_
      obtain ⟨r, eX, eM, hR1⟩ := hst.2.2.2.2.2.2.2.2.2.2.2.2.2.1 j zX zM (xs (nI (6 * j) + 1).toNatClampNeg) (by omega) hR
      refine lv_aload_n hx hb dL_law_585 rfl (lv_at hl 2 rfl) ?_
      refine lv_aload_n hx hb dL_law_586 rfl (lv_at hl 3 rfl) ?_
      refine lv_iload_n hx hb dL_law_587 rfl (lv_at hl 0 rfl) ?_
      refine lv_iconst (v := 1) hx hb dL_law_588 (by decide) ?_
      refine lv_iadd hx hb dL_law_589 ?_
      refine va_sld hx hb hX hbl (Nat.not_le.mpr hbl) hI.2.2 hin1 dL_law_590 ?_
      refine l_callX (rest := []) hL hI ywX8_clashed tw_623 (cX8_clashed_ok eX) ⟨Nat.le_of_ble_eq_true rfl, Nat.le_of_ble_eq_true rfl⟩ ⟨rfl, rfl⟩ rfl hl.1 rfl (Nat.le_of_ble_eq_true rfl) dL_law_591 ⟨Nat.le_of_ble_eq_true rfl, Nat.le_of_ble_eq_true rfl⟩ (fun H locs hI => ?_)
      refine lv_aload_n hx hb dL_law_594 rfl (lv_at hl 1 rfl) ?_
      refine lv_aload_n hx hb dL_law_595 rfl (lv_at hl 3 rfl) ?_
      refine lv_iload_n hx hb dL_law_596 rfl (lv_at hl 0 rfl) ?_
      refine lv_iconst (v := 1) hx hb dL_law_597 (by decide) ?_
      refine lv_iadd hx hb dL_law_598 ?_
      refine va_sld hx hb hX hbl (Nat.not_le.mpr hbl) hI.2.2 hin1 dL_law_599 ?_
      refine l_callM (rest := [.int r]) hL hI ywX9_clashed tw_1121 (cX9_clashed_ok eM) ⟨Nat.le_of_ble_eq_true rfl, Nat.le_of_ble_eq_true rfl⟩ ⟨rfl, rfl⟩ rfl hl.1 rfl (Nat.le_of_ble_eq_true rfl) dL_law_600 ⟨Nat.le_of_ble_eq_true rfl, Nat.le_of_ble_eq_true rfl⟩ (fun H locs hI => ?_)
      exact lv_icmp_eq (tgt := 1133) hx hb dL_law_603 (by decide) (fun _ => hnext _ _ _ _ _ hR1 hI hl) (fun q => absurd rfl q)
    by_cases b14 : w = 14
    · rw [b14] at ey
      refine lv_tableIn (tgt := 608) hx hb dL_law_33 (by rw [ey]; decide) (by rw [ey]; decide) (by rw [ey]; rfl) (by decide) ?_
      obtain ⟨r, tX, tM, eX, eM, hR1⟩ := hst.2.2.2.2.2.2.2.2.2.2.2.2.2.2.1 j zX zM (xs (nI (6 * j) + 1).toNatClampNeg) (xs (nI (6 * j) + 2).toNatClampNeg) (by omega) hR
      refine lv_aload_n hx hb dL_law_608 rfl (lv_at hl 2 rfl) ?_
      refine lv_aload_n hx hb dL_law_609 rfl (lv_at hl 3 rfl) ?_
      refine lv_iload_n hx hb dL_law_610 rfl (lv_at hl 0 rfl) ?_
      refine lv_iconst (v := 1) hx hb dL_law_611 (by decide) ?_
      refine lv_iadd hx hb dL_law_612 ?_
      refine va_sld hx hb hX hbl (Nat.not_le.mpr hbl) hI.2.2 hin1 dL_law_613 ?_
      refine lv_aload_n hx hb dL_law_614 rfl (lv_at hl 3 rfl) ?_
      refine lv_iload_n hx hb dL_law_615 rfl (lv_at hl 0 rfl) ?_
      refine lv_iconst (v := 2) hx hb dL_law_616 (by decide) ?_
      refine lv_iadd hx hb dL_law_617 ?_
      refine va_sld hx hb hX hbl (Nat.not_le.mpr hbl) hI.2.2 hin2 dL_law_618 ?_
      refine l_callX (rest := []) hL hI ywX8_judge tw_628 (cX8_judge_ok eX) ⟨Nat.le_of_ble_eq_true rfl, Nat.le_of_ble_eq_true rfl⟩ ⟨rfl, rfl⟩ rfl hl.1 rfl (Nat.le_of_ble_eq_true rfl) dL_law_619 ⟨Nat.le_of_ble_eq_true rfl, Nat.le_of_ble_eq_true rfl⟩ (fun H locs hI => ?_)
      refine lv_aload_n hx hb dL_law_622 rfl (lv_at hl 1 rfl) ?_
      refine lv_aload_n hx hb dL_law_623 rfl (lv_at hl 3 rfl) ?_
      refine lv_iload_n hx hb dL_law_624 rfl (lv_at hl 0 rfl) ?_
      refine lv_iconst (v := 1) hx hb dL_law_625 (by decide) ?_
      refine lv_iadd hx hb dL_law_626 ?_
      refine va_sld hx hb hX hbl (Nat.not_le.mpr hbl) hI.2.2 hin1 dL_law_627 ?_
      refine lv_aload_n hx hb dL_law_628 rfl (lv_at hl 3 rfl) ?_
      refine lv_iload_n hx hb dL_law_629 rfl (lv_at hl 0 rfl) ?_
      refine lv_iconst (v := 2) hx hb dL_law_630 (by decide) ?_
      refine lv_iadd hx hb dL_law_631 ?_
      refine va_sld hx hb hX hbl (Nat.not_le.mpr hbl) hI.2.2 hin2 dL_law_632 ?_
      refine l_callM (rest := [.int r]) hL hI ywX9_judge tw_1125 (cX9_judge_ok eM) ⟨Nat.le_of_ble_eq_true rfl, Nat.le_of_ble_eq_true rfl⟩ ⟨rfl, rfl⟩ rfl hl.1 rfl (Nat.le_of_ble_eq_true rfl) dL_law_633 ⟨Nat.le_of_ble_eq_true rfl, Nat.le_of_ble_eq_true rfl⟩ (fun H locs hI => ?_)
      exact lv_icmp_eq (tgt := 1133) hx hb dL_law_636 (by decide) (fun _ => hnext _ _ _ _ _ hR1 hI hl) (fun q => absurd rfl q)
    by_cases b15 : w = 15
    · rw [b15] at ey
      refine lv_tableIn (tgt := 641) hx hb dL_law_33 (by rw [ey]; decide) (by rw [ey]; decide) (by rw [ey]; rfl) (by decide) ?_
      obtain ⟨r, tX, tM, eX, eM, hR1⟩ := hst.2.2.2.2.2.2.2.2.2.2.2.2.2.2.2.1 j zX zM (xs (nI (6 * j) + 1).toNatClampNeg) (xs (nI (6 * j) + 2).toNatClampNeg) (by omega) hR
      refine lv_aload_n hx hb dL_law_641 rfl (lv_at hl 2 rfl) ?_
      refine lv_aload_n hx hb dL_law_642 rfl (lv_at hl 3 rfl) ?_
      refine lv_iload_n hx hb dL_law_643 rfl (lv_at hl 0 rfl) ?_
      refine lv_iconst (v := 1) hx hb dL_law_644 (by decide) ?_
      refine lv_iadd hx hb dL_law_645 ?_
      refine va_sld hx hb hX hbl (Nat.not_le.mpr hbl) hI.2.2 hin1 dL_law_646 ?_
      refine lv_aload_n hx hb dL_law_647 rfl (lv_at hl 3 rfl) ?_
      refine lv_iload_n hx hb dL_law_648 rfl (lv_at hl 0 rfl) ?_
      refine lv_iconst (v := 2) hx hb dL_law_649 (by decide) ?_
      refine lv_iadd hx hb dL_law_650 ?_
      refine va_sld hx hb hX hbl (Nat.not_le.mpr hbl) hI.2.2 hin2 dL_law_651 ?_
      refine l_callX (rest := []) hL hI ywX8_why tw_632 (cX8_why_ok eX) ⟨Nat.le_of_ble_eq_true rfl, Nat.le_of_ble_eq_true rfl⟩ ⟨rfl, rfl⟩ rfl hl.1 rfl (Nat.le_of_ble_eq_true rfl) dL_law_652 ⟨Nat.le_of_ble_eq_true rfl, Nat.le_of_ble_eq_true rfl⟩ (fun H locs hI => ?_)
      refine lv_aload_n hx hb dL_law_655 rfl (lv_at hl 1 rfl) ?_
      refine lv_aload_n hx hb dL_law_656 rfl (lv_at hl 3 rfl) ?_
      refine lv_iload_n hx hb dL_law_657 rfl (lv_at hl 0 rfl) ?_
      refine lv_iconst (v := 1) hx hb dL_law_658 (by decide) ?_
      refine lv_iadd hx hb dL_law_659 ?_
      refine va_sld hx hb hX hbl (Nat.not_le.mpr hbl) hI.2.2 hin1 dL_law_660 ?_
      refine lv_aload_n hx hb dL_law_661 rfl (lv_at hl 3 rfl) ?_
      refine lv_iload_n hx hb dL_law_662 rfl (lv_at hl 0 rfl) ?_
      refine lv_iconst (v := 2) hx hb dL_law_663 (by decide) ?_
      refine lv_iadd hx hb dL_law_664 ?_
      refine va_sld hx hb hX hbl (Nat.not_le.mpr hbl) hI.2.2 hin2 dL_law_665 ?_
      refine l_callM (rest := [.int r]) hL hI ywX9_why tw_1133 (cX9_why_ok eM) ⟨Nat.le_of_ble_eq_true rfl, Nat.le_of_ble_eq_true rfl⟩ ⟨rfl, rfl⟩ rfl hl.1 rfl (Nat.le_of_ble_eq_true rfl) dL_law_666 ⟨Nat.le_of_ble_eq_true rfl, Nat.le_of_ble_eq_true rfl⟩ (fun H locs hI => ?_)
      exact lv_icmp_eq (tgt := 1133) hx hb dL_law_669 (by decide) (fun _ => hnext _ _ _ _ _ hR1 hI hl) (fun q => absurd rfl q)
    by_cases b16 : w = 16
    · rw [b16] at ey
      refine lv_tableIn (tgt := 674) hx hb dL_law_33 (by rw [ey]; decide) (by rw [ey]; decide) (by rw [ey]; rfl) (by decide) ?_
      obtain ⟨r, tX, tM, eX, eM, hR1⟩ := hst.2.2.2.2.2.2.2.2.2.2.2.2.2.2.2.2.1 j zX zM (xs (nI (6 * j) + 1).toNatClampNeg) (xs (nI (6 * j) + 2).toNatClampNeg) (xs (nI (6 * j) + 3).toNatClampNeg) (by omega) hR
      refine lv_aload_n hx hb dL_law_674 rfl (lv_at hl 2 rfl) ?_
      refine lv_aload_n hx hb dL_law_675 rfl (lv_at hl 3 rfl) ?_
      refine lv_iload_n hx hb dL_law_676 rfl (lv_at hl 0 rfl) ?_
      refine lv_iconst (v := 1) hx hb dL_law_677 (by decide) ?_
      refine lv_iadd hx hb dL_law_678 ?_
      refine va_sld hx hb hX hbl (Nat.not_le.mpr hbl) hI.2.2 hin1 dL_law_679 ?_
      refine lv_aload_n hx hb dL_law_680 rfl (lv_at hl 3 rfl) ?_
      refine lv_iload_n hx hb dL_law_681 rfl (lv_at hl 0 rfl) ?_
      refine lv_iconst (v := 2) hx hb dL_law_682 (by decide) ?_
      refine lv_iadd hx hb dL_law_683 ?_
      refine va_sld hx hb hX hbl (Nat.not_le.mpr hbl) hI.2.2 hin2 dL_law_684 ?_
      refine lv_aload_n hx hb dL_law_685 rfl (lv_at hl 3 rfl) ?_
      refine lv_iload_n hx hb dL_law_686 rfl (lv_at hl 0 rfl) ?_
      refine lv_iconst (v := 3) hx hb dL_law_687 (by decide) ?_
      refine lv_iadd hx hb dL_law_688 ?_
      refine va_sld hx hb hX hbl (Nat.not_le.mpr hbl) hI.2.2 hin3 dL_law_689 ?_
      refine l_callX (rest := []) hL hI ywX8_least tw_637 (cX8_least_ok eX) ⟨Nat.le_of_ble_eq_true rfl, Nat.le_of_ble_eq_true rfl⟩ ⟨rfl, rfl⟩ rfl hl.1 rfl (Nat.le_of_ble_eq_true rfl) dL_law_690 ⟨Nat.le_of_ble_eq_true rfl, Nat.le_of_ble_eq_true rfl⟩ (fun H locs hI => ?_)
      refine lv_aload_n hx hb dL_law_693 rfl (lv_at hl 1 rfl) ?_
      refine lv_aload_n hx hb dL_law_694 rfl (lv_at hl 3 rfl) ?_
      refine lv_iload_n hx hb dL_law_695 rfl (lv_at hl 0 rfl) ?_
      refine lv_iconst (v := 1) hx hb dL_law_696 (by decide) ?_
      refine lv_iadd hx hb dL_law_697 ?_
      refine va_sld hx hb hX hbl (Nat.not_le.mpr hbl) hI.2.2 hin1 dL_law_698 ?_
      refine lv_aload_n hx hb dL_law_699 rfl (lv_at hl 3 rfl) ?_
      refine lv_iload_n hx hb dL_law_700 rfl (lv_at hl 0 rfl) ?_
      refine lv_iconst (v := 2) hx hb dL_law_701 (by decide) ?_
      refine lv_iadd hx hb dL_law_702 ?_
      refine va_sld hx hb hX hbl (Nat.not_le.mpr hbl) hI.2.2 hin2 dL_law_703 ?_
      refine lv_aload_n hx hb dL_law_704 rfl (lv_at hl 3 rfl) ?_
      refine lv_iload_n hx hb dL_law_705 rfl (lv_at hl 0 rfl) ?_
      refine lv_iconst (v := 3) hx hb dL_law_706 (by decide) ?_
      refine lv_iadd hx hb dL_law_707 ?_
      refine va_sld hx hb hX hbl (Nat.not_le.mpr hbl) hI.2.2 hin3 dL_law_708 ?_
      refine l_callM (rest := [.int r]) hL hI ywX9_least tw_1138 (cX9_least_ok eM) ⟨Nat.le_of_ble_eq_true rfl, Nat.le_of_ble_eq_true rfl⟩ ⟨rfl, rfl⟩ rfl hl.1 rfl (Nat.le_of_ble_eq_true rfl) dL_law_709 ⟨Nat.le_of_ble_eq_true rfl, Nat.le_of_ble_eq_true rfl⟩ (fun H locs hI => ?_)
      exact lv_icmp_eq (tgt := 1133) hx hb dL_law_712 (by decide) (fun _ => hnext _ _ _ _ _ hR1 hI hl) (fun q => absurd rfl q)
    by_cases b17 : w = 17
    · rw [b17] at ey
      refine lv_tableIn (tgt := 717) hx hb dL_law_33 (by rw [ey]; decide) (by rw [ey]; decide) (by rw [ey]; rfl) (by decide) ?_
      obtain ⟨r, eX, eM, hR1⟩ := hst.2.2.2.2.2.2.2.2.2.2.2.2.2.2.2.2.2.1 j zX zM (xs (nI (6 * j) + 1).toNatClampNeg) (by omega) hR
      refine lv_aload_n hx hb dL_law_717 rfl (lv_at hl 2 rfl) ?_
      refine lv_aload_n hx hb dL_law_718 rfl (lv_at hl 3 rfl) ?_
      refine lv_iload_n hx hb dL_law_719 rfl (lv_at hl 0 rfl) ?_
      refine lv_iconst (v := 1) hx hb dL_law_720 (by decide) ?_
      refine lv_iadd hx hb dL_law_721 ?_
      refine va_sld hx hb hX hbl (Nat.not_le.mpr hbl) hI.2.2 hin1 dL_law_722 ?_
      refine l_callX (rest := []) hL hI ywX8_because tw_657 (cX8_because_ok eX) ⟨Nat.le_of_ble_eq_true rfl, Nat.le_of_ble_eq_true rfl⟩ ⟨rfl, rfl⟩ rfl hl.1 rfl (Nat.le_of_ble_eq_true rfl) dL_law_723 ⟨Nat.le_of_ble_eq_true rfl, Nat.le_of_ble_eq_true rfl⟩ (fun H locs hI => ?_)
      refine lv_aload_n hx hb dL_law_726 rfl (lv_at hl 1 rfl) ?_
      refine lv_aload_n hx hb dL_law_727 rfl (lv_at hl 3 rfl) ?_
      refine lv_iload_n hx hb dL_law_728 rfl (lv_at hl 0 rfl) ?_
      refine lv_iconst (v := 1) hx hb dL_law_729 (by decide) ?_
      refine lv_iadd hx hb dL_law_730 ?_
      refine va_sld hx hb hX hbl (Nat.not_le.mpr hbl) hI.2.2 hin1 dL_law_731 ?_
      refine l_callM (rest := [.int r]) hL hI ywX9_because tw_1150 (cX9_because_ok eM) ⟨Nat.le_of_ble_eq_true rfl, Nat.le_of_ble_eq_true rfl⟩ ⟨rfl, rfl⟩ rfl hl.1 rfl (Nat.le_of_ble_eq_true rfl) dL_law_732 ⟨Nat.le_of_ble_eq_true rfl, Nat.le_of_ble_eq_true rfl⟩ (fun H locs hI => ?_)
      exact lv_icmp_eq (tgt := 1133) hx hb dL_law_735 (by decide) (fun _ => hnext _ _ _ _ _ hR1 hI hl) (fun q => absurd rfl q)
    by_cases b18 : w = 18
    · rw [b18] at ey
      refine lv_tableIn (tgt := 740) hx hb dL_law_33 (by rw [ey]; decide) (by rw [ey]; decide) (by rw [ey]; rfl) (by decide) ?_
      obtain ⟨r, tM, eX, eM, hR1⟩ := hst.2.2.2.2.2.2.2.2.2.2.2.2.2.2.2.2.2.2.1 j zX zM (xs (nI (6 * j) + 1).toNatClampNeg) (by omega) hR
      refine lv_aload_n hx hb dL_law_740 rfl (lv_at hl 2 rfl) ?_
      refine lv_aload_n hx hb dL_law_741 rfl (lv_at hl 3 rfl) ?_
      refine lv_iload_n hx hb dL_law_742 rfl (lv_at hl 0 rfl) ?_
      refine lv_iconst (v := 1) hx hb dL_law_743 (by decide) ?_
      refine lv_iadd hx hb dL_law_744 ?_
      refine va_sld hx hb hX hbl (Nat.not_le.mpr hbl) hI.2.2 hin1 dL_law_745 ?_
      refine l_callX (rest := []) hL hI ywX8_head tw_661 (cX8_head_ok eX) ⟨Nat.le_of_ble_eq_true rfl, Nat.le_of_ble_eq_true rfl⟩ ⟨rfl, rfl⟩ rfl hl.1 rfl (Nat.le_of_ble_eq_true rfl) dL_law_746 ⟨Nat.le_of_ble_eq_true rfl, Nat.le_of_ble_eq_true rfl⟩ (fun H locs hI => ?_)
      refine lv_aload_n hx hb dL_law_749 rfl (lv_at hl 1 rfl) ?_
      refine lv_aload_n hx hb dL_law_750 rfl (lv_at hl 3 rfl) ?_
      refine lv_iload_n hx hb dL_law_751 rfl (lv_at hl 0 rfl) ?_
      refine lv_iconst (v := 1) hx hb dL_law_752 (by decide) ?_
      refine lv_iadd hx hb dL_law_753 ?_
      refine va_sld hx hb hX hbl (Nat.not_le.mpr hbl) hI.2.2 hin1 dL_law_754 ?_
      refine l_callM (rest := [.int r]) hL hI ywX9_head tw_1154 (cX9_head_ok eM) ⟨Nat.le_of_ble_eq_true rfl, Nat.le_of_ble_eq_true rfl⟩ ⟨rfl, rfl⟩ rfl hl.1 rfl (Nat.le_of_ble_eq_true rfl) dL_law_755 ⟨Nat.le_of_ble_eq_true rfl, Nat.le_of_ble_eq_true rfl⟩ (fun H locs hI => ?_)
      exact lv_icmp_eq (tgt := 1133) hx hb dL_law_758 (by decide) (fun _ => hnext _ _ _ _ _ hR1 hI hl) (fun q => absurd rfl q)
    by_cases b19 : w = 19
    · rw [b19] at ey
      refine lv_tableIn (tgt := 763) hx hb dL_law_33 (by rw [ey]; decide) (by rw [ey]; decide) (by rw [ey]; rfl) (by decide) ?_
      obtain ⟨r, tM, eX, eM, hR1⟩ := hst.2.2.2.2.2.2.2.2.2.2.2.2.2.2.2.2.2.2.2.1 j zX zM (xs (nI (6 * j) + 1).toNatClampNeg) (xs (nI (6 * j) + 2).toNatClampNeg) (by omega) hR
      refine lv_aload_n hx hb dL_law_763 rfl (lv_at hl 2 rfl) ?_
      refine lv_aload_n hx hb dL_law_764 rfl (lv_at hl 3 rfl) ?_
      refine lv_iload_n hx hb dL_law_765 rfl (lv_at hl 0 rfl) ?_
      refine lv_iconst (v := 1) hx hb dL_law_766 (by decide) ?_
      refine lv_iadd hx hb dL_law_767 ?_
      refine va_sld hx hb hX hbl (Nat.not_le.mpr hbl) hI.2.2 hin1 dL_law_768 ?_
      refine lv_aload_n hx hb dL_law_769 rfl (lv_at hl 3 rfl) ?_
      refine lv_iload_n hx hb dL_law_770 rfl (lv_at hl 0 rfl) ?_
      refine lv_iconst (v := 2) hx hb dL_law_771 (by decide) ?_
      refine lv_iadd hx hb dL_law_772 ?_
      refine va_sld hx hb hX hbl (Nat.not_le.mpr hbl) hI.2.2 hin2 dL_law_773 ?_
      refine l_callX (rest := []) hL hI ywX8_member tw_669 (cX8_member_ok eX) ⟨Nat.le_of_ble_eq_true rfl, Nat.le_of_ble_eq_true rfl⟩ ⟨rfl, rfl⟩ rfl hl.1 rfl (Nat.le_of_ble_eq_true rfl) dL_law_774 ⟨Nat.le_of_ble_eq_true rfl, Nat.le_of_ble_eq_true rfl⟩ (fun H locs hI => ?_)
      refine lv_aload_n hx hb dL_law_777 rfl (lv_at hl 1 rfl) ?_
      refine lv_aload_n hx hb dL_law_778 rfl (lv_at hl 3 rfl) ?_
      refine lv_iload_n hx hb dL_law_779 rfl (lv_at hl 0 rfl) ?_
      refine lv_iconst (v := 1) hx hb dL_law_780 (by decide) ?_
      refine lv_iadd hx hb dL_law_781 ?_
      refine va_sld hx hb hX hbl (Nat.not_le.mpr hbl) hI.2.2 hin1 dL_law_782 ?_
      refine lv_aload_n hx hb dL_law_783 rfl (lv_at hl 3 rfl) ?_
      refine lv_iload_n hx hb dL_law_784 rfl (lv_at hl 0 rfl) ?_
      refine lv_iconst (v := 2) hx hb dL_law_785 (by decide) ?_
      refine lv_iadd hx hb dL_law_786 ?_
      refine va_sld hx hb hX hbl (Nat.not_le.mpr hbl) hI.2.2 hin2 dL_law_787 ?_
      refine l_callM (rest := [.int r]) hL hI ywX9_member tw_1158 (cX9_member_ok eM) ⟨Nat.le_of_ble_eq_true rfl, Nat.le_of_ble_eq_true rfl⟩ ⟨rfl, rfl⟩ rfl hl.1 rfl (Nat.le_of_ble_eq_true rfl) dL_law_788 ⟨Nat.le_of_ble_eq_true rfl, Nat.le_of_ble_eq_true rfl⟩ (fun H locs hI => ?_)
      exact lv_icmp_eq (tgt := 1133) hx hb dL_law_791 (by decide) (fun _ => hnext _ _ _ _ _ hR1 hI hl) (fun q => absurd rfl q)
    by_cases b20 : w = 20
    · rw [b20] at ey
      refine lv_tableIn (tgt := 796) hx hb dL_law_33 (by rw [ey]; decide) (by rw [ey]; decide) (by rw [ey]; rfl) (by decide) ?_
      obtain ⟨r, tM, eX, eM, hR1⟩ := hst.2.2.2.2.2.2.2.2.2.2.2.2.2.2.2.2.2.2.2.2.1 j zX zM (xs (nI (6 * j) + 1).toNatClampNeg) (xs (nI (6 * j) + 2).toNatClampNeg) (by omega) hR
      refine lv_aload_n hx hb dL_law_796 rfl (lv_at hl 2 rfl) ?_
      refine lv_aload_n hx hb dL_law_797 rfl (lv_at hl 3 rfl) ?_
      refine lv_iload_n hx hb dL_law_798 rfl (lv_at hl 0 rfl) ?_
      refine lv_iconst (v := 1) hx hb dL_law_799 (by decide) ?_
      refine lv_iadd hx hb dL_law_800 ?_
      refine va_sld hx hb hX hbl (Nat.not_le.mpr hbl) hI.2.2 hin1 dL_law_801 ?_
      refine lv_aload_n hx hb dL_law_802 rfl (lv_at hl 3 rfl) ?_
      refine lv_iload_n hx hb dL_law_803 rfl (lv_at hl 0 rfl) ?_
      refine lv_iconst (v := 2) hx hb dL_law_804 (by decide) ?_
      refine lv_iadd hx hb dL_law_805 ?_
      refine va_sld hx hb hX hbl (Nat.not_le.mpr hbl) hI.2.2 hin2 dL_law_806 ?_
      refine l_callX (rest := []) hL hI ywX8_uses tw_673 (cX8_uses_ok eX) ⟨Nat.le_of_ble_eq_true rfl, Nat.le_of_ble_eq_true rfl⟩ ⟨rfl, rfl⟩ rfl hl.1 rfl (Nat.le_of_ble_eq_true rfl) dL_law_807 ⟨Nat.le_of_ble_eq_true rfl, Nat.le_of_ble_eq_true rfl⟩ (fun H locs hI => ?_)
      refine lv_aload_n hx hb dL_law_810 rfl (lv_at hl 1 rfl) ?_
      refine lv_aload_n hx hb dL_law_811 rfl (lv_at hl 3 rfl) ?_
      refine lv_iload_n hx hb dL_law_812 rfl (lv_at hl 0 rfl) ?_
      refine lv_iconst (v := 1) hx hb dL_law_813 (by decide) ?_
      refine lv_iadd hx hb dL_law_814 ?_
      refine va_sld hx hb hX hbl (Nat.not_le.mpr hbl) hI.2.2 hin1 dL_law_815 ?_
      refine lv_aload_n hx hb dL_law_816 rfl (lv_at hl 3 rfl) ?_
      refine lv_iload_n hx hb dL_law_817 rfl (lv_at hl 0 rfl) ?_
      refine lv_iconst (v := 2) hx hb dL_law_818 (by decide) ?_
      refine lv_iadd hx hb dL_law_819 ?_
      refine va_sld hx hb hX hbl (Nat.not_le.mpr hbl) hI.2.2 hin2 dL_law_820 ?_
      refine l_callM (rest := [.int r]) hL hI ywX9_uses tw_1162 (cX9_uses_ok eM) ⟨Nat.le_of_ble_eq_true rfl, Nat.le_of_ble_eq_true rfl⟩ ⟨rfl, rfl⟩ rfl hl.1 rfl (Nat.le_of_ble_eq_true rfl) dL_law_821 ⟨Nat.le_of_ble_eq_true rfl, Nat.le_of_ble_eq_true rfl⟩ (fun H locs hI => ?_)
      exact lv_icmp_eq (tgt := 1133) hx hb dL_law_824 (by decide) (fun _ => hnext _ _ _ _ _ hR1 hI hl) (fun q => absurd rfl q)
    by_cases b21 : w = 21
    · rw [b21] at ey
      refine lv_tableIn (tgt := 829) hx hb dL_law_33 (by rw [ey]; decide) (by rw [ey]; decide) (by rw [ey]; rfl) (by decide) ?_
      obtain ⟨r, tM, eX, eM, hR1⟩ := hst.2.2.2.2.2.2.2.2.2.2.2.2.2.2.2.2.2.2.2.2.2.1 j zX zM (xs (nI (6 * j) + 1).toNatClampNeg) (by omega) hR
      refine lv_aload_n hx hb dL_law_829 rfl (lv_at hl 2 rfl) ?_
      refine lv_aload_n hx hb dL_law_830 rfl (lv_at hl 3 rfl) ?_
      refine lv_iload_n hx hb dL_law_831 rfl (lv_at hl 0 rfl) ?_
      refine lv_iconst (v := 1) hx hb dL_law_832 (by decide) ?_
      refine lv_iadd hx hb dL_law_833 ?_
      refine va_sld hx hb hX hbl (Nat.not_le.mpr hbl) hI.2.2 hin1 dL_law_834 ?_
      refine l_callXl (rest := []) hL hI ywX8_world tw_683 (cX8_world_ok eX) ⟨Nat.le_of_ble_eq_true rfl, Nat.le_of_ble_eq_true rfl⟩ ⟨rfl, rfl⟩ rfl hl.1 rfl (Nat.le_of_ble_eq_true rfl) dL_law_835 ⟨Nat.le_of_ble_eq_true rfl, Nat.le_of_ble_eq_true rfl⟩ (fun H locs hI => ?_)
      refine lv_aload_n hx hb dL_law_838 rfl (lv_at hl 1 rfl) ?_
      refine lv_aload_n hx hb dL_law_839 rfl (lv_at hl 3 rfl) ?_
      refine lv_iload_n hx hb dL_law_840 rfl (lv_at hl 0 rfl) ?_
      refine lv_iconst (v := 1) hx hb dL_law_841 (by decide) ?_
      refine lv_iadd hx hb dL_law_842 ?_
      refine va_sld hx hb hX hbl (Nat.not_le.mpr hbl) hI.2.2 hin1 dL_law_843 ?_
      refine l_callMl (rest := [.long r]) hL hI ywX9_world tw_1170 (cX9_world_ok eM) ⟨Nat.le_of_ble_eq_true rfl, Nat.le_of_ble_eq_true rfl⟩ ⟨rfl, rfl⟩ rfl hl.1 rfl (Nat.le_of_ble_eq_true rfl) dL_law_844 ⟨Nat.le_of_ble_eq_true rfl, Nat.le_of_ble_eq_true rfl⟩ (fun H locs hI => ?_)
      refine W.lcmp hx hb dL_law_847 ?_
      exact lv_if_eq (tgt := 1133) hx hb dL_law_848 (by decide) (fun _ => hnext _ _ _ _ _ hR1 hI hl) (fun q => absurd (lg_self r) q)
    by_cases b22 : w = 22
    · rw [b22] at ey
      refine lv_tableIn (tgt := 853) hx hb dL_law_33 (by rw [ey]; decide) (by rw [ey]; decide) (by rw [ey]; rfl) (by decide) ?_
      obtain ⟨r, tX, tM, eX, eM, hR1⟩ := hst.2.2.2.2.2.2.2.2.2.2.2.2.2.2.2.2.2.2.2.2.2.2.1 j zX zM  (by omega) hR
      refine lv_aload_n hx hb dL_law_853 rfl (lv_at hl 2 rfl) ?_
      refine l_callX (rest := []) hL hI ywX8_push tw_703 (cX8_push_ok eX) ⟨Nat.le_of_ble_eq_true rfl, Nat.le_of_ble_eq_true rfl⟩ ⟨rfl, rfl⟩ rfl hl.1 rfl (Nat.le_of_ble_eq_true rfl) dL_law_854 ⟨Nat.le_of_ble_eq_true rfl, Nat.le_of_ble_eq_true rfl⟩ (fun H locs hI => ?_)
      refine lv_aload_n hx hb dL_law_857 rfl (lv_at hl 1 rfl) ?_
      refine l_callM (rest := [.int r]) hL hI ywX9_push tw_1183 (cX9_push_ok eM) ⟨Nat.le_of_ble_eq_true rfl, Nat.le_of_ble_eq_true rfl⟩ ⟨rfl, rfl⟩ rfl hl.1 rfl (Nat.le_of_ble_eq_true rfl) dL_law_858 ⟨Nat.le_of_ble_eq_true rfl, Nat.le_of_ble_eq_true rfl⟩ (fun H locs hI => ?_)
      exact lv_icmp_eq (tgt := 1133) hx hb dL_law_861 (by decide) (fun _ => hnext _ _ _ _ _ hR1 hI hl) (fun q => absurd rfl q)
    by_cases b23 : w = 23
    · rw [b23] at ey
      refine lv_tableIn (tgt := 866) hx hb dL_law_33 (by rw [ey]; decide) (by rw [ey]; decide) (by rw [ey]; rfl) (by decide) ?_
      obtain ⟨r, tX, tM, eX, eM, hR1⟩ := hst.2.2.2.2.2.2.2.2.2.2.2.2.2.2.2.2.2.2.2.2.2.2.2.1 j zX zM  (by omega) hR
      refine lv_aload_n hx hb dL_law_866 rfl (lv_at hl 2 rfl) ?_
      refine l_callX (rest := []) hL hI ywX8_pop tw_712 (cX8_pop_ok eX) ⟨Nat.le_of_ble_eq_true rfl, Nat.le_of_ble_eq_true rfl⟩ ⟨rfl, rfl⟩ rfl hl.1 rfl (Nat.le_of_ble_eq_true rfl) dL_law_867 ⟨Nat.le_of_ble_eq_true rfl, Nat.le_of_ble_eq_true rfl⟩ (fun H locs hI => ?_)
      refine lv_aload_n hx hb dL_law_870 rfl (lv_at hl 1 rfl) ?_
      refine l_callM (rest := [.int r]) hL hI ywX9_pop tw_1187 (cX9_pop_ok eM) ⟨Nat.le_of_ble_eq_true rfl, Nat.le_of_ble_eq_true rfl⟩ ⟨rfl, rfl⟩ rfl hl.1 rfl (Nat.le_of_ble_eq_true rfl) dL_law_871 ⟨Nat.le_of_ble_eq_true rfl, Nat.le_of_ble_eq_true rfl⟩ (fun H locs hI => ?_)
      exact lv_icmp_eq (tgt := 1133) hx hb dL_law_874 (by decide) (fun _ => hnext _ _ _ _ _ hR1 hI hl) (fun q => absurd rfl q)
    by_cases b24 : w = 24
    · rw [b24] at ey
      refine lv_tableIn (tgt := 879) hx hb dL_law_33 (by rw [ey]; decide) (by rw [ey]; decide) (by rw [ey]; rfl) (by decide) ?_
      obtain ⟨r, tX, tM, eX, eM, hR1⟩ := hst.2.2.2.2.2.2.2.2.2.2.2.2.2.2.2.2.2.2.2.2.2.2.2.2.1 j zX zM (xs (nI (6 * j) + 1).toNatClampNeg) (xs (nI (6 * j) + 2).toNatClampNeg) (by omega) hR
      refine lv_aload_n hx hb dL_law_879 rfl (lv_at hl 2 rfl) ?_
      refine lv_aload_n hx hb dL_law_880 rfl (lv_at hl 3 rfl) ?_
      refine lv_iload_n hx hb dL_law_881 rfl (lv_at hl 0 rfl) ?_
      refine lv_iconst (v := 1) hx hb dL_law_882 (by decide) ?_
      refine lv_iadd hx hb dL_law_883 ?_
      refine va_sld hx hb hX hbl (Nat.not_le.mpr hbl) hI.2.2 hin1 dL_law_884 ?_
      refine lv_aload_n hx hb dL_law_885 rfl (lv_at hl 3 rfl) ?_
      refine lv_iload_n hx hb dL_law_886 rfl (lv_at hl 0 rfl) ?_
      refine lv_iconst (v := 2) hx hb dL_law_887 (by decide) ?_
      refine lv_iadd hx hb dL_law_888 ?_
      refine va_sld hx hb hX hbl (Nat.not_le.mpr hbl) hI.2.2 hin2 dL_law_889 ?_
      refine l_callX (rest := []) hL hI ywX8_law tw_720 (cX8_law_ok eX) ⟨Nat.le_of_ble_eq_true rfl, Nat.le_of_ble_eq_true rfl⟩ ⟨rfl, rfl⟩ rfl hl.1 rfl (Nat.le_of_ble_eq_true rfl) dL_law_890 ⟨Nat.le_of_ble_eq_true rfl, Nat.le_of_ble_eq_true rfl⟩ (fun H locs hI => ?_)
      refine lv_aload_n hx hb dL_law_893 rfl (lv_at hl 1 rfl) ?_
      refine lv_aload_n hx hb dL_law_894 rfl (lv_at hl 3 rfl) ?_
      refine lv_iload_n hx hb dL_law_895 rfl (lv_at hl 0 rfl) ?_
      refine lv_iconst (v := 1) hx hb dL_law_896 (by decide) ?_
      refine lv_iadd hx hb dL_law_897 ?_
      refine va_sld hx hb hX hbl (Nat.not_le.mpr hbl) hI.2.2 hin1 dL_law_898 ?_
      refine lv_aload_n hx hb dL_law_899 rfl (lv_at hl 3 rfl) ?_
      refine lv_iload_n hx hb dL_law_900 rfl (lv_at hl 0 rfl) ?_
      refine lv_iconst (v := 2) hx hb dL_law_901 (by decide) ?_
      refine lv_iadd hx hb dL_law_902 ?_
      refine va_sld hx hb hX hbl (Nat.not_le.mpr hbl) hI.2.2 hin2 dL_law_903 ?_
      refine l_callM (rest := [.int r]) hL hI ywX9_law tw_1191 (cX9_law_ok eM) ⟨Nat.le_of_ble_eq_true rfl, Nat.le_of_ble_eq_true rfl⟩ ⟨rfl, rfl⟩ rfl hl.1 rfl (Nat.le_of_ble_eq_true rfl) dL_law_904 ⟨Nat.le_of_ble_eq_true rfl, Nat.le_of_ble_eq_true rfl⟩ (fun H locs hI => ?_)
      exact lv_icmp_eq (tgt := 1133) hx hb dL_law_907 (by decide) (fun _ => hnext _ _ _ _ _ hR1 hI hl) (fun q => absurd rfl q)
    by_cases b25 : w = 25
    · rw [b25] at ey
      refine lv_tableIn (tgt := 912) hx hb dL_law_33 (by rw [ey]; decide) (by rw [ey]; decide) (by rw [ey]; rfl) (by decide) ?_
      obtain ⟨r, tX, tM, eX, eM, hR1⟩ := hst.2.2.2.2.2.2.2.2.2.2.2.2.2.2.2.2.2.2.2.2.2.2.2.2.2.1 j zX zM (xs (nI (6 * j) + 1).toNatClampNeg) (xs (nI (6 * j) + 2).toNatClampNeg) (xs (nI (6 * j) + 3).toNatClampNeg) (xs (nI (6 * j) + 4).toNatClampNeg) (by omega) hR
      refine lv_aload_n hx hb dL_law_912 rfl (lv_at hl 2 rfl) ?_
      refine lv_aload_n hx hb dL_law_913 rfl (lv_at hl 3 rfl) ?_
      refine lv_iload_n hx hb dL_law_914 rfl (lv_at hl 0 rfl) ?_
      refine lv_iconst (v := 1) hx hb dL_law_915 (by decide) ?_
      refine lv_iadd hx hb dL_law_916 ?_
      refine va_sld hx hb hX hbl (Nat.not_le.mpr hbl) hI.2.2 hin1 dL_law_917 ?_
      refine lv_aload_n hx hb dL_law_918 rfl (lv_at hl 3 rfl) ?_
      refine lv_iload_n hx hb dL_law_919 rfl (lv_at hl 0 rfl) ?_
      refine lv_iconst (v := 2) hx hb dL_law_920 (by decide) ?_
      refine lv_iadd hx hb dL_law_921 ?_
      refine va_sld hx hb hX hbl (Nat.not_le.mpr hbl) hI.2.2 hin2 dL_law_922 ?_
      refine lv_aload_n hx hb dL_law_923 rfl (lv_at hl 3 rfl) ?_
      refine lv_iload_n hx hb dL_law_924 rfl (lv_at hl 0 rfl) ?_
      refine lv_iconst (v := 3) hx hb dL_law_925 (by decide) ?_
      refine lv_iadd hx hb dL_law_926 ?_
      refine va_sld hx hb hX hbl (Nat.not_le.mpr hbl) hI.2.2 hin3 dL_law_927 ?_
      refine lv_aload_n hx hb dL_law_928 rfl (lv_at hl 3 rfl) ?_
      refine lv_iload_n hx hb dL_law_929 rfl (lv_at hl 0 rfl) ?_
      refine lv_iconst (v := 4) hx hb dL_law_930 (by decide) ?_
      refine lv_iadd hx hb dL_law_931 ?_
      refine va_sld hx hb hX hbl (Nat.not_le.mpr hbl) hI.2.2 hin4 dL_law_932 ?_
      refine l_callX (rest := []) hL hI ywX8_instance tw_724 (cX8_instance_ok eX) ⟨Nat.le_of_ble_eq_true rfl, Nat.le_of_ble_eq_true rfl⟩ ⟨rfl, rfl⟩ rfl hl.1 rfl (Nat.le_of_ble_eq_true rfl) dL_law_933 ⟨Nat.le_of_ble_eq_true rfl, Nat.le_of_ble_eq_true rfl⟩ (fun H locs hI => ?_)
      refine lv_aload_n hx hb dL_law_936 rfl (lv_at hl 1 rfl) ?_
      refine lv_aload_n hx hb dL_law_937 rfl (lv_at hl 3 rfl) ?_
      refine lv_iload_n hx hb dL_law_938 rfl (lv_at hl 0 rfl) ?_
      refine lv_iconst (v := 1) hx hb dL_law_939 (by decide) ?_
      refine lv_iadd hx hb dL_law_940 ?_
      refine va_sld hx hb hX hbl (Nat.not_le.mpr hbl) hI.2.2 hin1 dL_law_941 ?_
      refine lv_aload_n hx hb dL_law_942 rfl (lv_at hl 3 rfl) ?_
      refine lv_iload_n hx hb dL_law_943 rfl (lv_at hl 0 rfl) ?_
      refine lv_iconst (v := 2) hx hb dL_law_944 (by decide) ?_
      refine lv_iadd hx hb dL_law_945 ?_
      refine va_sld hx hb hX hbl (Nat.not_le.mpr hbl) hI.2.2 hin2 dL_law_946 ?_
      refine lv_aload_n hx hb dL_law_947 rfl (lv_at hl 3 rfl) ?_
      refine lv_iload_n hx hb dL_law_948 rfl (lv_at hl 0 rfl) ?_
      refine lv_iconst (v := 3) hx hb dL_law_949 (by decide) ?_
      refine lv_iadd hx hb dL_law_950 ?_
      refine va_sld hx hb hX hbl (Nat.not_le.mpr hbl) hI.2.2 hin3 dL_law_951 ?_
      refine lv_aload_n hx hb dL_law_952 rfl (lv_at hl 3 rfl) ?_
      refine lv_iload_n hx hb dL_law_953 rfl (lv_at hl 0 rfl) ?_
      refine lv_iconst (v := 4) hx hb dL_law_954 (by decide) ?_
      refine lv_iadd hx hb dL_law_955 ?_
      refine va_sld hx hb hX hbl (Nat.not_le.mpr hbl) hI.2.2 hin4 dL_law_956 ?_
      refine l_callM (rest := [.int r]) hL hI ywX9_instance tw_1195 (cX9_instance_ok eM) ⟨Nat.le_of_ble_eq_true rfl, Nat.le_of_ble_eq_true rfl⟩ ⟨rfl, rfl⟩ rfl hl.1 rfl (Nat.le_of_ble_eq_true rfl) dL_law_957 ⟨Nat.le_of_ble_eq_true rfl, Nat.le_of_ble_eq_true rfl⟩ (fun H locs hI => ?_)
      exact lv_icmp_eq (tgt := 1133) hx hb dL_law_960 (by decide) (fun _ => hnext _ _ _ _ _ hR1 hI hl) (fun q => absurd rfl q)
    by_cases b26 : w = 26
    · rw [b26] at ey
      refine lv_tableIn (tgt := 965) hx hb dL_law_33 (by rw [ey]; decide) (by rw [ey]; decide) (by rw [ey]; rfl) (by decide) ?_
      obtain ⟨r, tX, tM, eX, eM, hR1⟩ := hst.2.2.2.2.2.2.2.2.2.2.2.2.2.2.2.2.2.2.2.2.2.2.2.2.2.2.1 j zX zM (xs (nI (6 * j) + 1).toNatClampNeg) (xs (nI (6 * j) + 2).toNatClampNeg) (by omega) hR
      refine lv_aload_n hx hb dL_law_965 rfl (lv_at hl 2 rfl) ?_
      refine lv_aload_n hx hb dL_law_966 rfl (lv_at hl 3 rfl) ?_
      refine lv_iload_n hx hb dL_law_967 rfl (lv_at hl 0 rfl) ?_
      refine lv_iconst (v := 1) hx hb dL_law_968 (by decide) ?_
      refine lv_iadd hx hb dL_law_969 ?_
      refine va_sld hx hb hX hbl (Nat.not_le.mpr hbl) hI.2.2 hin1 dL_law_970 ?_
      refine lv_aload_n hx hb dL_law_971 rfl (lv_at hl 3 rfl) ?_
      refine lv_iload_n hx hb dL_law_972 rfl (lv_at hl 0 rfl) ?_
      refine lv_iconst (v := 2) hx hb dL_law_973 (by decide) ?_
      refine lv_iadd hx hb dL_law_974 ?_
      refine va_sld hx hb hX hbl (Nat.not_le.mpr hbl) hI.2.2 hin2 dL_law_975 ?_
      refine l_callX (rest := []) hL hI ywX8_follow tw_768 (cX8_follow_ok eX) ⟨Nat.le_of_ble_eq_true rfl, Nat.le_of_ble_eq_true rfl⟩ ⟨rfl, rfl⟩ rfl hl.1 rfl (Nat.le_of_ble_eq_true rfl) dL_law_976 ⟨Nat.le_of_ble_eq_true rfl, Nat.le_of_ble_eq_true rfl⟩ (fun H locs hI => ?_)
      refine lv_aload_n hx hb dL_law_979 rfl (lv_at hl 1 rfl) ?_
      refine lv_aload_n hx hb dL_law_980 rfl (lv_at hl 3 rfl) ?_
      refine lv_iload_n hx hb dL_law_981 rfl (lv_at hl 0 rfl) ?_
      refine lv_iconst (v := 1) hx hb dL_law_982 (by decide) ?_
      refine lv_iadd hx hb dL_law_983 ?_
      refine va_sld hx hb hX hbl (Nat.not_le.mpr hbl) hI.2.2 hin1 dL_law_984 ?_
      refine lv_aload_n hx hb dL_law_985 rfl (lv_at hl 3 rfl) ?_
      refine lv_iload_n hx hb dL_law_986 rfl (lv_at hl 0 rfl) ?_
      refine lv_iconst (v := 2) hx hb dL_law_987 (by decide) ?_
      refine lv_iadd hx hb dL_law_988 ?_
      refine va_sld hx hb hX hbl (Nat.not_le.mpr hbl) hI.2.2 hin2 dL_law_989 ?_
      refine l_callM (rest := [.int r]) hL hI ywX9_follow tw_1211 (cX9_follow_ok eM) ⟨Nat.le_of_ble_eq_true rfl, Nat.le_of_ble_eq_true rfl⟩ ⟨rfl, rfl⟩ rfl hl.1 rfl (Nat.le_of_ble_eq_true rfl) dL_law_990 ⟨Nat.le_of_ble_eq_true rfl, Nat.le_of_ble_eq_true rfl⟩ (fun H locs hI => ?_)
      exact lv_icmp_eq (tgt := 1133) hx hb dL_law_993 (by decide) (fun _ => hnext _ _ _ _ _ hR1 hI hl) (fun q => absurd rfl q)
    by_cases b27 : w = 27
    · rw [b27] at ey
      refine lv_tableIn (tgt := 998) hx hb dL_law_33 (by rw [ey]; decide) (by rw [ey]; decide) (by rw [ey]; rfl) (by decide) ?_
      obtain ⟨r, eX, eM, hR1⟩ := hst.2.2.2.2.2.2.2.2.2.2.2.2.2.2.2.2.2.2.2.2.2.2.2.2.2.2.2.1 j zX zM  (by omega) hR
      refine lv_aload_n hx hb dL_law_998 rfl (lv_at hl 2 rfl) ?_
      refine l_callX (rest := []) hL hI ywX8_ended tw_782 (cX8_ended_ok eX) ⟨Nat.le_of_ble_eq_true rfl, Nat.le_of_ble_eq_true rfl⟩ ⟨rfl, rfl⟩ rfl hl.1 rfl (Nat.le_of_ble_eq_true rfl) dL_law_999 ⟨Nat.le_of_ble_eq_true rfl, Nat.le_of_ble_eq_true rfl⟩ (fun H locs hI => ?_)
      refine lv_aload_n hx hb dL_law_1002 rfl (lv_at hl 1 rfl) ?_
      refine l_callM (rest := [.int r]) hL hI ywX9_ended tw_1231 (cX9_ended_ok eM) ⟨Nat.le_of_ble_eq_true rfl, Nat.le_of_ble_eq_true rfl⟩ ⟨rfl, rfl⟩ rfl hl.1 rfl (Nat.le_of_ble_eq_true rfl) dL_law_1003 ⟨Nat.le_of_ble_eq_true rfl, Nat.le_of_ble_eq_true rfl⟩ (fun H locs hI => ?_)
      exact lv_icmp_eq (tgt := 1133) hx hb dL_law_1006 (by decide) (fun _ => hnext _ _ _ _ _ hR1 hI hl) (fun q => absurd rfl q)
    by_cases b28 : w = 28
    · rw [b28] at ey
      refine lv_tableIn (tgt := 1011) hx hb dL_law_33 (by rw [ey]; decide) (by rw [ey]; decide) (by rw [ey]; rfl) (by decide) ?_
      obtain ⟨r, tX, tM, eX, eM, hR1⟩ := hst.2.2.2.2.2.2.2.2.2.2.2.2.2.2.2.2.2.2.2.2.2.2.2.2.2.2.2.2.1 j zX zM (xs (nI (6 * j) + 1).toNatClampNeg) (xs (nI (6 * j) + 2).toNatClampNeg) (xs (nI (6 * j) + 3).toNatClampNeg) (xs (nI (6 * j) + 4).toNatClampNeg) (xs (nI (6 * j) + 5).toNatClampNeg) (by omega) hR
      refine lv_aload_n hx hb dL_law_1011 rfl (lv_at hl 2 rfl) ?_
      refine lv_aload_n hx hb dL_law_1012 rfl (lv_at hl 3 rfl) ?_
      refine lv_iload_n hx hb dL_law_1013 rfl (lv_at hl 0 rfl) ?_
      refine lv_iconst (v := 1) hx hb dL_law_1014 (by decide) ?_
      refine lv_iadd hx hb dL_law_1015 ?_
      refine va_sld hx hb hX hbl (Nat.not_le.mpr hbl) hI.2.2 hin1 dL_law_1016 ?_
      refine lv_aload_n hx hb dL_law_1017 rfl (lv_at hl 3 rfl) ?_
      refine lv_iload_n hx hb dL_law_1018 rfl (lv_at hl 0 rfl) ?_
      refine lv_iconst (v := 2) hx hb dL_law_1019 (by decide) ?_
      refine lv_iadd hx hb dL_law_1020 ?_
      refine va_sld hx hb hX hbl (Nat.not_le.mpr hbl) hI.2.2 hin2 dL_law_1021 ?_
      refine lv_aload_n hx hb dL_law_1022 rfl (lv_at hl 3 rfl) ?_
      refine lv_iload_n hx hb dL_law_1023 rfl (lv_at hl 0 rfl) ?_
      refine lv_iconst (v := 3) hx hb dL_law_1024 (by decide) ?_
      refine lv_iadd hx hb dL_law_1025 ?_
      refine va_sld hx hb hX hbl (Nat.not_le.mpr hbl) hI.2.2 hin3 dL_law_1026 ?_
      refine lv_aload_n hx hb dL_law_1027 rfl (lv_at hl 3 rfl) ?_
      refine lv_iload_n hx hb dL_law_1028 rfl (lv_at hl 0 rfl) ?_
      refine lv_iconst (v := 4) hx hb dL_law_1029 (by decide) ?_
      refine lv_iadd hx hb dL_law_1030 ?_
      refine va_sld hx hb hX hbl (Nat.not_le.mpr hbl) hI.2.2 hin4 dL_law_1031 ?_
      refine lv_aload_n hx hb dL_law_1032 rfl (lv_at hl 3 rfl) ?_
      refine lv_iload_n hx hb dL_law_1033 rfl (lv_at hl 0 rfl) ?_
      refine lv_iconst (v := 5) hx hb dL_law_1034 (by decide) ?_
      refine lv_iadd hx hb dL_law_1035 ?_
      refine va_sld hx hb hX hbl (Nat.not_le.mpr hbl) hI.2.2 hin5 dL_law_1036 ?_
      refine l_callX (rest := []) hL hI ywX8_claim tw_786 (cX8_claim_ok eX) ⟨Nat.le_of_ble_eq_true rfl, Nat.le_of_ble_eq_true rfl⟩ ⟨rfl, rfl⟩ rfl hl.1 rfl (Nat.le_of_ble_eq_true rfl) dL_law_1037 ⟨Nat.le_of_ble_eq_true rfl, Nat.le_of_ble_eq_true rfl⟩ (fun H locs hI => ?_)
      refine lv_aload_n hx hb dL_law_1040 rfl (lv_at hl 1 rfl) ?_
      refine lv_aload_n hx hb dL_law_1041 rfl (lv_at hl 3 rfl) ?_
      refine lv_iload_n hx hb dL_law_1042 rfl (lv_at hl 0 rfl) ?_
      refine lv_iconst (v := 1) hx hb dL_law_1043 (by decide) ?_
      refine lv_iadd hx hb dL_law_1044 ?_
      refine va_sld hx hb hX hbl (Nat.not_le.mpr hbl) hI.2.2 hin1 dL_law_1045 ?_
      refine lv_aload_n hx hb dL_law_1046 rfl (lv_at hl 3 rfl) ?_
      refine lv_iload_n hx hb dL_law_1047 rfl (lv_at hl 0 rfl) ?_
      refine lv_iconst (v := 2) hx hb dL_law_1048 (by decide) ?_
      refine lv_iadd hx hb dL_law_1049 ?_
      refine va_sld hx hb hX hbl (Nat.not_le.mpr hbl) hI.2.2 hin2 dL_law_1050 ?_
      refine lv_aload_n hx hb dL_law_1051 rfl (lv_at hl 3 rfl) ?_
      refine lv_iload_n hx hb dL_law_1052 rfl (lv_at hl 0 rfl) ?_
      refine lv_iconst (v := 3) hx hb dL_law_1053 (by decide) ?_
      refine lv_iadd hx hb dL_law_1054 ?_
      refine va_sld hx hb hX hbl (Nat.not_le.mpr hbl) hI.2.2 hin3 dL_law_1055 ?_
      refine lv_aload_n hx hb dL_law_1056 rfl (lv_at hl 3 rfl) ?_
      refine lv_iload_n hx hb dL_law_1057 rfl (lv_at hl 0 rfl) ?_
      refine lv_iconst (v := 4) hx hb dL_law_1058 (by decide) ?_
      refine lv_iadd hx hb dL_law_1059 ?_
      refine va_sld hx hb hX hbl (Nat.not_le.mpr hbl) hI.2.2 hin4 dL_law_1060 ?_
      refine lv_aload_n hx hb dL_law_1061 rfl (lv_at hl 3 rfl) ?_
      refine lv_iload_n hx hb dL_law_1062 rfl (lv_at hl 0 rfl) ?_
      refine lv_iconst (v := 5) hx hb dL_law_1063 (by decide) ?_
      refine lv_iadd hx hb dL_law_1064 ?_
      refine va_sld hx hb hX hbl (Nat.not_le.mpr hbl) hI.2.2 hin5 dL_law_1065 ?_
      refine l_callM (rest := [.int r]) hL hI ywX9_claim tw_1235 (cX9_claim_ok eM) ⟨Nat.le_of_ble_eq_true rfl, Nat.le_of_ble_eq_true rfl⟩ ⟨rfl, rfl⟩ rfl hl.1 rfl (Nat.le_of_ble_eq_true rfl) dL_law_1066 ⟨Nat.le_of_ble_eq_true rfl, Nat.le_of_ble_eq_true rfl⟩ (fun H locs hI => ?_)
      exact lv_icmp_eq (tgt := 1133) hx hb dL_law_1069 (by decide) (fun _ => hnext _ _ _ _ _ hR1 hI hl) (fun q => absurd rfl q)
    by_cases b29 : w = 29
    · rw [b29] at ey
      refine lv_tableIn (tgt := 1074) hx hb dL_law_33 (by rw [ey]; decide) (by rw [ey]; decide) (by rw [ey]; rfl) (by decide) ?_
      obtain ⟨r, tX, tM, eX, eM, hR1⟩ := hst.2.2.2.2.2.2.2.2.2.2.2.2.2.2.2.2.2.2.2.2.2.2.2.2.2.2.2.2.2.1 j zX zM  (by omega) hR
      refine lv_aload_n hx hb dL_law_1074 rfl (lv_at hl 2 rfl) ?_
      refine l_callX (rest := []) hL hI ywX8_unclaim tw_794 (cX8_unclaim_ok eX) ⟨Nat.le_of_ble_eq_true rfl, Nat.le_of_ble_eq_true rfl⟩ ⟨rfl, rfl⟩ rfl hl.1 rfl (Nat.le_of_ble_eq_true rfl) dL_law_1075 ⟨Nat.le_of_ble_eq_true rfl, Nat.le_of_ble_eq_true rfl⟩ (fun H locs hI => ?_)
      refine lv_aload_n hx hb dL_law_1078 rfl (lv_at hl 1 rfl) ?_
      refine l_callM (rest := [.int r]) hL hI ywX9_unclaim tw_1239 (cX9_unclaim_ok eM) ⟨Nat.le_of_ble_eq_true rfl, Nat.le_of_ble_eq_true rfl⟩ ⟨rfl, rfl⟩ rfl hl.1 rfl (Nat.le_of_ble_eq_true rfl) dL_law_1079 ⟨Nat.le_of_ble_eq_true rfl, Nat.le_of_ble_eq_true rfl⟩ (fun H locs hI => ?_)
      exact lv_icmp_eq (tgt := 1133) hx hb dL_law_1082 (by decide) (fun _ => hnext _ _ _ _ _ hR1 hI hl) (fun q => absurd rfl q)
    by_cases b30 : w = 30
    · rw [b30] at ey
      refine lv_tableIn (tgt := 1087) hx hb dL_law_33 (by rw [ey]; decide) (by rw [ey]; decide) (by rw [ey]; rfl) (by decide) ?_
      obtain ⟨r, eX, eM, hR1⟩ := hst.2.2.2.2.2.2.2.2.2.2.2.2.2.2.2.2.2.2.2.2.2.2.2.2.2.2.2.2.2.2.1 j zX zM (xs (nI (6 * j) + 1).toNatClampNeg) (xs (nI (6 * j) + 2).toNatClampNeg) (by omega) hR
      refine lv_aload_n hx hb dL_law_1087 rfl (lv_at hl 2 rfl) ?_
      refine lv_aload_n hx hb dL_law_1088 rfl (lv_at hl 3 rfl) ?_
      refine lv_iload_n hx hb dL_law_1089 rfl (lv_at hl 0 rfl) ?_
      refine lv_iconst (v := 1) hx hb dL_law_1090 (by decide) ?_
      refine lv_iadd hx hb dL_law_1091 ?_
      refine va_sld hx hb hX hbl (Nat.not_le.mpr hbl) hI.2.2 hin1 dL_law_1092 ?_
      refine lv_aload_n hx hb dL_law_1093 rfl (lv_at hl 3 rfl) ?_
      refine lv_iload_n hx hb dL_law_1094 rfl (lv_at hl 0 rfl) ?_
      refine lv_iconst (v := 2) hx hb dL_law_1095 (by decide) ?_
      refine lv_iadd hx hb dL_law_1096 ?_
      refine va_sld hx hb hX hbl (Nat.not_le.mpr hbl) hI.2.2 hin2 dL_law_1097 ?_
      refine l_callX (rest := []) hL hI ywX8_check tw_802 (cX8_check_ok eX) ⟨Nat.le_of_ble_eq_true rfl, Nat.le_of_ble_eq_true rfl⟩ ⟨rfl, rfl⟩ rfl hl.1 rfl (Nat.le_of_ble_eq_true rfl) dL_law_1098 ⟨Nat.le_of_ble_eq_true rfl, Nat.le_of_ble_eq_true rfl⟩ (fun H locs hI => ?_)
      refine lv_aload_n hx hb dL_law_1101 rfl (lv_at hl 1 rfl) ?_
      refine lv_aload_n hx hb dL_law_1102 rfl (lv_at hl 3 rfl) ?_
      refine lv_iload_n hx hb dL_law_1103 rfl (lv_at hl 0 rfl) ?_
      refine lv_iconst (v := 1) hx hb dL_law_1104 (by decide) ?_
      refine lv_iadd hx hb dL_law_1105 ?_
      refine va_sld hx hb hX hbl (Nat.not_le.mpr hbl) hI.2.2 hin1 dL_law_1106 ?_
      refine lv_aload_n hx hb dL_law_1107 rfl (lv_at hl 3 rfl) ?_
      refine lv_iload_n hx hb dL_law_1108 rfl (lv_at hl 0 rfl) ?_
      refine lv_iconst (v := 2) hx hb dL_law_1109 (by decide) ?_
      refine lv_iadd hx hb dL_law_1110 ?_
      refine va_sld hx hb hX hbl (Nat.not_le.mpr hbl) hI.2.2 hin2 dL_law_1111 ?_
      refine l_callM (rest := [.int r]) hL hI ywX9_check tw_1243 (cX9_check_ok eM) ⟨Nat.le_of_ble_eq_true rfl, Nat.le_of_ble_eq_true rfl⟩ ⟨rfl, rfl⟩ rfl hl.1 rfl (Nat.le_of_ble_eq_true rfl) dL_law_1112 ⟨Nat.le_of_ble_eq_true rfl, Nat.le_of_ble_eq_true rfl⟩ (fun H locs hI => ?_)
      exact lv_icmp_eq (tgt := 1133) hx hb dL_law_1115 (by decide) (fun _ => hnext _ _ _ _ _ hR1 hI hl) (fun q => absurd rfl q)
    by_cases b31 : w = 31
    · rw [b31] at ey
      refine lv_tableIn (tgt := 1120) hx hb dL_law_33 (by rw [ey]; decide) (by rw [ey]; decide) (by rw [ey]; rfl) (by decide) ?_
      obtain ⟨r, eX, eM, hR1⟩ := hst.2.2.2.2.2.2.2.2.2.2.2.2.2.2.2.2.2.2.2.2.2.2.2.2.2.2.2.2.2.2.2 j zX zM  (by omega) hR
      refine lv_aload_n hx hb dL_law_1120 rfl (lv_at hl 2 rfl) ?_
      refine l_callX (rest := []) hL hI ywX8_status tw_844 (cX8_status_ok eX) ⟨Nat.le_of_ble_eq_true rfl, Nat.le_of_ble_eq_true rfl⟩ ⟨rfl, rfl⟩ rfl hl.1 rfl (Nat.le_of_ble_eq_true rfl) dL_law_1121 ⟨Nat.le_of_ble_eq_true rfl, Nat.le_of_ble_eq_true rfl⟩ (fun H locs hI => ?_)
      refine lv_aload_n hx hb dL_law_1124 rfl (lv_at hl 1 rfl) ?_
      refine l_callM (rest := [.int r]) hL hI ywX9_status tw_1267 (cX9_status_ok eM) ⟨Nat.le_of_ble_eq_true rfl, Nat.le_of_ble_eq_true rfl⟩ ⟨rfl, rfl⟩ rfl hl.1 rfl (Nat.le_of_ble_eq_true rfl) dL_law_1125 ⟨Nat.le_of_ble_eq_true rfl, Nat.le_of_ble_eq_true rfl⟩ (fun H locs hI => ?_)
      exact lv_icmp_eq (tgt := 1133) hx hb dL_law_1128 (by decide) (fun _ => hnext _ _ _ _ _ hR1 hI hl) (fun q => absurd rfl q)
    omega
set_option maxHeartbeats 16000000 in
set_option maxRecDepth 100000 in
theorem law_of (Rel : Nat → fS → fS → Prop) (hst : StepOK Rel) (h0 : Rel 0 zX0 zM0) {p : Program} {e : Env} {s : State} {m : MethodId} {below : List Frame} {meth : Method} {c : Code} (l : Launch) {b L : Nat} {xs : Nat → Int32} (hLL : L ≤ 3072) (C0 : lw_At p s m meth c b L xs) : W p l e room_1 s m #[Value.ref b] below meth c s.heap [] 0 0 (lw_Z below #[Value.ref b] s) (entryFrame m ([Value.ref b] : List Value).toArray 4) := by
  obtain ⟨hx, hb, hr, hml, hown, hts0, hX, hbl, hlocks, hgv⟩ := id C0
  have hts : ∀ w ∈ TW, w.before #[Value.ref b] s = true := fun w hw => hts0 w (List.mem_filter.mp hw).1
  have hN : fN s := fun w hw => va_Nw.of (fN_tab w hw) (hts0 w (nwL_in w hw))
  obtain ⟨c0, iS0, hKn0⟩ := u_known (C := "EqualCourt$Agenda") (T := TX0) (N := 6) (n := 6) hts inX0 (hts _ tw_121)
  obtain ⟨c1, iS1, hKn1⟩ := u_known (C := "EqualCourt$Core") (T := TX1) (N := 2) (n := 2) hts inX1 (hts _ tw_108)
  obtain ⟨c2, iS2, hKn2⟩ := u_known (C := "EqualCourt$Court") (T := TX2) (N := 9) (n := 9) hts inX2 (hts _ tw_102)
  obtain ⟨c3, iS3, hKn3⟩ := u_known (C := "EqualCourt$Maker") (T := TX3) (N := 6) (n := 6) hts inX3 (hts _ tw_224)
  obtain ⟨c4, iS4, hKn4⟩ := u_known (C := "EqualCourt$Partition") (T := TX4) (N := 14) (n := 14) hts inX4 (hts _ tw_146)
  obtain ⟨c5, iS5, hKn5⟩ := u_known (C := "EqualCourt$Sayings") (T := TX5) (N := 8) (n := 8) hts inX5 (hts _ tw_70)
  obtain ⟨c6, iS6, hKn6⟩ := u_known (C := "EqualCourt$Steps") (T := TX6) (N := 8) (n := 8) hts inX6 (hts _ tw_249)
  obtain ⟨c7, iS7, hKn7⟩ := u_known (C := "EqualCourt$Terms") (T := TX7) (N := 10) (n := 10) hts inX7 (hts _ tw_23)
  obtain ⟨c8, iS8, hKn8⟩ := u_known (C := "EqualCourt") (T := TX8) (N := 13) (n := 13) hts inX8 (hts _ tw_15)
  obtain ⟨c9, iS9, hKn9⟩ := u_known (C := "EqualCourtModel") (T := TX9) (N := 42) (n := 42) hts inX9 (hts _ tw_849)
  obtain ⟨dC, dI, hKc⟩ : ∃ (dC : Nat → ClassId) (dI : Nat → Nat → Nat), ∀ (k : Nat) (q : vw_C), vwCl[k]? = some q → u_Kn s q.1 q.2.1 q.2.2 (dC k) (dI k) := by
    refine ⟨fun k => if k = 0 then c0 else if k = 1 then c1 else if k = 2 then c2 else if k = 3 then c3 else if k = 4 then c4 else if k = 5 then c5 else if k = 6 then c6 else if k = 7 then c7 else if k = 8 then c8 else c9, fun k => if k = 0 then iS0 else if k = 1 then iS1 else if k = 2 then iS2 else if k = 3 then iS3 else if k = 4 then iS4 else if k = 5 then iS5 else if k = 6 then iS6 else if k = 7 then iS7 else if k = 8 then iS8 else iS9, ?_⟩
    intro k q hq
    match k, hq with
    | 0, hq => cases hq; exact hKn0
    | 1, hq => cases hq; exact hKn1
    | 2, hq => cases hq; exact hKn2
    | 3, hq => cases hq; exact hKn3
    | 4, hq => cases hq; exact hKn4
    | 5, hq => cases hq; exact hKn5
    | 6, hq => cases hq; exact hKn6
    | 7, hq => cases hq; exact hKn7
    | 8, hq => cases hq; exact hKn8
    | 9, hq => cases hq; exact hKn9
    | k + 10, hq => simp [vwCl] at hq
  obtain ⟨cy, ky, comy, hfy, hky, hkky⟩ := Cond.arrayClass_spec (hts _ tw_68)
  obtain ⟨cz, kz, comz, hfz, hkz, hkkz⟩ := Cond.arrayClass_spec (hts _ tw_100)
  have hK : va_K (dC, dI) vwCl [(cy, .int), (cz, .boolean)] s := by
    refine ⟨hKc, fun k q h => ?_⟩
    match k, h with
    | 0, h => cases h; exact ⟨fun n z => ⟨fun k h => (by cases h), ky, hky, comy, hkky⟩, hfy⟩
    | 1, h => cases h; exact ⟨fun n z => ⟨fun k h => (by cases h), kz, hkz, comz, hkkz⟩, hfz⟩
    | k + 2, h => simp at h
  have hC : cC (dC, dI) cy cz p s m #[Value.ref b] c code 4 "EqualCourtLaw" := ⟨hx, hb, hml, hown, hts, hK, hN⟩
  have hA : ∀ q : Nat, s.heap.size ≤ q → (fun q : Nat => s.heap.size ≤ q) q := fun _ h => h
  have hI : cI (dC, dI) (fun q : Nat => s.heap.size ≤ q) [] s s.heap [] := ⟨fun k q h => by simp at h, ⟨fun i j p q h => by simp at h, fun k q h => by simp at h⟩, va_S.rf⟩
  have hl := lv_entry ([.ref b]) (n := 4) (Nat.le_of_ble_eq_true rfl)
  rw [lg_entry_eq]
  generalize (lg_sl ([.ref b]) ++ List.replicate (4 - (lg_sl ([.ref b])).length) Slot.unset).toArray = ls at hl ⊢
  have hl : lv_has ls 4 [(0, .ref b)] := hl
  refine c_new (C := "EqualCourt") (T := TX8) (N := 13) (ci := 8) (fs := [.null, .null, .null, .null, .null, .null, .null, .null, .null, .null, .int 0, .int 0, .int 0]) hC hA hI inX8 tyX8 tyX8_ok tw_14 tw_15 tw_1 rfl nfX8 (Nat.le_of_ble_eq_true rfl) (Nat.le_of_ble_eq_true rfl) dL_law_0 (fun qx H hI => ?_)
  refine lv_dup hx hb dL_law_3 rfl ?_
  refine c_call (w0 := []) (q := qx) (ee := .inr (8, [.null, .null, .null, .null, .null, .null, .null, .null, .null, .null, .int 0, .int 0, .int 0])) (rest := [.ref qx]) hC hA hI (kX8_init_ok (h0 := qx)) tw_18 tw_17 tw_1 (index := 9) (np := 0) tw_16 rfl (by decide +kernel) ⟨Nat.le_of_ble_eq_true rfl, Nat.le_of_ble_eq_true rfl⟩ ⟨rfl, rfl⟩ rfl hl.1 rfl (Nat.le_of_ble_eq_true rfl) dL_law_4 ⟨Nat.le_of_ble_eq_true rfl, Nat.le_of_ble_eq_true rfl⟩ (fun ax H locs hI => ?_)
  have hI : cI (dC, dI) (fun q : Nat => s.heap.size ≤ q) ((qx, .inr (8, [.ref (ax 0), .ref (ax 10), .ref (ax 16), .ref (ax 57), .ref (ax 62), .ref (ax 68), .ref (ax 70), .ref (ax 72), .ref (ax 73), .ref (ax 74), .int 0, .int (-1), .int 0])) :: ((ax 0), .inr (7, [.ref (ax 1), .ref (ax 2), .ref (ax 3), .ref (ax 4), .ref (ax 5), .ref (ax 6), .ref (ax 7), .ref (ax 8), .ref (ax 9), .int 0])) :: ((ax 1), .inl (cy, 120, .inl fun _ => 0)) :: ((ax 2), .inl (cy, 120, .inl fun _ => 0)) :: ((ax 3), .inl (cy, 120, .inl fun _ => 0)) :: ((ax 4), .inl (cy, 360, .inl fun _ => 0)) :: ((ax 5), .inl (cy, 120, .inl fun _ => 0)) :: ((ax 6), .inl (cy, 128, .inl (fillr (fun _ => 0) (-1) 128))) :: ((ax 7), .inl (cy, 120, .inl fun _ => 0)) :: ((ax 8), .inl (cy, 120, .inl fun _ => 0)) :: ((ax 9), .inl (cy, 360, .inl fun _ => 0)) :: ((ax 10), .inr (5, [.ref (ax 11), .ref (ax 12), .ref (ax 13), .ref (ax 14), .ref (ax 15), .int 0, .int 0, .int 0])) :: ((ax 11), .inl (cz, 100, .inl fun _ => 0)) :: ((ax 12), .inl (cy, 100, .inl fun _ => 0)) :: ((ax 13), .inl (cy, 100, .inl fun _ => 0)) :: ((ax 14), .inl (cy, 100, .inl fun _ => 0)) :: ((ax 15), .inl (cy, 1000, .inl fun _ => 0)) :: ((ax 16), .inr (2, [.ref (ax 0), .ref (ax 10), .ref (ax 27), .ref (ax 37), .ref (ax 47), .ref (ax 17), .ref (ax 19), .ref (ax 20), .ref (ax 21)])) :: ((ax 17), .inr (1, [.ref (ax 18), .int 0])) :: ((ax 18), .inl (cy, 100, .inl fun _ => 0)) :: ((ax 19), .inl (cy, 100, .inl fun _ => 0)) :: ((ax 20), .inl (cz, 100, .inl fun _ => 0)) :: ((ax 21), .inl (cy, 100, .inl fun _ => 0)) :: ((ax 22), .inr (0, [.ref (ax 23), .ref (ax 24), .ref (ax 25), .ref (ax 26), .int 0, .int 0])) :: ((ax 23), .inl (cy, 242, .inl fun _ => 0)) :: ((ax 24), .inl (cy, 242, .inl fun _ => 0)) :: ((ax 25), .inl (cy, 120, .inl fun _ => 0)) :: ((ax 26), .inl (cz, 120, .inl fun _ => 0)) :: ((ax 27), .inr (4, [.ref (ax 0), .ref (ax 22), .ref (ax 28), .ref (ax 29), .ref (ax 30), .ref (ax 31), .ref (ax 32), .ref (ax 33), .ref (ax 34), .ref (ax 35), .ref (ax 36), .int 0, .int 0, .int 0])) :: ((ax 28), .inl (cy, 120, .inl fun _ => 0)) :: ((ax 29), .inl (cy, 120, .inl fun _ => 0)) :: ((ax 30), .inl (cy, 120, .inl fun _ => 0)) :: ((ax 31), .inl (cy, 120, .inl fun _ => 0)) :: ((ax 32), .inl (cy, 120, .inl fun _ => 0)) :: ((ax 33), .inl (cy, 120, .inl fun _ => 0)) :: ((ax 34), .inl (cy, 128, .inl (fillr (fun _ => 0) (-1) 128))) :: ((ax 35), .inl (cy, 120, .inl fun _ => 0)) :: ((ax 36), .inl (cy, 120, .inl fun _ => 0)) :: ((ax 37), .inr (4, [.ref (ax 0), .ref (ax 22), .ref (ax 38), .ref (ax 39), .ref (ax 40), .ref (ax 41), .ref (ax 42), .ref (ax 43), .ref (ax 44), .ref (ax 45), .ref (ax 46), .int 0, .int 0, .int 0])) :: ((ax 38), .inl (cy, 120, .inl fun _ => 0)) :: ((ax 39), .inl (cy, 120, .inl fun _ => 0)) :: ((ax 40), .inl (cy, 120, .inl fun _ => 0)) :: ((ax 41), .inl (cy, 120, .inl fun _ => 0)) :: ((ax 42), .inl (cy, 120, .inl fun _ => 0)) :: ((ax 43), .inl (cy, 120, .inl fun _ => 0)) :: ((ax 44), .inl (cy, 128, .inl (fillr (fun _ => 0) (-1) 128))) :: ((ax 45), .inl (cy, 120, .inl fun _ => 0)) :: ((ax 46), .inl (cy, 120, .inl fun _ => 0)) :: ((ax 47), .inr (4, [.ref (ax 0), .ref (ax 22), .ref (ax 48), .ref (ax 49), .ref (ax 50), .ref (ax 51), .ref (ax 52), .ref (ax 53), .ref (ax 54), .ref (ax 55), .ref (ax 56), .int 0, .int 0, .int 0])) :: ((ax 48), .inl (cy, 120, .inl fun _ => 0)) :: ((ax 49), .inl (cy, 120, .inl fun _ => 0)) :: ((ax 50), .inl (cy, 120, .inl fun _ => 0)) :: ((ax 51), .inl (cy, 120, .inl fun _ => 0)) :: ((ax 52), .inl (cy, 120, .inl fun _ => 0)) :: ((ax 53), .inl (cy, 120, .inl fun _ => 0)) :: ((ax 54), .inl (cy, 128, .inl (fillr (fun _ => 0) (-1) 128))) :: ((ax 55), .inl (cy, 120, .inl fun _ => 0)) :: ((ax 56), .inl (cy, 120, .inl fun _ => 0)) :: ((ax 57), .inr (3, [.ref (ax 0), .ref (ax 58), .ref (ax 59), .ref (ax 60), .ref (ax 61), .int 0])) :: ((ax 58), .inl (cy, 120, .inl fun _ => 0)) :: ((ax 59), .inl (cy, 120, .inl fun _ => 0)) :: ((ax 60), .inl (cy, 120, .inl fun _ => 0)) :: ((ax 61), .inl (cy, 3, .inl fun _ => 0)) :: ((ax 62), .inr (6, [.ref (ax 0), .ref (ax 10), .ref (ax 63), .ref (ax 64), .ref (ax 65), .ref (ax 66), .ref (ax 67), .int 0])) :: ((ax 63), .inl (cy, 100, .inl fun _ => 0)) :: ((ax 64), .inl (cy, 100, .inl fun _ => 0)) :: ((ax 65), .inl (cy, 100, .inl fun _ => 0)) :: ((ax 66), .inl (cy, 100, .inl fun _ => 0)) :: ((ax 67), .inl (cy, 100, .inl fun _ => 0)) :: ((ax 68), .inr (1, [.ref (ax 69), .int 0])) :: ((ax 69), .inl (cy, 100, .inl fun _ => 0)) :: ((ax 70), .inr (1, [.ref (ax 71), .int 0])) :: ((ax 71), .inl (cy, 100, .inl fun _ => 0)) :: ((ax 72), .inl (cy, 10, .inl fun _ => 0)) :: ((ax 73), .inl (cy, 10, .inl fun _ => 0)) :: ((ax 74), .inl (cy, 120, .inl fun _ => 0)) :: []) s H _ := hI
  refine lv_astore_n (lv' := [(1, .ref qx), (0, .ref b)]) hx hb dL_law_7 rfl hl (by decide) rfl (fun ls hl => ?_)
  refine c_new (C := "EqualCourtModel") (T := TX9) (N := 42) (ci := 9) (fs := [.null, .null, .null, .null, .int 0, .null, .null, .null, .null, .int 0, .null, .int 0, .null, .null, .int 0, .null, .null, .null, .null, .null, .int 0, .null, .int 0, .null, .int 0, .int 0, .int 0, .null, .null, .null, .int 0, .null, .null, .null, .null, .null, .null, .null, .null, .null, .int 0, .int 0]) hC hA hI inX9 tyX9 tyX9_ok tw_848 tw_849 tw_11 rfl nfX9 (Nat.le_of_ble_eq_true rfl) (Nat.le_of_ble_eq_true rfl) dL_law_8 (fun qm H hI => ?_)
  refine lv_dup hx hb dL_law_11 rfl ?_
  refine c_call (w0 := ((qx, .inr (8, [.ref (ax 0), .ref (ax 10), .ref (ax 16), .ref (ax 57), .ref (ax 62), .ref (ax 68), .ref (ax 70), .ref (ax 72), .ref (ax 73), .ref (ax 74), .int 0, .int (-1), .int 0])) :: ((ax 0), .inr (7, [.ref (ax 1), .ref (ax 2), .ref (ax 3), .ref (ax 4), .ref (ax 5), .ref (ax 6), .ref (ax 7), .ref (ax 8), .ref (ax 9), .int 0])) :: ((ax 1), .inl (cy, 120, .inl fun _ => 0)) :: ((ax 2), .inl (cy, 120, .inl fun _ => 0)) :: ((ax 3), .inl (cy, 120, .inl fun _ => 0)) :: ((ax 4), .inl (cy, 360, .inl fun _ => 0)) :: ((ax 5), .inl (cy, 120, .inl fun _ => 0)) :: ((ax 6), .inl (cy, 128, .inl (fillr (fun _ => 0) (-1) 128))) :: ((ax 7), .inl (cy, 120, .inl fun _ => 0)) :: ((ax 8), .inl (cy, 120, .inl fun _ => 0)) :: ((ax 9), .inl (cy, 360, .inl fun _ => 0)) :: ((ax 10), .inr (5, [.ref (ax 11), .ref (ax 12), .ref (ax 13), .ref (ax 14), .ref (ax 15), .int 0, .int 0, .int 0])) :: ((ax 11), .inl (cz, 100, .inl fun _ => 0)) :: ((ax 12), .inl (cy, 100, .inl fun _ => 0)) :: ((ax 13), .inl (cy, 100, .inl fun _ => 0)) :: ((ax 14), .inl (cy, 100, .inl fun _ => 0)) :: ((ax 15), .inl (cy, 1000, .inl fun _ => 0)) :: ((ax 16), .inr (2, [.ref (ax 0), .ref (ax 10), .ref (ax 27), .ref (ax 37), .ref (ax 47), .ref (ax 17), .ref (ax 19), .ref (ax 20), .ref (ax 21)])) :: ((ax 17), .inr (1, [.ref (ax 18), .int 0])) :: ((ax 18), .inl (cy, 100, .inl fun _ => 0)) :: ((ax 19), .inl (cy, 100, .inl fun _ => 0)) :: ((ax 20), .inl (cz, 100, .inl fun _ => 0)) :: ((ax 21), .inl (cy, 100, .inl fun _ => 0)) :: ((ax 22), .inr (0, [.ref (ax 23), .ref (ax 24), .ref (ax 25), .ref (ax 26), .int 0, .int 0])) :: ((ax 23), .inl (cy, 242, .inl fun _ => 0)) :: ((ax 24), .inl (cy, 242, .inl fun _ => 0)) :: ((ax 25), .inl (cy, 120, .inl fun _ => 0)) :: ((ax 26), .inl (cz, 120, .inl fun _ => 0)) :: ((ax 27), .inr (4, [.ref (ax 0), .ref (ax 22), .ref (ax 28), .ref (ax 29), .ref (ax 30), .ref (ax 31), .ref (ax 32), .ref (ax 33), .ref (ax 34), .ref (ax 35), .ref (ax 36), .int 0, .int 0, .int 0])) :: ((ax 28), .inl (cy, 120, .inl fun _ => 0)) :: ((ax 29), .inl (cy, 120, .inl fun _ => 0)) :: ((ax 30), .inl (cy, 120, .inl fun _ => 0)) :: ((ax 31), .inl (cy, 120, .inl fun _ => 0)) :: ((ax 32), .inl (cy, 120, .inl fun _ => 0)) :: ((ax 33), .inl (cy, 120, .inl fun _ => 0)) :: ((ax 34), .inl (cy, 128, .inl (fillr (fun _ => 0) (-1) 128))) :: ((ax 35), .inl (cy, 120, .inl fun _ => 0)) :: ((ax 36), .inl (cy, 120, .inl fun _ => 0)) :: ((ax 37), .inr (4, [.ref (ax 0), .ref (ax 22), .ref (ax 38), .ref (ax 39), .ref (ax 40), .ref (ax 41), .ref (ax 42), .ref (ax 43), .ref (ax 44), .ref (ax 45), .ref (ax 46), .int 0, .int 0, .int 0])) :: ((ax 38), .inl (cy, 120, .inl fun _ => 0)) :: ((ax 39), .inl (cy, 120, .inl fun _ => 0)) :: ((ax 40), .inl (cy, 120, .inl fun _ => 0)) :: ((ax 41), .inl (cy, 120, .inl fun _ => 0)) :: ((ax 42), .inl (cy, 120, .inl fun _ => 0)) :: ((ax 43), .inl (cy, 120, .inl fun _ => 0)) :: ((ax 44), .inl (cy, 128, .inl (fillr (fun _ => 0) (-1) 128))) :: ((ax 45), .inl (cy, 120, .inl fun _ => 0)) :: ((ax 46), .inl (cy, 120, .inl fun _ => 0)) :: ((ax 47), .inr (4, [.ref (ax 0), .ref (ax 22), .ref (ax 48), .ref (ax 49), .ref (ax 50), .ref (ax 51), .ref (ax 52), .ref (ax 53), .ref (ax 54), .ref (ax 55), .ref (ax 56), .int 0, .int 0, .int 0])) :: ((ax 48), .inl (cy, 120, .inl fun _ => 0)) :: ((ax 49), .inl (cy, 120, .inl fun _ => 0)) :: ((ax 50), .inl (cy, 120, .inl fun _ => 0)) :: ((ax 51), .inl (cy, 120, .inl fun _ => 0)) :: ((ax 52), .inl (cy, 120, .inl fun _ => 0)) :: ((ax 53), .inl (cy, 120, .inl fun _ => 0)) :: ((ax 54), .inl (cy, 128, .inl (fillr (fun _ => 0) (-1) 128))) :: ((ax 55), .inl (cy, 120, .inl fun _ => 0)) :: ((ax 56), .inl (cy, 120, .inl fun _ => 0)) :: ((ax 57), .inr (3, [.ref (ax 0), .ref (ax 58), .ref (ax 59), .ref (ax 60), .ref (ax 61), .int 0])) :: ((ax 58), .inl (cy, 120, .inl fun _ => 0)) :: ((ax 59), .inl (cy, 120, .inl fun _ => 0)) :: ((ax 60), .inl (cy, 120, .inl fun _ => 0)) :: ((ax 61), .inl (cy, 3, .inl fun _ => 0)) :: ((ax 62), .inr (6, [.ref (ax 0), .ref (ax 10), .ref (ax 63), .ref (ax 64), .ref (ax 65), .ref (ax 66), .ref (ax 67), .int 0])) :: ((ax 63), .inl (cy, 100, .inl fun _ => 0)) :: ((ax 64), .inl (cy, 100, .inl fun _ => 0)) :: ((ax 65), .inl (cy, 100, .inl fun _ => 0)) :: ((ax 66), .inl (cy, 100, .inl fun _ => 0)) :: ((ax 67), .inl (cy, 100, .inl fun _ => 0)) :: ((ax 68), .inr (1, [.ref (ax 69), .int 0])) :: ((ax 69), .inl (cy, 100, .inl fun _ => 0)) :: ((ax 70), .inr (1, [.ref (ax 71), .int 0])) :: ((ax 71), .inl (cy, 100, .inl fun _ => 0)) :: ((ax 72), .inl (cy, 10, .inl fun _ => 0)) :: ((ax 73), .inl (cy, 10, .inl fun _ => 0)) :: ((ax 74), .inl (cy, 120, .inl fun _ => 0)) :: [])) (q := qm) (ee := .inr (9, [.null, .null, .null, .null, .int 0, .null, .null, .null, .null, .int 0, .null, .int 0, .null, .null, .int 0, .null, .null, .null, .null, .null, .int 0, .null, .int 0, .null, .int 0, .int 0, .int 0, .null, .null, .null, .int 0, .null, .null, .null, .null, .null, .null, .null, .null, .null, .int 0, .int 0])) (rest := [.ref qm]) hC hA hI (kX9_init_ok (h0 := qm)) tw_852 tw_851 tw_11 (index := 12) (np := 0) tw_850 rfl (by decide +kernel) ⟨Nat.le_of_ble_eq_true rfl, Nat.le_of_ble_eq_true rfl⟩ ⟨rfl, rfl⟩ rfl hl.1 rfl (Nat.le_of_ble_eq_true rfl) dL_law_12 ⟨Nat.le_of_ble_eq_true rfl, Nat.le_of_ble_eq_true rfl⟩ (fun am H locs hI => ?_)
  have hI : cI (dC, dI) (fun q : Nat => s.heap.size ≤ q) ((qx, .inr (8, [.ref (ax 0), .ref (ax 10), .ref (ax 16), .ref (ax 57), .ref (ax 62), .ref (ax 68), .ref (ax 70), .ref (ax 72), .ref (ax 73), .ref (ax 74), .int 0, .int (-1), .int 0])) :: ((ax 0), .inr (7, [.ref (ax 1), .ref (ax 2), .ref (ax 3), .ref (ax 4), .ref (ax 5), .ref (ax 6), .ref (ax 7), .ref (ax 8), .ref (ax 9), .int 0])) :: ((ax 1), .inl (cy, 120, .inl fun _ => 0)) :: ((ax 2), .inl (cy, 120, .inl fun _ => 0)) :: ((ax 3), .inl (cy, 120, .inl fun _ => 0)) :: ((ax 4), .inl (cy, 360, .inl fun _ => 0)) :: ((ax 5), .inl (cy, 120, .inl fun _ => 0)) :: ((ax 6), .inl (cy, 128, .inl (fillr (fun _ => 0) (-1) 128))) :: ((ax 7), .inl (cy, 120, .inl fun _ => 0)) :: ((ax 8), .inl (cy, 120, .inl fun _ => 0)) :: ((ax 9), .inl (cy, 360, .inl fun _ => 0)) :: ((ax 10), .inr (5, [.ref (ax 11), .ref (ax 12), .ref (ax 13), .ref (ax 14), .ref (ax 15), .int 0, .int 0, .int 0])) :: ((ax 11), .inl (cz, 100, .inl fun _ => 0)) :: ((ax 12), .inl (cy, 100, .inl fun _ => 0)) :: ((ax 13), .inl (cy, 100, .inl fun _ => 0)) :: ((ax 14), .inl (cy, 100, .inl fun _ => 0)) :: ((ax 15), .inl (cy, 1000, .inl fun _ => 0)) :: ((ax 16), .inr (2, [.ref (ax 0), .ref (ax 10), .ref (ax 27), .ref (ax 37), .ref (ax 47), .ref (ax 17), .ref (ax 19), .ref (ax 20), .ref (ax 21)])) :: ((ax 17), .inr (1, [.ref (ax 18), .int 0])) :: ((ax 18), .inl (cy, 100, .inl fun _ => 0)) :: ((ax 19), .inl (cy, 100, .inl fun _ => 0)) :: ((ax 20), .inl (cz, 100, .inl fun _ => 0)) :: ((ax 21), .inl (cy, 100, .inl fun _ => 0)) :: ((ax 22), .inr (0, [.ref (ax 23), .ref (ax 24), .ref (ax 25), .ref (ax 26), .int 0, .int 0])) :: ((ax 23), .inl (cy, 242, .inl fun _ => 0)) :: ((ax 24), .inl (cy, 242, .inl fun _ => 0)) :: ((ax 25), .inl (cy, 120, .inl fun _ => 0)) :: ((ax 26), .inl (cz, 120, .inl fun _ => 0)) :: ((ax 27), .inr (4, [.ref (ax 0), .ref (ax 22), .ref (ax 28), .ref (ax 29), .ref (ax 30), .ref (ax 31), .ref (ax 32), .ref (ax 33), .ref (ax 34), .ref (ax 35), .ref (ax 36), .int 0, .int 0, .int 0])) :: ((ax 28), .inl (cy, 120, .inl fun _ => 0)) :: ((ax 29), .inl (cy, 120, .inl fun _ => 0)) :: ((ax 30), .inl (cy, 120, .inl fun _ => 0)) :: ((ax 31), .inl (cy, 120, .inl fun _ => 0)) :: ((ax 32), .inl (cy, 120, .inl fun _ => 0)) :: ((ax 33), .inl (cy, 120, .inl fun _ => 0)) :: ((ax 34), .inl (cy, 128, .inl (fillr (fun _ => 0) (-1) 128))) :: ((ax 35), .inl (cy, 120, .inl fun _ => 0)) :: ((ax 36), .inl (cy, 120, .inl fun _ => 0)) :: ((ax 37), .inr (4, [.ref (ax 0), .ref (ax 22), .ref (ax 38), .ref (ax 39), .ref (ax 40), .ref (ax 41), .ref (ax 42), .ref (ax 43), .ref (ax 44), .ref (ax 45), .ref (ax 46), .int 0, .int 0, .int 0])) :: ((ax 38), .inl (cy, 120, .inl fun _ => 0)) :: ((ax 39), .inl (cy, 120, .inl fun _ => 0)) :: ((ax 40), .inl (cy, 120, .inl fun _ => 0)) :: ((ax 41), .inl (cy, 120, .inl fun _ => 0)) :: ((ax 42), .inl (cy, 120, .inl fun _ => 0)) :: ((ax 43), .inl (cy, 120, .inl fun _ => 0)) :: ((ax 44), .inl (cy, 128, .inl (fillr (fun _ => 0) (-1) 128))) :: ((ax 45), .inl (cy, 120, .inl fun _ => 0)) :: ((ax 46), .inl (cy, 120, .inl fun _ => 0)) :: ((ax 47), .inr (4, [.ref (ax 0), .ref (ax 22), .ref (ax 48), .ref (ax 49), .ref (ax 50), .ref (ax 51), .ref (ax 52), .ref (ax 53), .ref (ax 54), .ref (ax 55), .ref (ax 56), .int 0, .int 0, .int 0])) :: ((ax 48), .inl (cy, 120, .inl fun _ => 0)) :: ((ax 49), .inl (cy, 120, .inl fun _ => 0)) :: ((ax 50), .inl (cy, 120, .inl fun _ => 0)) :: ((ax 51), .inl (cy, 120, .inl fun _ => 0)) :: ((ax 52), .inl (cy, 120, .inl fun _ => 0)) :: ((ax 53), .inl (cy, 120, .inl fun _ => 0)) :: ((ax 54), .inl (cy, 128, .inl (fillr (fun _ => 0) (-1) 128))) :: ((ax 55), .inl (cy, 120, .inl fun _ => 0)) :: ((ax 56), .inl (cy, 120, .inl fun _ => 0)) :: ((ax 57), .inr (3, [.ref (ax 0), .ref (ax 58), .ref (ax 59), .ref (ax 60), .ref (ax 61), .int 0])) :: ((ax 58), .inl (cy, 120, .inl fun _ => 0)) :: ((ax 59), .inl (cy, 120, .inl fun _ => 0)) :: ((ax 60), .inl (cy, 120, .inl fun _ => 0)) :: ((ax 61), .inl (cy, 3, .inl fun _ => 0)) :: ((ax 62), .inr (6, [.ref (ax 0), .ref (ax 10), .ref (ax 63), .ref (ax 64), .ref (ax 65), .ref (ax 66), .ref (ax 67), .int 0])) :: ((ax 63), .inl (cy, 100, .inl fun _ => 0)) :: ((ax 64), .inl (cy, 100, .inl fun _ => 0)) :: ((ax 65), .inl (cy, 100, .inl fun _ => 0)) :: ((ax 66), .inl (cy, 100, .inl fun _ => 0)) :: ((ax 67), .inl (cy, 100, .inl fun _ => 0)) :: ((ax 68), .inr (1, [.ref (ax 69), .int 0])) :: ((ax 69), .inl (cy, 100, .inl fun _ => 0)) :: ((ax 70), .inr (1, [.ref (ax 71), .int 0])) :: ((ax 71), .inl (cy, 100, .inl fun _ => 0)) :: ((ax 72), .inl (cy, 10, .inl fun _ => 0)) :: ((ax 73), .inl (cy, 10, .inl fun _ => 0)) :: ((ax 74), .inl (cy, 120, .inl fun _ => 0)) :: (qm, .inr (9, [.ref (am 0), .ref (am 1), .ref (am 2), .ref (am 3), .int 0, .ref (am 4), .ref (am 5), .ref (am 6), .ref (am 7), .int 0, .ref (am 8), .int 0, .ref (am 9), .ref (am 10), .int 0, .ref (am 11), .ref (am 12), .ref (am 13), .ref (am 14), .ref (am 15), .int 0, .ref (am 16), .int 0, .ref (am 17), .int 0, .int (-1), .int 0, .ref (am 18), .ref (am 19), .ref (am 20), .int 0, .ref (am 21), .ref (am 22), .ref (am 23), .ref (am 24), .ref (am 25), .ref (am 26), .ref (am 27), .ref (am 28), .ref (am 29), .int 0, .int 0])) :: ((am 0), .inl (cy, 120, .inl fun _ => 0)) :: ((am 1), .inl (cy, 120, .inl fun _ => 0)) :: ((am 2), .inl (cy, 120, .inl fun _ => 0)) :: ((am 3), .inl (cy, 360, .inl fun _ => 0)) :: ((am 4), .inl (cy, 101, .inl fun _ => 0)) :: ((am 5), .inl (cy, 101, .inl fun _ => 0)) :: ((am 6), .inl (cz, 101, .inl fun _ => 0)) :: ((am 7), .inl (cz, 101, .inl fun _ => 0)) :: ((am 8), .inl (cz, 1000, .inl fun _ => 0)) :: ((am 9), .inl (cy, 10, .inl fun _ => 0)) :: ((am 10), .inl (cy, 10, .inl fun _ => 0)) :: ((am 11), .inl (cy, 100, .inl fun _ => 0)) :: ((am 12), .inl (cy, 100, .inl fun _ => 0)) :: ((am 13), .inl (cy, 100, .inl fun _ => 0)) :: ((am 14), .inl (cy, 100, .inl fun _ => 0)) :: ((am 15), .inl (cy, 100, .inl fun _ => 0)) :: ((am 16), .inl (cy, 100, .inl fun _ => 0)) :: ((am 17), .inl (cy, 100, .inl fun _ => 0)) :: ((am 18), .inl (cy, 3, .inl fun _ => 0)) :: ((am 19), .inl (cy, 120, .inl fun _ => 0)) :: ((am 20), .inl (cz, 101, .inl fun _ => 0)) :: ((am 21), .inl (cy, 100, .inl fun _ => 0)) :: ((am 22), .inl (cy, 100, .inl fun _ => 0)) :: ((am 23), .inl (cy, 3, .inl fun _ => 0)) :: ((am 24), .inl (cy, 120, .inl fun _ => 0)) :: ((am 25), .inl (cy, 121, .inl fun _ => 0)) :: ((am 26), .inl (cy, 121, .inl fun _ => 0)) :: ((am 27), .inl (cz, 3, .inl fun _ => 0)) :: ((am 28), .inl (cz, 120, .inl fun _ => 0)) :: ((am 29), .inl (cy, 120, .inl fun _ => 0)) :: []) s H _ := hI
  refine lv_astore_n (lv' := [(2, .ref qm), (1, .ref qx), (0, .ref b)]) hx hb dL_law_15 rfl hl (by decide) rfl (fun ls hl => ?_)
  refine lv_iconst (v := 0) hx hb dL_law_16 (by decide) ?_
  refine lv_istore_n (lv' := [(3, .int 0), (2, .ref qm), (1, .ref qx), (0, .ref b)]) hx hb dL_law_17 rfl hl (by decide) rfl (fun ls hl => ?_)
  obtain ⟨aX, haX⟩ : ∃ a : Nat → Nat, a = fun k => (qx :: (ax 0) :: (ax 1) :: (ax 2) :: (ax 3) :: (ax 4) :: (ax 5) :: (ax 6) :: (ax 7) :: (ax 8) :: (ax 9) :: (ax 10) :: (ax 11) :: (ax 12) :: (ax 13) :: (ax 14) :: (ax 15) :: (ax 16) :: (ax 17) :: (ax 18) :: (ax 19) :: (ax 20) :: (ax 21) :: (ax 22) :: (ax 23) :: (ax 24) :: (ax 25) :: (ax 26) :: (ax 27) :: (ax 28) :: (ax 29) :: (ax 30) :: (ax 31) :: (ax 32) :: (ax 33) :: (ax 34) :: (ax 35) :: (ax 36) :: (ax 37) :: (ax 38) :: (ax 39) :: (ax 40) :: (ax 41) :: (ax 42) :: (ax 43) :: (ax 44) :: (ax 45) :: (ax 46) :: (ax 47) :: (ax 48) :: (ax 49) :: (ax 50) :: (ax 51) :: (ax 52) :: (ax 53) :: (ax 54) :: (ax 55) :: (ax 56) :: (ax 57) :: (ax 58) :: (ax 59) :: (ax 60) :: (ax 61) :: (ax 62) :: (ax 63) :: (ax 64) :: (ax 65) :: (ax 66) :: (ax 67) :: (ax 68) :: (ax 69) :: (ax 70) :: (ax 71) :: (ax 72) :: (ax 73) :: (ax 74) :: []).getD k 0 := ⟨_, rfl⟩
  obtain ⟨aM, haM⟩ : ∃ a : Nat → Nat, a = fun k => (qm :: (am 0) :: (am 1) :: (am 2) :: (am 3) :: (am 4) :: (am 5) :: (am 6) :: (am 7) :: (am 8) :: (am 9) :: (am 10) :: (am 11) :: (am 12) :: (am 13) :: (am 14) :: (am 15) :: (am 16) :: (am 17) :: (am 18) :: (am 19) :: (am 20) :: (am 21) :: (am 22) :: (am 23) :: (am 24) :: (am 25) :: (am 26) :: (am 27) :: (am 28) :: (am 29) :: []).getD k 0 := ⟨_, rfl⟩
  have hw : va_P (dC, dI) vwCl (fw 76 aX (cfX aX cy cz) zX0 ++ fw 31 aM (cfM aM cy cz) zM0) H := hI.1.sub [0, 1, 2, 3, 4, 5, 6, 7, 8, 9, 10, 11, 12, 13, 14, 15, 16, 17, 18, 19, 20, 21, 22, 23, 24, 25, 26, 27, 28, 29, 30, 31, 32, 33, 34, 35, 36, 37, 38, 39, 40, 41, 42, 43, 44, 45, 46, 47, 48, 49, 50, 51, 52, 53, 54, 55, 56, 57, 58, 59, 60, 61, 62, 63, 64, 65, 66, 67, 68, 69, 70, 71, 72, 73, 74, 75, 76, 77, 78, 79, 80, 81, 82, 83, 84, 85, 86, 87, 88, 89, 90, 91, 92, 93, 94, 95, 96, 97, 98, 99, 100, 101, 102, 103, 104, 105, 106] (by rw [haX, haM]; rfl)
  have hd : va_D (fun q : Nat => s.heap.size ≤ q) (fw 76 aX (cfX aX cy cz) zX0 ++ fw 31 aM (cfM aM cy cz) zM0) := hI.2.1.sub [0, 1, 2, 3, 4, 5, 6, 7, 8, 9, 10, 11, 12, 13, 14, 15, 16, 17, 18, 19, 20, 21, 22, 23, 24, 25, 26, 27, 28, 29, 30, 31, 32, 33, 34, 35, 36, 37, 38, 39, 40, 41, 42, 43, 44, 45, 46, 47, 48, 49, 50, 51, 52, 53, 54, 55, 56, 57, 58, 59, 60, 61, 62, 63, 64, 65, 66, 67, 68, 69, 70, 71, 72, 73, 74, 75, 76, 77, 78, 79, 80, 81, 82, 83, 84, 85, 86, 87, 88, 89, 90, 91, 92, 93, 94, 95, 96, 97, 98, 99, 100, 101, 102, 103, 104, 105, 106] (by decide) (by rw [haX, haM]; rfl)
  have gX : ∀ k, k < 76 → (fw 76 aX (cfX aX cy cz) zX0 ++ fw 31 aM (cfM aM cy cz) zM0)[k]? = some (aX k, cfX aX cy cz k (zX0 k)) := fun k hk => by
    rw [List.getElem?_append_left (by simp [fw]; exact hk)]; exact fw_at hk
  have gM : ∀ k, k < 31 → (fw 76 aX (cfX aX cy cz) zX0 ++ fw 31 aM (cfM aM cy cz) zM0)[76 + k]? = some (aM k, cfM aM cy cz k (zM0 k)) := fun k hk => by
    rw [List.getElem?_append_right (by simp [fw])]
    simp only [fw, List.length_map, List.length_range, Nat.add_sub_cancel_left]
    exact fw_at (cf := cfM aM cy cz) (σ := zM0) hk
  have hL : lC (dC, dI) aX aM cy cz p s m #[Value.ref b] c := ⟨hx, hb, hml, hown, hts, hK, hN, fun i j hi hj h => hd.1 i j _ _ (gX i hi) (gX j hj) h, fun i j hi hj h => by
    have := hd.1 _ _ _ _ (gM i hi) (gM j hj) h
    omega, fun i j hi hj h => by
    have := hd.1 _ _ _ _ (gX i hi) (gM j hj) h
    omega, fun i hi => hd.2 _ _ (gX i hi), fun i hi => hd.2 _ _ (gM i hi)⟩
  have hI2 : lI (dC, dI) aX aM cy cz zX0 zM0 s H locs := ⟨fun k q h => by
    obtain ⟨hk, rfl⟩ := fw_inv h
    exact hw k _ (gX k hk), fun k q h => by
    obtain ⟨hk, rfl⟩ := fw_inv h
    exact hw (76 + k) _ (gM k hk), hI.2.2⟩
  have e1 : aX 0 = qx := by rw [haX]; rfl
  have e2 : aM 0 = qm := by rw [haM]; rfl
  exact law_loop Rel hst hL hLL hX hbl hr hlocks 512 0 zX0 zM0 _ _ _ rfl (Nat.zero_le _) h0 hI2 (by rw [e1, e2]; exact hl)
