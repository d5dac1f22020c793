/-! a term is made -/
section MAKE
variable {T : List Tm} {z z' : fS} {tm : Tm} {H : Nat → Nat}
noncomputable def mkT (T : List Tm) (tm : Tm) : Option (Nat × List Tm) := @dite _ (∃ t, t < T.length ∧ gT T t = tm) (Classical.propDecidable _) (fun h => some (Classical.choose h, T)) (fun _ => if T.length < 120 then some (T.length, T ++ [tm]) else none)
theorem mkT_old (hU : Uq T) {t : Nat} (ht : t < T.length) (e : gT T t = tm) : mkT T tm = some (t, T) := by
  have h : ∃ t, t < T.length ∧ gT T t = tm := ⟨t, ht, e⟩
  unfold mkT
  rw [dif_pos h]
  have := Classical.choose_spec h
  rw [hU _ t this.1 ht (this.2.trans e.symm)]
theorem mkT_new (hn : ∀ t, t < T.length → gT T t ≠ tm) (hl : T.length < 120) : mkT T tm = some (T.length, T ++ [tm]) := by
  unfold mkT
  rw [dif_neg (fun ⟨t, h1, h2⟩ => hn t h1 h2), if_pos hl]
theorem mkT_full (hn : ∀ t, t < T.length → gT T t ≠ tm) (hl : ¬ T.length < 120) : mkT T tm = none := by
  unfold mkT
  rw [dif_neg (fun ⟨t, h1, h2⟩ => hn t h1 h2), if_neg hl]
theorem hole_cases {x : Int32} (h1 : ¬ x < nI 90) (h2 : ¬ nI 93 ≤ x) : x = nI 90 ∨ x = nI 91 ∨ x = nI 92 := by
  rw [Int32.lt_iff_toInt_lt, nI_toInt (by omega)] at h1
  rw [Int32.le_iff_toInt_le, nI_toInt (by omega)] at h2
  have h3 : x.toInt = 90 ∨ x.toInt = 91 ∨ x.toInt = 92 := by omega
  rcases h3 with h3 | h3 | h3
  · exact Or.inl (Int32.toInt_inj.mp (by rw [h3, nI_toInt (by omega)]; rfl))
  · exact Or.inr (Or.inl (Int32.toInt_inj.mp (by rw [h3, nI_toInt (by omega)]; rfl)))
  · exact Or.inr (Or.inr (Int32.toInt_inj.mp (by rw [h3, nI_toInt (by omega)]; rfl)))
def hoB (tm : Tm) : Bool := decide (hbit tm ≠ 0)
theorem hbit_cases (tm : Tm) : hbit tm = 0 ∨ (tm.1 = nI 0 ∧ ((tm.2.1 = nI 90 ∧ hbit tm = 1) ∨ (tm.2.1 = nI 91 ∧ hbit tm = 2) ∨ (tm.2.1 = nI 92 ∧ hbit tm = 4))) := by
  unfold hbit
  by_cases q1 : tm.1 = nI 0 ∧ tm.2.1 = nI 90
  · rw [if_pos q1]; exact Or.inr ⟨q1.1, Or.inl ⟨q1.2, rfl⟩⟩
  · rw [if_neg q1]
    by_cases q2 : tm.1 = nI 0 ∧ tm.2.1 = nI 91
    · rw [if_pos q2]; exact Or.inr ⟨q2.1, Or.inr (Or.inl ⟨q2.2, rfl⟩)⟩
    · rw [if_neg q2]
      by_cases q3 : tm.1 = nI 0 ∧ tm.2.1 = nI 92
      · rw [if_pos q3]; exact Or.inr ⟨q3.1, Or.inr (Or.inr ⟨q3.2, rfl⟩)⟩
      · rw [if_neg q3]; exact Or.inl rfl
theorem hbit_lt (tm : Tm) : hbit tm < 8 := by
  rcases hbit_cases tm with h | ⟨_, ⟨_, h⟩ | ⟨_, h⟩ | ⟨_, h⟩⟩ <;> omega
theorem hole_if (tm : Tm) : (if tm.1 = nI 0 then (if tm.2.1 < nI 90 then some (nI 0) else if nI 93 ≤ tm.2.1 then some (nI 0) else some (nI 1)) else some (nI 0)) = some (bI (hoB tm)) := by
  have b0 : bI (hoB tm) = if hbit tm = 0 then nI 0 else nI 1 := by
    unfold hoB
    by_cases q : hbit tm = 0
    · rw [if_pos q, q]; rfl
    · rw [if_neg q, decide_eq_true q]; rfl
  rw [b0]
  rcases hbit_cases tm with h | ⟨h0, h⟩
  · rw [if_pos h]
    by_cases q0 : tm.1 = nI 0
    · rw [if_pos q0]
      by_cases q1 : tm.2.1 < nI 90
      · rw [if_pos q1]
      · rw [if_neg q1]
        by_cases q2 : nI 93 ≤ tm.2.1
        · rw [if_pos q2]
        · exfalso
          unfold hbit at h
          rcases hole_cases q1 q2 with e | e | e
          · rw [if_pos ⟨q0, e⟩] at h; omega
          · rw [if_neg (fun c => by rw [e, nI_eq (by omega) (by omega)] at c; omega), if_pos ⟨q0, e⟩] at h; omega
          · rw [if_neg (fun c => by rw [e, nI_eq (by omega) (by omega)] at c; omega), if_neg (fun c => by rw [e, nI_eq (by omega) (by omega)] at c; omega), if_pos ⟨q0, e⟩] at h; omega
    · rw [if_neg q0]
  · rw [if_pos h0]
    rcases h with ⟨e, h⟩ | ⟨e, h⟩ | ⟨e, h⟩
    · rw [h, e]
      simp (disch := omega) only [nI_ltI, nI_leI, if_neg]
    · rw [h, e]
      simp (disch := omega) only [nI_ltI, nI_leI, if_neg]
    · rw [h, e]
      simp (disch := omega) only [nI_ltI, nI_leI, if_neg]
theorem isHole_v {t : Nat} (ht : t < 120) (h2 : z 2 t = tm.1) (h3 : z 3 t = tm.2.1) : fX7_isHole z (nI t) = some (bI (hoB tm)) := by
  unfold fX7_isHole
  simp (disch := omega) only [inb_t, gd_t, rd_nI, h2, h3, lit]
  exact hole_if tm
theorem isHoleM_v {t : Nat} (ht : t < 120) (h1 : z 1 t = tm.1) (h2 : z 2 t = tm.2.1) : fX9_isHole z (nI t) = some (bI (hoB tm)) := by
  unfold fX9_isHole
  simp (disch := omega) only [inb_t, gd_t, rd_nI, h1, h2, lit]
  exact hole_if tm
theorem or_nI {a b : Nat} (ha : a < 8) (hb : b < 8) : nI a ||| nI b = nI (a ||| b) := by
  have h : ∀ a : Fin 8, ∀ b : Fin 8, nI a.1 ||| nI b.1 = nI (a.1 ||| b.1) := by decide
  exact h ⟨a, ha⟩ ⟨b, hb⟩
theorem shl_bit {x : Int32} : (x = nI 90 → (nI 1 <<< ((x - nI 90) &&& nI 31)) = nI 1) ∧ (x = nI 91 → (nI 1 <<< ((x - nI 90) &&& nI 31)) = nI 2) ∧ (x = nI 92 → (nI 1 <<< ((x - nI 90) &&& nI 31)) = nI 4) := by
  refine ⟨?_, ?_, ?_⟩ <;> (rintro rfl; decide)
theorem orl_lt : ∀ (l : List Nat) (m : Nat), m < 8 → (∀ p, p ∈ l → H p < 8) → orl H l m < 8
  | [], m, hm, _ => hm
  | p :: l, m, hm, h => orl_lt l (m ||| H p) (Nat.or_lt_two_pow (n := 3) hm (h p List.mem_cons_self)) fun q hq => h q (List.mem_cons_of_mem _ hq)
theorem orl_cong {H' : Nat → Nat} : ∀ (l : List Nat) (m : Nat), (∀ p, p ∈ l → H' p = H p) → orl H' l m = orl H l m
  | [], m, _ => rfl
  | p :: l, m, h => by
    unfold orl
    rw [h p List.mem_cons_self]
    exact orl_cong l _ fun q hq => h q (List.mem_cons_of_mem _ hq)
theorem orl_app : ∀ (l : List Nat) (m p : Nat), orl H (l ++ [p]) m = orl H l m ||| H p
  | [], m, p => rfl
  | q :: l, m, p => orl_app l (m ||| H q) p
def nx1 (H : Nat → Nat) (n v : Nat) : Nat → Nat := fun t => if t = n then v else H t
theorem nx1_e {n v : Nat} : nx1 H n v n = v := by simp [nx1]
theorem nx1_n {n v t : Nat} (h : t ≠ n) : nx1 H n v t = H t := by simp [nx1, h]
/-- the places, while those of a new term are put in -/
def HPi (T : List Tm) (l : List Nat) (i : Nat) (z : fS) : Prop := ∀ t, t ≤ T.length → ∃ pl, Lst (z 10) (z 9 t) pl ∧ pl.Pairwise (· > ·) ∧ ∀ p, p ∈ pl ↔ ((p / 3 < T.length ∧ p % 3 < sz T (p / 3) ∧ pt T (p / 3) (p % 3) = t) ∨ (∃ j, j < i ∧ p = 3 * T.length + j ∧ l.getD j 0 = t))
theorem make_loop (hW : WT T) {l : List Nat} (hn : T.length < 120) (hl : l.length ≤ 3) (hlt : ∀ p, p ∈ l → p < T.length) {k248 : fS → Option (Int32 × fS)} {w1 w2 w3 w4 w5 : Int32} {m : Nat} (hm : m < 8) (hH : ∀ p, p < T.length → H p < 8) : ∀ (d i N : Nat) (z : fS), i + d = l.length → d < N → z 4 T.length = nI l.length → (∀ j, j < l.length → z 5 (3 * T.length + j) = nI (l.getD j 0)) → (∀ p, p < T.length → z 6 p = nI (H p)) → z 6 T.length = nI (orl H (l.take i) m) → HPi T l i z → ∃ z', lX7_findOrMake_176 k248 w1 w2 w3 w4 w5 (nI T.length) N (nI (3 * T.length + i)) z = k248 z' ∧ (∀ p, p < T.length → z' 6 p = nI (H p)) ∧ z' 6 T.length = nI (orl H l m) ∧ HPi T l l.length z' ∧ (∀ j, j ≠ 6 → j ≠ 9 → j ≠ 10 → z' j = z j) := by
  intro d
  induction d with
  | zero =>
    intro i N z hi hN h4 h5 h6 h6n hP
    obtain ⟨N, rfl⟩ : ∃ M, N = M + 1 := ⟨N - 1, by omega⟩
    have e : i = l.length := by omega
    subst e
    rw [List.take_length] at h6n
    refine ⟨z, ?_, h6, h6n, hP, fun _ _ _ _ => rfl⟩
    rw [lX7_findOrMake_176.eq_2]
    simp (disch := omega) only [inb_t, gd_t, rd_nI, h4, lit, nI_mul, nI_add, nI_leI, if_pos]
  | succ d ih =>
    intro i N z hi hN h4 h5 h6 h6n hP
    obtain ⟨N, rfl⟩ : ∃ M, N = M + 1 := ⟨N - 1, by omega⟩
    have hil : i < l.length := by omega
    obtain ⟨p, hp⟩ : ∃ p, p = l.getD i 0 := ⟨_, rfl⟩
    have hpm : p ∈ l := by rw [hp]; exact gD_mem hil
    have hpT := hlt p hpm
    have h5i := h5 i hil
    rw [← hp] at h5i
    have h6p := h6 p hpT
    have om : orl H (l.take i) m < 8 := orl_lt _ _ hm fun q hq => hH q (hlt q (List.mem_of_mem_take hq))
    have ntk : l.take (i + 1) = l.take i ++ [p] := by
      rw [List.take_succ, hp, List.getD_eq_getElem?_getD, List.getElem?_eq_getElem hil]; rfl
    obtain ⟨z1, hz1⟩ : ∃ y : fS, y = wrr (wrr (wrr z 6 (upd (z 6) T.length (nI (orl H (l.take i) m ||| H p)))) 10 (upd (z 10) (3 * T.length + i) (z 9 p))) 9 (upd (z 9) p (nI (3 * T.length + i))) := ⟨_, rfl⟩
    have f6 : z1 6 = upd (z 6) T.length (nI (orl H (l.take i) m ||| H p)) := by rw [hz1]; simp (disch := omega) only [wrr_n, wrr_e]
    have f9 : z1 9 = upd (z 9) p (nI (3 * T.length + i)) := by rw [hz1]; simp (disch := omega) only [wrr_n, wrr_e]
    have f10 : z1 10 = upd (z 10) (3 * T.length + i) (z 9 p) := by rw [hz1]; simp (disch := omega) only [wrr_n, wrr_e]
    have fo : ∀ j, j ≠ 6 → j ≠ 9 → j ≠ 10 → z1 j = z j := fun j a b c => by rw [hz1]; simp (disch := omega) only [wrr_n]
    obtain ⟨z', e1, e2, e3, e4, e5⟩ := ih (i + 1) N z1 (by omega) (by omega) (by rw [fo 4 (by omega) (by omega) (by omega)]; exact h4) (fun j hj => by rw [fo 5 (by omega) (by omega) (by omega)]; exact h5 j hj) (fun q hq => by rw [f6, upd_n (by omega)]; exact h6 q hq) (by rw [f6, upd_e, ntk, orl_app]) (fun t ht => by
      obtain ⟨pl, c1, c2, c3⟩ := hP t ht
      have lt : ∀ q, q ∈ pl → q < 3 * T.length + i := fun q hq => by
        rcases (c3 q).mp hq with ⟨g, _⟩ | ⟨j, g1, g2, _⟩ <;> omega
      have c1' : Lst (z1 10) (z 9 t) pl := c1.ext fun q hq => by rw [f10, upd_n (by have := lt q hq; omega)]
      by_cases e : t = p
      · subst e
        refine ⟨(3 * T.length + i) :: pl, ⟨by rw [f9, upd_e], ?_⟩, List.pairwise_cons.mpr ⟨fun q hq => lt q hq, c2⟩, fun q => ?_⟩
        · have : z1 10 (3 * T.length + i) = z 9 t := by rw [f10, upd_e]
          rw [this]; exact c1'
        · rw [List.mem_cons, c3 q]
          constructor
          · rintro (rfl | h | ⟨j, g1, g2, g3⟩)
            · exact Or.inr ⟨i, by omega, rfl, hp.symm⟩
            · exact Or.inl h
            · exact Or.inr ⟨j, by omega, g2, g3⟩
          · rintro (h | ⟨j, g1, g2, g3⟩)
            · exact Or.inr (Or.inl h)
            · rcases Nat.eq_or_lt_of_le (Nat.le_of_lt_succ g1) with rfl | g1
              · exact Or.inl g2
              · exact Or.inr (Or.inr ⟨j, g1, g2, g3⟩)
      · refine ⟨pl, by rw [f9, upd_n e]; exact c1', c2, fun q => ?_⟩
        rw [c3 q]
        constructor
        · rintro (h | ⟨j, g1, g2, g3⟩)
          · exact Or.inl h
          · exact Or.inr ⟨j, by omega, g2, g3⟩
        · rintro (h | ⟨j, g1, g2, g3⟩)
          · exact Or.inl h
          · rcases Nat.eq_or_lt_of_le (Nat.le_of_lt_succ g1) with rfl | g1
            · exact absurd (hp.trans g3).symm e
            · exact Or.inr ⟨j, g1, g2, g3⟩)
    refine ⟨z', ?_, e2, e3, e4, fun j a b c => (e5 j a b c).trans (fo j a b c)⟩
    rw [hz1] at e1
    rw [lX7_findOrMake_176.eq_2]
    simp (disch := omega) only [inb_t, gd_t, rd_nI, h4, lit, nI_mul, nI_add, nI_leI, if_neg, h5i, bnd_s, h6n, h6p, or_nI om (hH p hpT), wr_nI, wrr_n]
    exact e1
theorem pe_size {α : Type} (l : List Nat) (hl : l.length ≤ 3) (h : ∀ p, p ∈ l → p < 120) (F : Int32 → α) : (if pe l 0 = -(nI 1) then F (nI 0) else if pe l 1 = -(nI 1) then F (nI 1) else if pe l 2 = -(nI 1) then F (nI 2) else F (nI 3)) = F (nI l.length) := by
  have key : ∀ i, (pe l i = -(nI 1)) ↔ l.length ≤ i := by
    intro i
    unfold pe
    by_cases q : i < l.length
    · rw [if_pos q, nI_m1n (by have := h _ (gD_mem q); omega)]
      exact ⟨False.elim, fun h => by omega⟩
    · rw [if_neg q]
      exact ⟨fun _ => by omega, fun _ => rfl⟩
  simp only [key]
  rcases (show l.length = 0 ∨ l.length = 1 ∨ l.length = 2 ∨ l.length = 3 by omega) with e | e | e | e
  · rw [e, if_pos (by omega)]
  · rw [e, if_neg (by omega), if_pos (by omega)]
  · rw [e, if_neg (by omega), if_neg (by omega), if_pos (by omega)]
  · rw [e, if_neg (by omega), if_neg (by omega), if_neg (by omega)]
/-- made, or there already, or no room -/
theorem findOrMake_ok (h : HX T z) (ho : OkT T.length tm) : (∃ t, mkT T tm = some (t, T) ∧ t < T.length ∧ gT T t = tm ∧ fX7_findOrMake z tm.1 tm.2.1 (pe tm.2.2 0) (pe tm.2.2 1) (pe tm.2.2 2) = some (nI t, z)) ∨ (mkT T tm = none ∧ fX7_findOrMake z tm.1 tm.2.1 (pe tm.2.2 0) (pe tm.2.2 1) (pe tm.2.2 2) = some (-(nI 1), z)) ∨ (mkT T tm = some (T.length, T ++ [tm]) ∧ T.length < 120 ∧ ∃ z', fX7_findOrMake z tm.1 tm.2.1 (pe tm.2.2 0) (pe tm.2.2 1) (pe tm.2.2 2) = some (nI T.length, z') ∧ HX (T ++ [tm]) z' ∧ ∀ j, j = 0 ∨ 11 ≤ j → z' j = z j) := by
  have h' := h
  obtain ⟨hW, hU, hT, hP, hC, H, hI, hB⟩ := h'
  have hT1 := hW.1
  have ho' : OkT 120 tm := ⟨ho.1, fun p hp => by have := ho.2.1 p hp; omega, ho.2.2⟩
  unfold fX7_findOrMake
  rcases find_ok h ho' with ⟨t, t1, t2, t3⟩ | ⟨hn, t3⟩
  · refine Or.inl ⟨t, mkT_old hU t1 t2, t1, t2, ?_⟩
    rw [t3, bp_s]
    simp (disch := omega) only [litm, nI_m1n, if_false]
  · rw [t3, bp_s]
    by_cases hl : T.length < 120
    · refine Or.inr (Or.inr ⟨mkT_new hn hl, hl, ?_⟩)
      obtain ⟨z62, hz62⟩ : ∃ y : fS, y = wrr (wrr (wrr z 1 (upd (z 1) 9 (nI (T.length + 1)))) 2 (upd (z 2) T.length tm.1)) 3 (upd (z 3) T.length tm.2.1) := ⟨_, rfl⟩
      have size := pe_size tm.2.2 ho.1 ho'.2.1 (fun y0 => jX7_findOrMake_99 tm.1 tm.2.1 (pe tm.2.2 0) (pe tm.2.2 1) (pe tm.2.2 2) (nI T.length) y0 (nI T.length) z62)
      simp (disch := omega) only [lit, litm, if_true, hT.1, nI_ltI, if_pos, bnd_s, wf_w, nI_add, inb_t, gd_t, wr_nI, wrr_n]
      rw [← hz62]
      rw [size]
      unfold jX7_findOrMake_99
      obtain ⟨z143, hz143⟩ : ∃ y : fS, y = wrr (wrr (wrr z62 4 (upd (z 4) T.length (nI tm.2.2.length))) 5 (upd (upd (upd (z 5) (3 * T.length) (pe tm.2.2 0)) (3 * T.length + 1) (pe tm.2.2 1)) (3 * T.length + 2) (pe tm.2.2 2))) 9 (upd (z 9) T.length (-(nI 1))) := ⟨_, rfl⟩
      have hh := isHole_v (z := z143) (tm := tm) hl (by rw [hz143, hz62]; simp (disch := omega) only [wrr_n, wrr_e, upd_e]) (by rw [hz143, hz62]; simp (disch := omega) only [wrr_n, wrr_e, upd_e])
      have e4 : z62 4 = z 4 := by rw [hz62]; simp (disch := omega) only [wrr_n]
      have e5 : z62 5 = z 5 := by rw [hz62]; simp (disch := omega) only [wrr_n]
      have e9 : z62 9 = z 9 := by rw [hz62]; simp (disch := omega) only [wrr_n]
      simp (disch := omega) only [lit, bnd_s, inb_t, gd_t, wr_nI, wrr_n, wrr_e, wrr_wrr, nI_mul, nI_add, e4, e5, e9]
      rw [← hz143, hh, bp_s]
      -- the bits of its own hole
      have hb : (if bI (hoB tm) = nI 0 then jX7_findOrMake_169 tm.1 tm.2.1 (pe tm.2.2 0) (pe tm.2.2 1) (pe tm.2.2 2) (nI T.length) (nI 0) (nI T.length) z143 else jX7_findOrMake_169 tm.1 tm.2.1 (pe tm.2.2 0) (pe tm.2.2 1) (pe tm.2.2 2) (nI T.length) (nI 1 <<< ((tm.2.1 - nI 90) &&& nI 31)) (nI T.length) z143) = jX7_findOrMake_169 tm.1 tm.2.1 (pe tm.2.2 0) (pe tm.2.2 1) (pe tm.2.2 2) (nI T.length) (nI (hbit tm)) (nI T.length) z143 := by
        rcases hbit_cases tm with g | ⟨_, ⟨g1, g2⟩ | ⟨g1, g2⟩ | ⟨g1, g2⟩⟩
        · have : hoB tm = false := by unfold hoB; rw [g]; rfl
          rw [this, bI_f, if_pos rfl, g]
        · have : hoB tm = true := by unfold hoB; rw [g2]; rfl
          rw [this, bI_t, if_neg (by rw [nI_eq (by omega) (by omega)]; omega), g2, shl_bit.1 g1]
        · have : hoB tm = true := by unfold hoB; rw [g2]; rfl
          rw [this, bI_t, if_neg (by rw [nI_eq (by omega) (by omega)]; omega), g2, shl_bit.2.1 g1]
        · have : hoB tm = true := by unfold hoB; rw [g2]; rfl
          rw [this, bI_t, if_neg (by rw [nI_eq (by omega) (by omega)]; omega), g2, shl_bit.2.2 g1]
      rw [hb]
      unfold jX7_findOrMake_169
      simp (disch := omega) only [lit, bnd_s, inb_t, gd_t, wr_nI, nI_mul]
      obtain ⟨z169, hz169⟩ : ∃ y : fS, y = wrr z143 6 (upd (z143 6) T.length (nI (hbit tm))) := ⟨_, rfl⟩
      rw [← hz169]
      have q1 : z169 1 = upd (z 1) 9 (nI (T.length + 1)) := by rw [hz169, hz143, hz62]; simp (disch := omega) only [wrr_n, wrr_e]
      have q2 : z169 2 = upd (z 2) T.length tm.1 := by rw [hz169, hz143, hz62]; simp (disch := omega) only [wrr_n, wrr_e]
      have q3 : z169 3 = upd (z 3) T.length tm.2.1 := by rw [hz169, hz143, hz62]; simp (disch := omega) only [wrr_n, wrr_e]
      have q4 : z169 4 = upd (z 4) T.length (nI tm.2.2.length) := by rw [hz169, hz143, hz62]; simp (disch := omega) only [wrr_n, wrr_e]
      have q5 : z169 5 = upd (upd (upd (z 5) (3 * T.length) (pe tm.2.2 0)) (3 * T.length + 1) (pe tm.2.2 1)) (3 * T.length + 2) (pe tm.2.2 2) := by rw [hz169, hz143, hz62]; simp (disch := omega) only [wrr_n, wrr_e]
      have q6 : z169 6 = upd (z 6) T.length (nI (hbit tm)) := by rw [hz169, hz143, hz62]; simp (disch := omega) only [wrr_n, wrr_e]
      have q9 : z169 9 = upd (z 9) T.length (-(nI 1)) := by rw [hz169, hz143, hz62]; simp (disch := omega) only [wrr_n, wrr_e]
      have qo : ∀ j, j = 0 ∨ j = 7 ∨ j = 8 ∨ 10 ≤ j → z169 j = z j := fun j hj => by rw [hz169, hz143, hz62]; simp (disch := omega) only [wrr_n]
      have q5n : ∀ i, i < 3 → z169 5 (3 * T.length + i) = pe tm.2.2 i := fun i hi => by
        rw [q5]
        rcases (show i = 0 ∨ i = 1 ∨ i = 2 by omega) with rfl | rfl | rfl
        · rw [upd_n (by omega), upd_n (by omega), Nat.add_zero, upd_e]
        · rw [upd_n (by omega), upd_e]
        · rw [upd_e]
      have H8 : ∀ p, p < T.length → H p < 8 := fun p hp => (hI p hp).2
      obtain ⟨z241, m1, m2, m3, m4, m5⟩ := make_loop (H := H) hW (l := tm.2.2) hl ho.1 ho.2.1 (k248 := jX7_findOrMake_248 tm.1 tm.2.1 (pe tm.2.2 0) (pe tm.2.2 1) (pe tm.2.2 2) (nI T.length)) (w1 := tm.1) (w2 := tm.2.1) (w3 := pe tm.2.2 0) (w4 := pe tm.2.2 1) (w5 := pe tm.2.2 2) (hbit_lt tm) H8 tm.2.2.length 0 FU z169 (by omega) (by have := FU_ge; have := ho.1; omega) (by rw [q4, upd_e]) (fun j hj => by
          rw [q5n j (by have := ho.1; omega)]; unfold pe; rw [if_pos hj]) (fun p hp => by rw [q6, upd_n (by omega)]; exact hB p hp) (by rw [q6, upd_e]; rfl) (fun t ht => by
          by_cases e : t = T.length
          · refine ⟨[], ?_, by simp, fun p => ?_⟩
            · show z169 9 t = -(nI 1)
              rw [q9, e, upd_e]
            · refine ⟨fun h => by simp at h, ?_⟩
              rintro (⟨g1, g2, g3⟩ | ⟨j, g, _⟩)
              · have := (hW.2 _ g1).2.1 _ g2
                omega
              · omega
          · obtain ⟨pl, c1, c2, c3⟩ := hP t (by omega)
            refine ⟨pl, ?_, c2, fun p => ?_⟩
            · rw [q9, upd_n e, qo 10 (by omega)]; exact c1
            · rw [c3 p]
              exact ⟨Or.inl, fun h => by
                rcases h with h | ⟨j, g, _⟩
                · exact h
                · omega⟩)
      rw [Nat.add_zero] at m1
      rw [m1]
      unfold jX7_findOrMake_248
      obtain ⟨s, s1, s2⟩ := hsh_lt tm.1 tm.2.1 (pe tm.2.2 0) (pe tm.2.2 1) (pe tm.2.2 2)
      have e7 : z241 7 = z 7 := by rw [m5 7 (by omega) (by omega) (by omega), qo 7 (by omega)]
      have e8 : z241 8 = z 8 := by rw [m5 8 (by omega) (by omega) (by omega), qo 8 (by omega)]
      refine ⟨wrr (wrr z241 8 (upd (z 8) T.length (z 7 s))) 7 (upd (z 7) s (nI T.length)), ?_, ?_, ?_⟩
      · rw [slotFor_ok, bp_s, s2]
        simp (disch := omega) only [inb_t, gd_t, rd_nI, bnd_s, wr_nI, wrr_n, e7, e8]
      · have hgl : ∀ t, t < T.length → gT (T ++ [tm]) t = gT T t := fun t ht => gT_l ht
        have hag := AgT.app T [tm] (Nat.le_refl _)
        have lenT : (T ++ [tm]).length = T.length + 1 := by simp
        have ksh : kd (T ++ [tm]) T.length = tm.1 ∧ sh (T ++ [tm]) T.length = tm.2.1 ∧ pts (T ++ [tm]) T.length = tm.2.2 := by
          have := gT_r (T := T) (tm := tm)
          exact ⟨congrArg (fun x : Tm => x.1) this, congrArg (fun x : Tm => x.2.1) this, congrArg (fun x : Tm => x.2.2) this⟩
        have szn : sz (T ++ [tm]) T.length = tm.2.2.length := congrArg List.length ksh.2.2
        have ptn : ∀ i, pt (T ++ [tm]) T.length i = tm.2.2.getD i 0 := fun i => congrArg (fun l : List Nat => l.getD i 0) ksh.2.2
        refine ⟨hW.add hl ho, ?_, ⟨?_, ?_⟩, ?_, ?_, nx1 H T.length (orl H tm.2.2 (hbit tm)), ?_, ?_⟩
        · intro t u ht hu e
          rw [lenT] at ht hu
          by_cases q1 : t = T.length
          · by_cases q2 : u = T.length
            · omega
            · rw [q1, gT_r, hgl u (by omega)] at e
              exact absurd e.symm (hn u (by omega))
          · by_cases q2 : u = T.length
            · rw [q2, gT_r, hgl t (by omega)] at e
              exact absurd e (hn t (by omega))
            · rw [hgl t (by omega), hgl u (by omega)] at e
              exact hU t u (by omega) (by omega) e
        · simp (disch := omega) only [wrr_n, m5 1 (by omega) (by omega) (by omega), q1, upd_e, lenT]
        · intro t ht
          rw [lenT] at ht
          simp (disch := omega) only [wrr_n, m5 2 (by omega) (by omega) (by omega), m5 3 (by omega) (by omega) (by omega), m5 4 (by omega) (by omega) (by omega), m5 5 (by omega) (by omega) (by omega), q2, q3, q4]
          by_cases e : t = T.length
          · subst e
            rw [upd_e, upd_e, upd_e, ksh.1, ksh.2.1, szn]
            refine ⟨rfl, rfl, rfl, fun i hi => ?_⟩
            rw [q5n i hi, ptn i]; rfl
          · have ht' : t < T.length := by omega
            rw [upd_n e, upd_n e, upd_n e, hag.kd ht', hag.sh ht', hag.sz ht']
            obtain ⟨c1, c2, c3, c4⟩ := hT.2 t ht'
            refine ⟨c1, c2, c3, fun i hi => ?_⟩
            rw [q5, upd_n (by omega), upd_n (by omega), upd_n (by omega), hag.pt ht' i]
            exact c4 i hi
        · intro t ht
          rw [lenT] at ht
          obtain ⟨pl, c1, c2, c3⟩ := m4 t (by omega)
          refine ⟨pl, by simp (disch := omega) only [wrr_n]; exact c1, c2, fun p => ?_⟩
          rw [c3 p, lenT]
          constructor
          · rintro (⟨g1, g2, g3⟩ | ⟨j, g1, g2, g3⟩)
            · rw [hag.sz g1, hag.pt g1]; exact ⟨by omega, g2, g3⟩
            · have d1 : p / 3 = T.length := by have := ho.1; omega
              have d2 : p % 3 = j := by have := ho.1; omega
              rw [d1, d2, szn, ptn]; exact ⟨by omega, g1, g3⟩
          · rintro ⟨g1, g2, g3⟩
            by_cases e : p / 3 = T.length
            · rw [e, szn] at g2
              rw [e, ptn] at g3
              exact Or.inr ⟨p % 3, g2, by omega, g3⟩
            · have g1' : p / 3 < T.length := by omega
              rw [hag.sz g1'] at g2
              rw [hag.pt g1'] at g3
              exact Or.inl ⟨g1', g2, g3⟩
        · intro s' hs'
          obtain ⟨l, c1, c2, c3⟩ := hC s' hs'
          have lt : ∀ t, t ∈ l → t < T.length := fun t ht => ((c3 t).mp ht).1
          have c1' : Lst (upd (z 8) T.length (z 7 s)) (z 7 s') l := c1.ext fun t ht => upd_n (by have := lt t ht; omega)
          simp (disch := omega) only [wrr_n, wrr_e]
          by_cases e : s' = s
          · subst e
            refine ⟨T.length :: l, ⟨upd_e, by rw [upd_e]; exact c1'⟩, List.pairwise_cons.mpr ⟨fun t ht => lt t ht, c2⟩, fun t => ?_⟩
            rw [List.mem_cons, c3 t, lenT]
            constructor
            · rintro (rfl | ⟨g1, g2⟩)
              · exact ⟨by omega, by rw [gT_r]; exact s2⟩
              · exact ⟨by omega, by rw [hgl t g1]; exact g2⟩
            · rintro ⟨g1, g2⟩
              by_cases q : t = T.length
              · exact Or.inl q
              · rw [hgl t (by omega)] at g2
                exact Or.inr ⟨by omega, g2⟩
          · refine ⟨l, by rw [upd_n e]; exact c1', c2, fun t => ?_⟩
            rw [c3 t, lenT]
            constructor
            · rintro ⟨g1, g2⟩
              exact ⟨by omega, by rw [hgl t g1]; exact g2⟩
            · rintro ⟨g1, g2⟩
              by_cases q : t = T.length
              · rw [q, gT_r] at g2
                have : nI s = nI s' := s2.symm.trans g2
                rw [nI_eq (by omega) (by omega)] at this
                exact absurd this.symm e
              · rw [hgl t (by omega)] at g2
                exact ⟨by omega, g2⟩
        · intro t ht
          rw [lenT] at ht
          by_cases e : t = T.length
          · subst e
            rw [nx1_e, ksh.2.2, gT_r]
            refine ⟨(orl_cong _ _ fun p hp => nx1_n (by have := ho.2.1 p hp; omega)).symm, orl_lt _ _ (hbit_lt tm) fun p hp => H8 p (ho.2.1 p hp)⟩
          · have ht' : t < T.length := by omega
            rw [nx1_n e, hag.pts ht', hgl t ht']
            refine ⟨?_, H8 t ht'⟩
            rw [orl_cong (H := H) _ _ fun p hp => nx1_n (by have := (hW.ok ht').2.1 p hp; omega)]
            exact (hI t ht').1
        · intro t ht
          rw [lenT] at ht
          simp (disch := omega) only [wrr_n]
          by_cases e : t = T.length
          · rw [e, nx1_e]; exact m3
          · rw [nx1_n e]; exact m2 t (by omega)
      · intro j hj
        simp (disch := omega) only [wrr_n]
        rw [m5 j (by omega) (by omega) (by omega), qo j (by omega)]
    · refine Or.inr (Or.inl ⟨mkT_full hn hl, ?_⟩)
      simp (disch := omega) only [litm, lit, if_true, hT.1, nI_ltI, if_neg]
end MAKE
