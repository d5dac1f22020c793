/-! the face: world -/
section WORLD
variable {T : List Tm} {ps : Nat} {zX zM : fS} {on : Nat → Nat}
theorem numM_loop (hn : T.length ≤ 120) (hM : MT T zM) (hO : MO T.length on zM) {hd : Nat} (hh : hd < 120) : ∀ (d t N : Nat) (v : Int32), t + d = T.length → d < N → (lX9_numberOf_4 zM (nI hd) N v (nI t) = some v ∧ ∀ u, t ≤ u → u < T.length → on u = hd → kd T u ≠ nI 1) ∨ ∃ u, t ≤ u ∧ u < T.length ∧ on u = hd ∧ kd T u = nI 1 ∧ lX9_numberOf_4 zM (nI hd) N v (nI t) = some (nI u) := by
  intro d
  induction d with
  | zero =>
    intro t N v ht hN
    obtain ⟨N, rfl⟩ : ∃ M, N = M + 1 := ⟨N - 1, by omega⟩
    refine Or.inl ⟨?_, fun u h1 h2 => by omega⟩
    rw [lX9_numberOf_4.eq_2]
    simp (disch := omega) only [hM.1, nI_leI, if_pos]
  | succ d ih =>
    intro t N v ht hN
    obtain ⟨N, rfl⟩ : ∃ M, N = M + 1 := ⟨N - 1, by omega⟩
    have o := hO t (by omega)
    have k := (hM.2 t (by omega)).1
    rw [lX9_numberOf_4.eq_2]
    simp (disch := omega) only [hM.1, nI_leI, if_neg, inb_t, gd_t, rd_nI, o.1, k, nI_eq, bnd_s, lit, nI_add]
    have no : ¬ (on t = hd ∧ kd T t = nI 1) → ((lX9_numberOf_4 zM (nI hd) N v (nI (t + 1)) = some v ∧ ∀ u, t ≤ u → u < T.length → on u = hd → kd T u ≠ nI 1) ∨ ∃ u, t ≤ u ∧ u < T.length ∧ on u = hd ∧ kd T u = nI 1 ∧ lX9_numberOf_4 zM (nI hd) N v (nI (t + 1)) = some (nI u)) := by
      intro hne
      rcases ih (t + 1) N v (by omega) (by omega) with ⟨e1, e2⟩ | ⟨u, u1, u2, u3, u4, u5⟩
      · refine Or.inl ⟨e1, fun u h1 h2 h3 h4 => ?_⟩
        rcases Nat.eq_or_lt_of_le h1 with rfl | h1
        · exact hne ⟨h3, h4⟩
        · exact e2 u h1 h2 h3 h4
      · exact Or.inr ⟨u, by omega, u2, u3, u4, u5⟩
    by_cases q1 : on t = hd
    · simp only [if_pos q1]
      by_cases q2 : kd T t = nI 1
      · simp only [if_pos q2]
        rcases ih (t + 1) N (nI t) (by omega) (by omega) with ⟨e1, e2⟩ | ⟨u, u1, u2, u3, u4, u5⟩
        · exact Or.inr ⟨t, Nat.le_refl _, by omega, q1, q2, e1⟩
        · exact Or.inr ⟨u, by omega, u2, u3, u4, u5⟩
      · simp only [if_neg q2]
        exact no fun h => q2 h.2
    · simp only [if_neg q1]
      exact no fun h => q1 h.1
theorem numM_ok (hn : T.length ≤ 120) (hM : MT T zM) (hO : MO T.length on zM) {hd : Nat} (hh : hd < 120) : (fX9_numberOf zM (nI hd) = some (-(nI 1)) ∧ ∀ u, u < T.length → on u = hd → kd T u ≠ nI 1) ∨ ∃ u, u < T.length ∧ on u = hd ∧ kd T u = nI 1 ∧ fX9_numberOf zM (nI hd) = some (nI u) := by
  unfold fX9_numberOf
  simp only [lit, litm]
  rcases numM_loop hn hM hO hh T.length 0 FU (-(nI 1)) (by omega) (by have := FU_ge; omega) with ⟨e1, e2⟩ | ⟨u, _, u2, u3, u4, u5⟩
  · exact Or.inl ⟨e1, fun u hu => e2 u (Nat.zero_le _) hu⟩
  · exact Or.inr ⟨u, u2, u3, u4, u5⟩
def NoN (T : List Tm) (on : Nat → Nat) (h : Nat) : Prop := on h = h ∧ ∀ u, u < T.length → on u = h → kd T u ≠ nI 1
noncomputable def unB (T : List Tm) (on : Nat → Nat) (h : Nat) : Bool := @decide (NoN T on h) (Classical.propDecidable _)
theorem unB_t {h : Nat} (p : NoN T on h) : unB T on h = true := by unfold unB; exact @decide_eq_true _ (Classical.propDecidable _) p
theorem unB_f {h : Nat} (p : ¬ NoN T on h) : unB T on h = false := by unfold unB; exact @decide_eq_false _ (Classical.propDecidable _) p
theorem unX_loop (hn : T.length ≤ 120) {hd : Nat} (hh : hd ≤ T.length) (h1 : ∀ t, t < T.length → fX4_headOf ps zX (nI t) = some (nI (on t))) (hlt : ∀ t, t < T.length → on t ≤ t) (h2 : ∀ t, t < T.length → (fX4_numberOf ps zX (nI t) = some (-(nI 1)) ∧ ∀ u, u < T.length → on u = on t → kd T u ≠ nI 1) ∨ ∃ u, fX4_numberOf ps zX (nI t) = some (nI u) ∧ u < T.length ∧ on u = on t ∧ kd T u = nI 1 ∧ ∀ v, v < T.length → on v = on t → kd T v = nI 1 → v = u) : ∀ (d t N : Nat), t + d = hd → d < N → lX4_unnumberedBelow_4 ps zX (nI hd) N (nI (cnt (unB T on) t)) (nI t) = some (nI (cnt (unB T on) hd)) := by
  intro d
  induction d with
  | zero =>
    intro t N ht hN
    obtain ⟨N, rfl⟩ : ∃ M, N = M + 1 := ⟨N - 1, by omega⟩
    rw [lX4_unnumberedBelow_4.eq_2]
    simp (disch := omega) only [nI_leI, if_pos]
    rw [show t = hd by omega]
  | succ d ih =>
    intro t N ht hN
    obtain ⟨N, rfl⟩ : ∃ M, N = M + 1 := ⟨N - 1, by omega⟩
    have e1 := h1 t (by omega)
    have l1 := hlt t (by omega)
    have hih := ih (t + 1) N (by omega) (by omega)
    rw [cnt_s] at hih
    rw [lX4_unnumberedBelow_4.eq_2]
    by_cases q : on t = t
    · rcases h2 t (by omega) with ⟨n1, n2⟩ | ⟨u, n1, n2, n3, n4, n5⟩
      · have hub : unB T on t = true := unB_t ⟨q, fun u hu e => n2 u hu (e.trans q.symm)⟩
        simp (disch := omega) only [nI_leI, if_neg, e1, bp_s, q, if_true, n1, litm, bnd_s, lit, nI_add]
        rw [hub] at hih
        simpa using hih
      · have hub : unB T on t = false := unB_f fun h => h.2 u n2 (n3.trans q) n4
        simp (disch := omega) only [nI_leI, if_neg, e1, bp_s, q, if_true, n1, litm, nI_m1n, if_false, bnd_s, lit, nI_add]
        rw [hub] at hih
        simpa using hih
    · have hub : unB T on t = false := unB_f fun h => q h.1
      simp (disch := omega) only [nI_leI, if_neg, e1, bp_s, nI_eq, q, if_false, bnd_s, lit, nI_add]
      rw [hub] at hih
      simpa using hih
theorem unM_loop (hn : T.length ≤ 120) (hM : MT T zM) (hO : MO T.length on zM) {m hd : Nat} (hm : m < T.length) (hh : on m = hd) {k90 : Int32 → Option (Int64 × fS)} : ∀ (d t N : Nat), t + d = hd → d < N → lX9_world_44 k90 zM (nI m) N (nI (cnt (unB T on) t)) (nI t) = k90 (nI (cnt (unB T on) hd)) := by
  have om := hO m hm
  intro d
  induction d with
  | zero =>
    intro t N ht hN
    obtain ⟨N, rfl⟩ : ∃ M, N = M + 1 := ⟨N - 1, by omega⟩
    rw [lX9_world_44.eq_2]
    simp (disch := omega) only [inb_t, gd_t, rd_nI, om.1, nI_leI, if_pos]
    rw [show t = hd by omega]
  | succ d ih =>
    intro t N ht hN
    obtain ⟨N, rfl⟩ : ∃ M, N = M + 1 := ⟨N - 1, by omega⟩
    have ot := hO t (by omega)
    have hih := ih (t + 1) N (by omega) (by omega)
    rw [cnt_s] at hih
    rw [lX9_world_44.eq_2]
    by_cases q : on t = t
    · rcases numM_ok hn hM hO (show t < 120 by omega) with ⟨n1, n2⟩ | ⟨u, n2, n3, n4, n1⟩
      · have hub : unB T on t = true := unB_t ⟨q, n2⟩
        simp (disch := omega) only [inb_t, gd_t, rd_nI, om.1, ot.1, nI_leI, if_neg, q, if_true, n1, bp_s, lit, m1_le0, if_false, bnd_s, nI_add]
        rw [hub] at hih
        simpa using hih
      · have hub : unB T on t = false := unB_f fun h => h.2 u n2 n3 n4
        simp (disch := omega) only [inb_t, gd_t, rd_nI, om.1, ot.1, nI_leI, if_neg, q, if_true, n1, bp_s, lit, Nat.zero_le, bnd_s, nI_add]
        rw [hub] at hih
        simpa using hih
    · have hub : unB T on t = false := unB_f fun h => q h.1
      simp (disch := omega) only [inb_t, gd_t, rd_nI, om.1, ot.1, nI_leI, if_neg, nI_eq, q, if_false, bnd_s, lit, nI_add]
      rw [hub] at hih
      simpa using hih
def IsN (T : List Tm) (v : Int32) : Prop := ∃ t, t < T.length ∧ kd T t = nI 1 ∧ sh T t = v
noncomputable def nuB (T : List Tm) (v : Nat) : Bool := @decide (IsN T (nI v)) (Classical.propDecidable _)
theorem nuB_t {v : Nat} (p : IsN T (nI v)) : nuB T v = true := by unfold nuB; exact @decide_eq_true _ (Classical.propDecidable _) p
theorem nuB_f {v : Nat} (p : ¬ IsN T (nI v)) : nuB T v = false := by unfold nuB; exact @decide_eq_false _ (Classical.propDecidable _) p
theorem nuB_e {v : Nat} (h : nuB T v = true) : IsN T (nI v) := by
  apply Classical.byContradiction
  intro p
  rw [nuB_f p] at h; cases h
theorem nu_cnt {n : Nat} (hn : n < 2 ^ 31) : cnt (nuB T) n ≤ T.length := by
  have hg : ∀ w, nuB T w = true → ∃ t, t < T.length ∧ kd T t = nI 1 ∧ sh T t = nI w := fun w hw => nuB_e hw
  obtain ⟨g, hg⟩ : ∃ g : Nat → Nat, ∀ w, nuB T w = true → g w < T.length ∧ kd T (g w) = nI 1 ∧ sh T (g w) = nI w := by
    refine ⟨fun w => @dite _ (nuB T w = true) (Classical.propDecidable _) (fun h => Classical.choose (hg w h)) (fun _ => 0), fun w hw => ?_⟩
    simp only [dif_pos hw]
    exact Classical.choose_spec (hg w hw)
  refine Nat.le_trans (cnt_inj (g := g) n T.length (nuB T) (fun _ => true) (fun i hi hp => ⟨(hg i hp).1, rfl⟩) (fun i j hi hj hp hq e => ?_)) (cnt_le _ _)
  have e1 := (hg i hp).2.2
  have e2 := (hg j hq).2.2
  rw [e, e2] at e1
  exact ((nI_eq (by omega) (by omega)).mp e1).symm
theorem nuX_ok (h : HX T zX) (v : Nat) : (IsN T (nI v) ∧ ∃ t, t < T.length ∧ fX7_find zX (nI 1) (nI v) (-(nI 1)) (-(nI 1)) (-(nI 1)) = some (nI t)) ∨ (¬ IsN T (nI v) ∧ fX7_find zX (nI 1) (nI v) (-(nI 1)) (-(nI 1)) (-(nI 1)) = some (-(nI 1))) := by
  have hp : ∀ j, pe ([] : List Nat) j = -(nI 1) := fun j => pe_ge (by simp)
  have f := find_ok (tm := (nI 1, nI v, [])) h ⟨by simp, by simp, nno 1 3 (by omega) (by omega) (by omega), nno 1 4 (by omega) (by omega) (by omega), fun _ => rfl, fun _ => rfl⟩
  simp only [hp] at f
  rcases f with ⟨t, t1, t2, t3⟩ | ⟨n1, n2⟩
  · exact Or.inl ⟨⟨t, t1, congrArg (fun x : Tm => x.1) t2, congrArg (fun x : Tm => x.2.1) t2⟩, t, t1, t3⟩
  · refine Or.inr ⟨?_, n2⟩
    rintro ⟨t, t1, t2, t3⟩
    refine n1 t t1 ?_
    have s0 := (h.1.2 t t1).2.2.2.2.1 t2
    have e : pts T t = [] := List.length_eq_zero_iff.mp s0
    exact Prod.ext t2 (Prod.ext t3 e)
theorem nuM_loop (hn : T.length ≤ 120) (hM : MT T zM) {v : Int32} : ∀ (d t N fl : Nat), t + d = T.length → d < N → (fl = 0 ∨ fl = 1) → ∃ r, lX9_isNumber_4 zM v N (nI fl) (nI t) = some (nI r) ∧ ((r = 1 ∧ (fl = 1 ∨ ∃ u, t ≤ u ∧ u < T.length ∧ kd T u = nI 1 ∧ sh T u = v)) ∨ (r = 0 ∧ fl = 0 ∧ ∀ u, t ≤ u → u < T.length → kd T u = nI 1 → sh T u ≠ v)) := by
  intro d
  induction d with
  | zero =>
    intro t N fl ht hN hf
    obtain ⟨N, rfl⟩ : ∃ M, N = M + 1 := ⟨N - 1, by omega⟩
    refine ⟨fl, ?_, ?_⟩
    · rw [lX9_isNumber_4.eq_2]
      have hb : isb (nI fl) = true := by rcases hf with rfl | rfl; exact isb_0; exact isb_1
      simp (disch := omega) only [hM.1, nI_leI, if_pos, hb, gd_t]
    · rcases hf with rfl | rfl
      · exact Or.inr ⟨rfl, rfl, fun u h1 h2 => by omega⟩
      · exact Or.inl ⟨rfl, Or.inl rfl⟩
  | succ d ih =>
    intro t N fl ht hN hf
    obtain ⟨N, rfl⟩ : ∃ M, N = M + 1 := ⟨N - 1, by omega⟩
    have k := (hM.2 t (by omega)).1
    have s := (hM.2 t (by omega)).2.1
    rw [lX9_isNumber_4.eq_2]
    rcases hf with rfl | rfl
    · by_cases q : kd T t = nI 1 ∧ sh T t = v
      · obtain ⟨r, e1, e2⟩ := ih (t + 1) N 1 (by omega) (by omega) (Or.inr rfl)
        refine ⟨r, ?_, ?_⟩
        · simp (disch := omega) only [hM.1, nI_leI, if_neg, lit, if_true, inb_t, gd_t, rd_nI, k, s, q.1, q.2, bnd_s, nI_add]
          exact e1
        · rcases e2 with ⟨e2, _⟩ | ⟨_, e2, _⟩
          · exact Or.inl ⟨e2, Or.inr ⟨t, Nat.le_refl _, by omega, q.1, q.2⟩⟩
          · omega
      · obtain ⟨r, e1, e2⟩ := ih (t + 1) N 0 (by omega) (by omega) (Or.inl rfl)
        refine ⟨r, ?_, ?_⟩
        · by_cases q1 : kd T t = nI 1
          · have q2 : ¬ sh T t = v := fun e => q ⟨q1, e⟩
            simp (disch := omega) only [hM.1, nI_leI, if_neg, lit, if_true, inb_t, gd_t, rd_nI, k, s, q1, q2, if_false, bnd_s, nI_add]
            exact e1
          · simp (disch := omega) only [hM.1, nI_leI, if_neg, lit, if_true, inb_t, gd_t, rd_nI, k, q1, if_false, bnd_s, nI_add]
            exact e1
        · rcases e2 with ⟨e2, e3 | ⟨u, u1, u2⟩⟩ | ⟨e2, _, e3⟩
          · omega
          · exact Or.inl ⟨e2, Or.inr ⟨u, by omega, u2⟩⟩
          · refine Or.inr ⟨e2, rfl, fun u h1 h2 h3 h4 => ?_⟩
            rcases Nat.eq_or_lt_of_le h1 with rfl | h1
            · exact q ⟨h3, h4⟩
            · exact e3 u h1 h2 h3 h4
    · obtain ⟨r, e1, e2⟩ := ih (t + 1) N 1 (by omega) (by omega) (Or.inr rfl)
      refine ⟨r, ?_, ?_⟩
      · simp (disch := omega) only [hM.1, nI_leI, if_neg, lit, nI_eq, bnd_s, nI_add]
        exact e1
      · rcases e2 with ⟨e2, _⟩ | ⟨_, e2, _⟩
        · exact Or.inl ⟨e2, Or.inl rfl⟩
        · omega
theorem nuM_ok (hn : T.length ≤ 120) (hM : MT T zM) (v : Int32) : (IsN T v ∧ fX9_isNumber zM v = some (nI 1)) ∨ (¬ IsN T v ∧ fX9_isNumber zM v = some (nI 0)) := by
  obtain ⟨r, e1, e2⟩ := nuM_loop hn hM (v := v) T.length 0 FU 0 (by omega) (by have := FU_ge; omega) (Or.inl rfl)
  unfold fX9_isNumber
  simp only [lit]
  rcases e2 with ⟨rfl, e2 | ⟨u, _, u2, u3, u4⟩⟩ | ⟨rfl, _, e2⟩
  · omega
  · exact Or.inl ⟨⟨u, u2, u3, u4⟩, e1⟩
  · exact Or.inr ⟨fun ⟨u, u1, u2, u3⟩ => e2 u (Nat.zero_le _) u1 u2 u3, e1⟩
theorem free_loop (hn : T.length ≤ 120) (hX : HX T zX) (hM : MT T zM) {k0 : Nat} (hk0 : k0 ≤ 119) : ∀ (d v k N : Nat), v + d = 241 → d < N → v + k = k0 + cnt (nuB T) v → ∃ w, lX8_freeInt_4 zX N (nI k) (nI v) = some (nI w) ∧ lX9_world_93 zM N (nI k) (nI v) = some ((nI w).toInt64, zM) := by
  intro d
  induction d with
  | zero =>
    intro v k N hv hN hi
    have := nu_cnt (T := T) (n := v) (by omega)
    omega
  | succ d ih =>
    intro v k N hv hN hi
    obtain ⟨N, rfl⟩ : ∃ M, N = M + 1 := ⟨N - 1, by omega⟩
    rw [lX8_freeInt_4.eq_2, lX9_world_93.eq_2]
    unfold jX9_world_106
    have hc := nu_cnt (T := T) (n := v) (by omega)
    rcases nuX_ok hX v with ⟨p, t, t1, t2⟩ | ⟨p, t2⟩
    · obtain ⟨w, e1, e2⟩ := ih (v + 1) k N (by omega) (by omega) (by rw [cnt_s, nuB_t p]; simp; omega)
      rcases nuM_ok hn hM (nI v) with ⟨_, m2⟩ | ⟨m1, _⟩
      · refine ⟨w, ?_, ?_⟩
        · simp (disch := omega) only [lit, litm, nI_ltI, if_neg, t2, bp_s, nI_m1n, if_false, bnd_s, nI_add]
          exact e1
        · simp (disch := omega) only [lit, m2, bp_s, nI_eq, if_neg, nI_sub, Nat.sub_zero, bnd_s, nI_add, ite_self]
          exact e2
      · exact absurd p m1
    · rcases nuM_ok hn hM (nI v) with ⟨m1, _⟩ | ⟨_, m2⟩
      · exact absurd m1 p
      · by_cases q : k = 0
        · subst q
          refine ⟨v, ?_, ?_⟩
          · simp (disch := omega) only [lit, litm, nI_ltI, if_neg, t2, bp_s, if_true]
          · simp (disch := omega) only [lit, nI_ltI, Nat.lt_irrefl, if_false, m2, bp_s, if_true]
        · obtain ⟨w, e1, e2⟩ := ih (v + 1) (k - 1) N (by omega) (by omega) (by rw [cnt_s, nuB_f p]; simp; omega)
          refine ⟨w, ?_, ?_⟩
          · simp (disch := omega) only [lit, litm, nI_ltI, if_neg, t2, bp_s, if_true, nI_eq, nI_dec, bnd_s, nI_add]
            exact e1
          · simp (disch := omega) only [lit, nI_ltI, if_pos, m2, bp_s, if_true, nI_sub, bnd_s, nI_add]
            exact e2
end WORLD
theorem s_world : st_world Rel := by
  intro i zX zM a _ hr
  obtain ⟨h0, T, S, tk, lv, rm, ps, pt, h⟩ := id hr
  have hT1 := h.1.1.1.1
  unfold fX8_world fX9_world
  rcases has_ok h a with ⟨x1, x2⟩ | ⟨m, m1, rfl, x1, x2⟩
  · refine ⟨(1099511627776 : Int64), zM, ?_, ?_, up_ok hr⟩
    · rw [x1, bp_s]; rfl
    · rw [x2, bp_s]; rfl
  · obtain ⟨zM1, on, c1, c2, c3, c4, c5, c6, c7, c8, c9⟩ := cls_ok h
    have fin : Rel (i + 1) zX zM1 := ⟨by rw [c3.2.2 26 (by omega) (by omega)]; exact h0, T, S, tk, lv, rm, ps, pt, c2.up⟩
    have hM := c2.2.1.1
    have om := c4 m m1
    have hne : ¬ (nI 1 = (0 : Int32)) := nno 1 0 (by omega) (by omega) (by omega)
    rw [x1, x2, bp_s, bp_s, if_neg hne, if_neg hne, stn, bp_s, c1, bp_s, h.1.2.2.1.1]
    simp (disch := omega) only [inb_t, gd_t, rd_nI, om.1]
    rcases c8 m m1 with ⟨n1, n2⟩ | ⟨u, n1, n2, n3, n4, n5⟩
    · rcases numM_ok hT1 hM c4 (show on m < 120 by omega) with ⟨k1, _⟩ | ⟨u, k1, k2, k3, _⟩
      · have u1 := unX_loop hT1 (show on m ≤ T.length by omega) c5 (fun t ht => (c4 t ht).2.1) c8 (on m) 0 FU (by omega) (by have := FU_ge; omega)
        have u2 := unM_loop hT1 hM c4 m1 rfl (k90 := jX9_world_90 zM1) (on m) 0 FU (by omega) (by have := FU_ge; omega)
        have hcl := cnt_le (unB T on) (on m)
        obtain ⟨w, w1, w2⟩ := free_loop hT1 h.1.1 hM (k0 := cnt (unB T on) (on m)) (by omega) 241 0 (cnt (unB T on) (on m)) FU (by omega) (by have := FU_ge; omega) (by show 0 + _ = _ + 0; omega)
        refine ⟨(nI w).toInt64, zM1, ?_, ?_, fin⟩
        · rw [n1, bp_s]
          unfold fX4_unnumberedBelow fX8_freeInt
          simp only [litm, if_true, c5 m m1, bp_s, lit]
          have u1 : lX4_unnumberedBelow_4 ps zX (nI (on m)) FU (nI 0) (nI 0) = some (nI (cnt (unB T on) (on m))) := u1
          rw [u1, bp_s, w1, bp_s]
        · rw [k1, bp_s]
          have hlt : (-(nI 1) : Int32) < 0 := m1_lt0.mpr trivial
          rw [if_pos hlt]
          simp only [lit]
          have u2 : lX9_world_44 (jX9_world_90 zM1) zM1 (nI m) FU (nI 0) (nI 0) = jX9_world_90 zM1 (nI (cnt (unB T on) (on m))) := u2
          rw [u2]
          unfold jX9_world_90
          simp only [lit]
          exact w2
      · exact absurd k3 (n2 u k1 k2)
    · rcases numM_ok hT1 hM c4 (show on m < 120 by omega) with ⟨_, k2⟩ | ⟨u', k1, k2, k3, k4⟩
      · exact absurd n4 (k2 u n2 n3)
      · have e : u' = u := n5 u' k1 k2 k3
        subst e
        have s1 := (h.1.1.2.2.1.2 u' n2).2.1
        have s2 := (hM.2 u' n2).2.1
        refine ⟨(sh T u').toInt64, zM1, ?_, ?_, fin⟩
        · rw [n1, bp_s]
          unfold fX7_shownBy
          simp (disch := omega) only [litm, nI_m1n, if_false, inb_t, gd_t, rd_nI, s1, bp_s]
        · rw [k4, bp_s]
          have hlt : ¬ (nI u' < (0 : Int32)) := nI_pos (by omega)
          rw [if_neg hlt]
          simp (disch := omega) only [inb_t, gd_t, rd_nI, s2]
