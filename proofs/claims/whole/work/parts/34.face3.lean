/-! the face: classes -/
theorem cnt_inj {g : Nat → Nat} : ∀ (n m : Nat) (p q : Nat → Bool), (∀ i, i < n → p i = true → g i < m ∧ q (g i) = true) → (∀ i j, i < n → j < n → p i = true → p j = true → g i = g j → i = j) → cnt p n ≤ cnt q m := by
  intro n
  induction n with
  | zero => intro m p q _ _; exact Nat.zero_le _
  | succ n ih =>
    intro m p q h1 h2
    rw [cnt_s]
    cases hp : p n
    · have := ih m p q (fun i hi => h1 i (by omega)) (fun i j hi hj => h2 i j (by omega) (by omega))
      simpa using this
    · obtain ⟨g1, g2⟩ := h1 n (by omega) hp
      have c := cnt_less (p := q) (q := fun i => if i = g n then false else q i) (j := g n) g2 (by simp) (fun i hi => by simp [hi]) g1
      have := ih m p (fun i => if i = g n then false else q i) (fun i hi hpi => by
        obtain ⟨k1, k2⟩ := h1 i (by omega) hpi
        refine ⟨k1, ?_⟩
        have : g i ≠ g n := fun e => by have := h2 i n (by omega) (by omega) hpi hp e; omega
        simp [this, k2]) (fun i j hi hj => h2 i j (by omega) (by omega))
      simp only [if_true]
      omega
section FACE3
variable {T : List Tm} {S : List Sy} {tk : Nat → Bool} {lv : Nat} {rm : Nat → Nat → Bool} {ps pt i : Nat} {zX zM z z' : fS} {a b : Nat}
/-- the classes, as both know them -/
theorem cls_ok (h : RQ i T S tk lv rm ps pt zX zM) : ∃ zM1 on, fX9_court zM = some zM1 ∧ RQ i T S tk lv rm ps pt zX zM1 ∧ MFr 0 30 zM zM1 ∧ MO T.length on zM1 ∧ (∀ t, t < T.length → fX4_headOf ps zX (nI t) = some (nI (on t))) ∧ (∀ a b, a < T.length → b < T.length → fX4_isOne ps zX (nI a) (nI b) = some (if on a = on b then nI 1 else nI 0)) ∧ zX ps 12 = nI (cnt (fun r => decide (on r = r)) T.length) ∧ (∀ t, t < T.length → (fX4_numberOf ps zX (nI t) = some (-(nI 1)) ∧ ∀ u, u < T.length → on u = on t → kd T u ≠ nI 1) ∨ ∃ u, fX4_numberOf ps zX (nI t) = some (nI u) ∧ u < T.length ∧ on u = on t ∧ kd T u = nI 1 ∧ ∀ v, v < T.length → on v = on t → kd T v = nI 1 → v = u) ∧ zM1 0 30 = nI 1 := by
  have h' := h
  obtain ⟨h1, h2, h3, h4, h5⟩ := h'
  have hW := h1.1.1
  have hT1 := hW.1
  have ht := h3.2.1.1
  obtain ⟨zM1, a1, a2, a3, a4⟩ := court_ok hW h3.1 ht h2
  obtain ⟨on, o1, o2⟩ := a2
  obtain ⟨ro, hj⟩ := h1.2.2.2.2
  have hc := hj.closed hW (Nat.le_refl _)
  have hS := hj.1.2.2.1
  have key : ∀ a b, a < T.length → b < T.length → (ro a = ro b ↔ on a = on b) := fun a b ha hb => (hc a b ha hb).trans (o2 a b ha hb).symm
  have least : ∀ t, t < T.length → zX (ps + 4) (ro t) = nI (on t) := by
    intro t ht
    obtain ⟨r1, r2, r3⟩ := hS.2.2.1 t ht
    obtain ⟨_, _, _, _, _, m, m1, m2, m3, m4⟩ := hS.2.2.2.1 (ro t) r2 r3
    rw [m1]
    have ot := o1 t ht
    have om := o1 m m2
    have e1 : on m = on t := (key m t m2 ht).mp m3
    have e2 : m ≤ on t := m4 (on t) (by omega) ((key (on t) t (by omega) ht).mpr ot.2.2)
    congr 1
    omega
  refine ⟨zM1, on, a1, h.mf a3 a4, a4, o1, ?_, ?_, ?_, ?_, ?_⟩
  · intro t ht
    obtain ⟨r1, r2, r3⟩ := hS.2.2.1 t ht
    unfold fX4_headOf
    simp (disch := omega) only [inb_t, gd_t, rd_nI, r1, least t ht]
  · intro a b ha hb
    have ra := hS.2.2.1 a ha
    have rb := hS.2.2.1 b hb
    unfold fX4_isOne
    simp (disch := omega) only [inb_t, gd_t, rd_nI, ra.1, rb.1, nI_eq, lit, key a b ha hb]
    split <;> rfl
  · rw [hS.2.2.2.2]
    congr 1
    have r2 : ∀ t, t < T.length → ro t < T.length ∧ ro (ro t) = ro t := fun t ht => (hS.2.2.1 t ht).2
    refine Nat.le_antisymm (cnt_inj (g := on) _ _ _ _ ?_ ?_) (cnt_inj (g := ro) _ _ _ _ ?_ ?_)
    · intro t ht hp
      have := o1 t ht
      exact ⟨by omega, by simp [this.2.2]⟩
    · intro t u ht hu p1 p2 e
      have e1 : ro t = t := of_decide_eq_true p1
      have e2 : ro u = u := of_decide_eq_true p2
      rw [← e1, ← e2]
      exact (key t u ht hu).mpr e
    · intro t ht hp
      have := r2 t ht
      exact ⟨this.1, by simp [this.2]⟩
    · intro t u ht hu p1 p2 e
      have e1 : on t = t := of_decide_eq_true p1
      have e2 : on u = u := of_decide_eq_true p2
      rw [← e1, ← e2]
      exact (key t u ht hu).mp e
  · intro t ht
    obtain ⟨r1, r2, r3⟩ := hS.2.2.1 t ht
    have en : fX4_numberOf ps zX (nI t) = some (zX (ps + 5) (ro t)) := by
      unfold fX4_numberOf
      simp (disch := omega) only [inb_t, gd_t, rd_nI, r1]
    rw [en]
    rcases hj.1.2.2.2.1.2 (ro t) r2 r3 with ⟨q1, q2⟩ | ⟨u, q1, q2, q3, q4, q5⟩
    · left
      exact ⟨by rw [q1]; rfl, fun u hu e => q2 u hu ((key u t hu ht).mpr e)⟩
    · right
      exact ⟨u, by rw [q1], q2, (key u t q2 ht).mp q3, q4, fun v hv e kv => q5 v hv ((key v t hv ht).mpr e) kv⟩
  · have a1' := a1
    unfold fX9_court at a1'
    by_cases q : zM 0 30 = nI 0
    · obtain ⟨y1, c1, c2, c3⟩ := takeCourt_ok h3.1.1 ht h2.2.1
      have f1 : MFr 0 30 zM y1 := ⟨fun j _ _ _ h _ => c3 j h, fun j s _ _ => by rw [c3 j (by omega)], fun g _ _ => by rw [c3 0 (by omega)]⟩
      obtain ⟨y2, d1, _⟩ := findOnes_ok hW (f1.mt h2.1 (Or.inl rfl) (by omega)) (MI_of h3.1 (fun _ _ _ e => by cases e) (f1.msy h3.1.1 h2.2.1 (Or.inl rfl) (by omega)) c2)
      simp only [lit, q, if_true, c1, bp_s, d1, wf_w, bnd_s, Option.some.injEq] at a1'
      rw [← a1', wrr_e, upd_e]
    · rcases h2.2.2 with q' | ⟨q', _⟩
      · exact absurd q' q
      · simp only [lit, q, if_false, Option.some.injEq] at a1'
        rw [← a1']; exact q'
end FACE3
theorem stn (zX : fS) : fX2_standing zX = some (zX 17 3) := id rfl
theorem s_head : st_head Rel := by
  intro i zX zM a _ hr
  obtain ⟨h0, T, S, tk, lv, rm, ps, pt, h⟩ := id hr
  have hT1 := h.1.1.1.1
  unfold fX8_head fX9_head
  rcases has_ok h a with ⟨x1, x2⟩ | ⟨m, m1, rfl, x1, x2⟩
  · refine ⟨-(nI 1), zM, ?_, ?_, up_ok hr⟩
    · simp only [x1, bp_s, lit, litm, if_true]
    · simp only [x2, bp_s, lit, litm, if_true]
  · obtain ⟨zM1, on, c1, c2, c3, c4, c5, _⟩ := cls_ok h
    refine ⟨nI (on m), zM1, ?_, ?_, ?_, T, S, tk, lv, rm, ps, pt, c2.up⟩
    · simp (disch := omega) only [x1, bp_s, lit, nI_eq, if_neg, stn, h.1.2.2.1.1, c5 m m1]
    · simp (disch := omega) only [x2, bp_s, lit, nI_eq, if_neg, c1, inb_t, gd_t, rd_nI, (c4 m m1).1]
    · rw [c3.2.2 26 (by omega) (by omega)]; exact h0
theorem classes_loop {n : Nat} {on : Nat → Nat} {z : fS} (hn : n ≤ 120) (h4 : z 0 4 = nI n) (hO : MO n on z) : ∀ (d t N : Nat), t + d = n → d < N → lX9_classes_8 z N (nI (cnt (fun r => decide (on r = r)) t)) (nI t) = some (nI (cnt (fun r => decide (on r = r)) n), z) := by
  intro d
  induction d with
  | zero =>
    intro t N ht hN
    obtain ⟨N, rfl⟩ : ∃ M, N = M + 1 := ⟨N - 1, by omega⟩
    rw [lX9_classes_8.eq_2]
    simp (disch := omega) only [h4, nI_leI, if_pos]
    rw [show t = n by omega]
  | succ d ih =>
    intro t N ht hN
    obtain ⟨N, rfl⟩ : ∃ M, N = M + 1 := ⟨N - 1, by omega⟩
    have o := hO t (by omega)
    have hc := cnt_le (fun r => decide (on r = r)) t
    have := ih (t + 1) N (by omega) (by omega)
    rw [cnt_s] at this
    rw [lX9_classes_8.eq_2]
    by_cases q : on t = t
    · simp (disch := omega) only [h4, nI_leI, if_neg, inb_t, gd_t, rd_nI, o.1, nI_eq, q, if_true, bnd_s, lit, nI_add]
      simpa [q] using this
    · simp (disch := omega) only [h4, nI_leI, if_neg, inb_t, gd_t, rd_nI, o.1, nI_eq, q, if_false, bnd_s, lit, nI_add]
      simpa [q] using this
theorem taken_loop {S : List Sy} {tk : Nat → Bool} {z : fS} (hS : S.length ≤ 100) (hM : MSy S tk z) : ∀ (d t N : Nat), t + d = S.length → d < N → lX9_taken_4 z N (nI (cnt tk t)) (nI t) = some (nI (cnt tk S.length)) := by
  intro d
  induction d with
  | zero =>
    intro t N ht hN
    obtain ⟨N, rfl⟩ : ∃ M, N = M + 1 := ⟨N - 1, by omega⟩
    rw [lX9_taken_4.eq_2]
    simp (disch := omega) only [hM.1, nI_leI, if_pos]
    rw [show t = S.length by omega]
  | succ d ih =>
    intro t N ht hN
    obtain ⟨N, rfl⟩ : ∃ M, N = M + 1 := ⟨N - 1, by omega⟩
    have o := (hM.2 t (by omega)).2.2.2
    have hc := cnt_le tk t
    have := ih (t + 1) N (by omega) (by omega)
    rw [cnt_s] at this
    rw [lX9_taken_4.eq_2]
    cases q : tk t
    · rw [q, bI_f] at o
      simp (disch := omega) only [hM.1, nI_leI, if_neg, inb_t, gd_t, rd_nI, o, if_true, bnd_s, lit, nI_add]
      simpa [q] using this
    · rw [q, bI_t] at o
      simp (disch := omega) only [hM.1, nI_leI, if_neg, inb_t, gd_t, rd_nI, o, nI_eq, bnd_s, lit, nI_add]
      simpa [q] using this
theorem taken_ok {S : List Sy} {tk : Nat → Bool} {z : fS} (hS : S.length ≤ 100) (hM : MSy S tk z) : fX9_taken z = some (nI (cnt tk S.length)) := by
  unfold fX9_taken
  simp only [lit]
  exact taken_loop hS hM S.length 0 FU (by omega) (by have := FU_ge; omega)
theorem s_many : st_many Rel := by
  intro i zX zM w _ hr
  obtain ⟨h0, T, S, tk, lv, rm, ps, pt, h⟩ := id hr
  have hT1 := h.1.1.1.1
  obtain ⟨⟨l1, l2, _⟩, ⟨k, _, k1, k2, _⟩, ⟨n, _, n1, n2, _⟩, _⟩ := h.2.2.2.1
  unfold fX8_many fX9_many
  simp only [lit, litm]
  by_cases q0 : w = nI 0
  · simp only [if_pos q0]
    refine ⟨nI T.length, zM, ?_, ?_, up_ok hr⟩
    · unfold fX7_count; rw [h.1.1.2.2.1.1, bp_s]
    · rw [h.2.1.1.1]
  · simp only [if_neg q0]
    by_cases q1 : w = nI 1
    · simp only [if_pos q1]
      refine ⟨nI S.length, zM, ?_, ?_, up_ok hr⟩
      · rw [scount_ok h.1.2.1, bp_s]
      · rw [h.2.1.2.1.1]
    · simp only [if_neg q1]
      by_cases q2 : w = nI 2
      · simp only [if_pos q2]
        refine ⟨nI (cnt tk S.length), zM, ?_, ?_, up_ok hr⟩
        · unfold fX5_takenCount; rw [h.1.2.1.2.1, bp_s]
        · rw [taken_ok h.2.2.1.1.1 h.2.1.2.1, bp_s]
      · simp only [if_neg q2]
        by_cases q3 : w = nI 3
        · simp only [if_pos q3]
          exact ⟨nI k, zM, by rw [k1], by rw [k2], up_ok hr⟩
        · simp only [if_neg q3]
          by_cases q4 : w = nI 4
          · simp only [if_pos q4]
            refine ⟨nI n, zM, ?_, by rw [n2], up_ok hr⟩
            unfold fX6_count; rw [n1, bp_s]
          · simp only [if_neg q4]
            by_cases q5 : w = nI 5
            · simp only [if_pos q5]
              refine ⟨nI lv, zM, ?_, by rw [l2], up_ok hr⟩
              unfold fX5_levels; rw [l1, bp_s]
            · simp only [if_neg q5]
              by_cases q6 : w = nI 6
              · simp only [if_pos q6]
                obtain ⟨zM1, on, c1, c2, c3, c4, c5, c6, c7, _⟩ := cls_ok h
                refine ⟨nI (cnt (fun r => decide (on r = r)) T.length), zM1, ?_, ?_, ?_, T, S, tk, lv, rm, ps, pt, c2.up⟩
                · unfold fX4_classes
                  rw [stn, bp_s, h.1.2.2.1.1, bp_s, c7]
                · unfold fX9_classes
                  rw [c1, bp_s]
                  simp only [lit]
                  have := classes_loop hT1 c2.2.1.1.1 c4 T.length 0 FU (by omega) (by have := FU_ge; omega)
                  have this : lX9_classes_8 zM1 FU (nI 0) (nI 0) = some (nI (cnt (fun r => decide (on r = r)) T.length), zM1) := this
                  rw [this, bd_s]
                · rw [c3.2.2 26 (by omega) (by omega)]; exact h0
              · simp only [if_neg q6]
                exact ⟨-(nI 1), zM, rfl, rfl, up_ok hr⟩
