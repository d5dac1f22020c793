/-! the reference makes an instance: its pile -/
section MRU
variable {T0 T T' : List Tm} {f : Nat → Nat} {t u : Nat} {z z' z1 z2 : fS}
theorem mU_less (hu : u < T0.length) (h : z 25 u = -(nI 1)) {v : Int32} (hv : v ≠ -(nI 1)) (e : z' 25 = upd (z 25) u v) : mU T0 z' + 1 = mU T0 z := by
  unfold mU
  refine cnt_less (j := u) (decide_eq_true h) (decide_eq_false ?_) (fun i hi => ?_) hu
  · rw [e, upd_e]; exact hv
  · rw [e, upd_n hi]
theorem mU_eq (e : z' 25 = z 25) : mU T0 z' = mU T0 z := by unfold mU; rw [e]
theorem minst_run (hW : WT T0) (hf : ∀ h, h < 3 → f h < T0.length) {a : Int32} : ∀ (n u : Nat), u < n → u < T0.length → ∀ (e i : Nat) (T : List Tm) (z : fS) (d : Nat), i + e = sz T0 u → MJ T0 f T z → z 26 d = nI u → z 27 d = nI i → d + u ≤ 119 → z 25 u = -(nI 1) → (∀ j, j < i → z 25 (pt T0 u j) ≠ -(nI 1)) →
    (In T0 f u T = none ∧ ∃ k z', k + 2 * i ≤ 8 * mU T0 z + 10 * u + 10 ∧ (∀ N, lX9_instanceOf_42 a (nI T0.length) (N + k) (nI (d + 1)) z = some (-(nI 1), z')) ∧ MT T0 z' ∧ z' 0 30 = nI 0 ∧ Mg z z') ∨
    (∃ r T' k z', In T0 f u T = some (r, T') ∧ MJ T0 f T' z' ∧ z' 25 u ≠ -(nI 1) ∧ (∀ v, u < v → z' 25 v = z 25 v) ∧ (∀ v, z 25 v ≠ -(nI 1) → z' 25 v ≠ -(nI 1)) ∧ k + 2 * i + 1 + 8 * mU T0 z' ≤ 8 * mU T0 z ∧ (∀ j, j < d → z' 26 j = z 26 j ∧ z' 27 j = z 27 j) ∧ Mg z z' ∧ Fz T z T' z' ∧ ∀ N, lX9_instanceOf_42 a (nI T0.length) (N + k) (nI (d + 1)) z = lX9_instanceOf_42 a (nI T0.length) N (nI d) z') := by
  have hn0 := hW.1
  intro n
  induction n with
  | zero => intro u h; omega
  | succ n ih =>
    intro u hun hu e
    induction e with
    | zero =>
      intro i T z d hi hJ h26 h27 hd h25 hk
      obtain ⟨r1, r2, r3, r4, r5⟩ := hJ.rd hu
      have hs := hW.2 u hu
      have hpos : 0 < mU T0 z := cnt_pos hu (decide_eq_true h25)
      have one : ∀ N, lX9_instanceOf_42 a (nI T0.length) (N + 1) (nI (d + 1)) z = bd (fX9_rebuilt z (nI u)) fun r146 z146 => bnd (wr z146 25 (nI u) r146) fun z149 => if 0 ≤ (rd z149 25 (nI u)) then lX9_instanceOf_42 a (nI T0.length) N (nI d) z149 else bnd (wf z149 0 4 (nI T0.length)) fun z162 => bnd (wf z162 0 30 (0 : Int32)) fun z167 => some ((-1 : Int32), z167) := by
        intro N
        rw [lX9_instanceOf_42.eq_2]
        simp (disch := omega) only [lit, litm, nI_leI, if_neg, nI_sub, Nat.add_sub_cancel, inb_t, gd_t, rd_nI, h26, h27, bnd_s, h25, m1_lt0, if_true, r4, if_pos, nI_dec]
      rcases rebuilt_ok hJ hW hf hu (fun j hj => hk j (by omega)) with ⟨i1, z1, i2, i3, i4, i5⟩ | ⟨r, T1, z1, i1, i2, i3, i4, i5, i6⟩
      · obtain ⟨R, hR⟩ := hJ.1.1
        obtain ⟨z9, e9⟩ : ∃ q, q = wrr (wrr z1 25 (upd (z1 25) u (-(nI 1)))) 0 (upd (upd (z1 0) 4 (nI T0.length)) 30 (nI 0)) := ⟨_, rfl⟩
        refine Or.inl ⟨i1, 1, z9, by omega, fun N => ?_, ?_, ?_, fun j g1 g2 g3 => ?_, fun g g1 g2 => ?_⟩
        · rw [one N, i2, bd_s, e9]
          simp (disch := omega) only [lit, litm, wr_nI, bnd_s, rd_nI, wrr_e, upd_e, m1_le0, if_false, wf_w, wrr_n, wrr_wrr]
        · have hg : AgT T0 T T0.length := fun t ht => hJ.1.gt ht
          have hle := hJ.1.le
          refine ⟨by rw [e9, wrr_e, upd_n (by omega), upd_e], fun t ht => ?_⟩
          have q := i3.2 t (by omega)
          rw [hg.kd ht, hg.sh ht, hg.sz ht] at q
          rw [e9, wrr_n (by omega), wrr_n (by omega), wrr_n (by omega), wrr_n (by omega), wrr_n (by omega), wrr_n (by omega)]
          refine ⟨q.1, q.2.1, q.2.2.1, fun i hi => ?_⟩
          rw [wrr_n (by omega), wrr_n (by omega), q.2.2.2 i hi, hg.pt ht i]
        · rw [e9, wrr_e, upd_e]
        · rw [e9, wrr_n (by omega), wrr_n (by omega), i4 j g1 g2]
        · rw [e9, wrr_e, upd_n g2, upd_n g1, i5 g g1 g2]
      · obtain ⟨g1, g2, g3⟩ := In_good hW hf (u + 1) u (by omega) hu T r T1 hJ.1 i1
        have h120 := g1.2.1.1
        have hrn : nI r ≠ -(nI 1) := fun q => by rw [nI_m1n (by omega)] at q; exact q
        obtain ⟨z9, e9⟩ : ∃ q, q = wrr z1 25 (upd (z1 25) u (nI r)) := ⟨_, rfl⟩
        have e25 : z9 25 = upd (z 25) u (nI r) := by rw [e9, wrr_e, i4 25 (by omega) (by omega)]
        have hless := mU_less (T0 := T0) hu h25 hrn e25
        refine Or.inr ⟨r, T1, 1, z9, i1, ⟨g1, i3.fr (by rw [e9, wrr_n (by omega)]) fun j q1 q2 => by rw [e9, wrr_n (by omega)], ?_, ?_⟩, by rw [e25, upd_e]; exact hrn, fun v hv => by rw [e25, upd_n (by omega)], ?_, by omega, fun j hj => ?_, ⟨fun j q1 q2 q3 => by rw [e9, wrr_n (by omega), i4 j q1 q2], fun g q1 q2 => by rw [e9, wrr_n (by omega), i5 g q1 q2]⟩, ?_, fun N => ?_⟩
        · rw [e9, wrr_n (by omega), i4 24 (by omega) (by omega)]; exact hJ.2.2.1
        · intro t ht
          rw [e25]
          by_cases q : t = u
          · subst q
            exact Or.inr ⟨r, upd_e, In_set hW hf (t + 1) t (by omega) ht T r T1 hJ.1 i1 T1 g1 ⟨[], by simp⟩⟩
          · rw [upd_n q]
            rcases hJ.2.2.2 t ht with w | ⟨r', w1, w2⟩
            · exact Or.inl w
            · exact Or.inr ⟨r', w1, In_set hW hf (t + 1) t (by omega) ht T r' T hJ.1 w2 T1 g1 g2⟩
        · intro v hv
          rw [e25]
          by_cases q : v = u
          · rw [q, upd_e]; exact hrn
          · rw [upd_n q]; exact hv
        · rw [e9, wrr_n (by omega), wrr_n (by omega), i4 26 (by omega) (by omega), i4 27 (by omega) (by omega)]; exact ⟨rfl, rfl⟩
        · rcases i6 with ⟨q1, q2⟩ | q
          · exact Or.inl ⟨q1, by rw [e9, wrr_n (by omega)]; exact q2⟩
          · exact Or.inr (by rw [e9, wrr_n (by omega)]; exact q)
        · rw [one N, i2, bd_s]
          simp (disch := omega) only [lit, wr_nI, bnd_s, rd_nI, wrr_e, upd_e, nI_leI, if_pos]
          rw [e9]
    | succ e ihe =>
      intro i T z d hi hJ h26 h27 hd h25 hk
      obtain ⟨r1, r2, r3, r4, r5⟩ := hJ.rd hu
      have hs := hW.2 u hu
      have hp := hs.2.1 i (by omega)
      have e4 := r5 i (by omega)
      obtain ⟨z1, e1⟩ : ∃ q, q = wrr (wrr z 26 (upd (z 26) (d + 1) (nI (pt T0 u i)))) 27 (upd (upd (z 27) d (nI (i + 1))) (d + 1) (nI 0)) := ⟨_, rfl⟩
      have e1n : ∀ j, j ≠ 26 → j ≠ 27 → z1 j = z j := fun j q1 q2 => by rw [e1, wrr_n q2, wrr_n q1]
      have push : ∀ N, lX9_instanceOf_42 a (nI T0.length) (N + 1) (nI (d + 1)) z = lX9_instanceOf_42 a (nI T0.length) N (nI (d + 1 + 1)) z1 := by
        intro N
        rw [lX9_instanceOf_42.eq_2]
        simp (disch := omega) only [lit, litm, nI_leI, if_neg, nI_sub, Nat.add_sub_cancel, inb_t, gd_t, rd_nI, h26, h27, bnd_s, h25, m1_lt0, if_true, r4, nI_add, wr_nI, nI_mul, wrr_n, wrr_e, e4, wrr_wrr]
        rw [e1]
        congr 1
        funext j
        by_cases q1 : j = 27
        · subst q1; rw [wrr_e, wrr_e]
        · rw [wrr_n q1, wrr_n q1]
          by_cases q2 : j = 26
          · subst q2; rw [wrr_e, wrr_e]
          · rw [wrr_n q2, wrr_n q2, wrr_n q1]
      have hJ1 : MJ T0 f T z1 := hJ.fr e1n
      have mu1 : mU T0 z1 = mU T0 z := mU_eq (e1n 25 (by omega) (by omega))
      have g26 : z1 26 d = nI u := by rw [e1, wrr_n (by omega), wrr_e, upd_n (by omega)]; exact h26
      have g27 : z1 27 d = nI (i + 1) := by rw [e1, wrr_e, upd_n (by omega), upd_e]
      have p26 : z1 26 (d + 1) = nI (pt T0 u i) := by rw [e1, wrr_n (by omega), wrr_e, upd_e]
      have p27 : z1 27 (d + 1) = nI 0 := by rw [e1, wrr_e, upd_e]
      have below : ∀ j, j < d → z1 26 j = z 26 j ∧ z1 27 j = z 27 j := fun j hj => by
        rw [e1, wrr_n (by omega), wrr_e, wrr_e, upd_n (by omega), upd_n (by omega), upd_n (by omega)]
        exact ⟨rfl, rfl⟩
      have fr1 : Mg z z1 := ⟨fun j q1 q2 q3 => e1n j (by omega) (by omega), fun g _ _ => by rw [e1n 0 (by omega) (by omega)]⟩
      have fz1 : Fz T z T z1 := Or.inl ⟨rfl, by rw [e1n 0 (by omega) (by omega)]⟩
      have e25 : z1 25 = z 25 := e1n 25 (by omega) (by omega)
      rcases hJ.2.2.2 (pt T0 u i) (by omega) with w | ⟨r, w1, w2⟩
      · -- the part is not known yet
        rcases ih (pt T0 u i) (by omega) (by omega) (sz T0 (pt T0 u i)) 0 T z1 (d + 1) (by omega) hJ1 p26 p27 (by omega) (by rw [e25]; exact w) (fun j hj => by omega) with ⟨c1, k, z2, c2, c3, c4, c5, c6⟩ | ⟨r, T2, k, z2, c1, c2, c3, c4, c4b, c5, c6, c7, c8, c9⟩
        · by_cases hb : hbit (gT T0 u) = 0
          · have hg : ∀ j, j < i → In T0 f (pt T0 u j) T = some (gI T0 f T (pt T0 u j), T) := fun j hj => by
              have := hs.2.1 j (by omega)
              rcases hJ.2.2.2 (pt T0 u j) (by omega) with w | ⟨r, w1, w2⟩
              · exact absurd w (hk j hj)
              · rw [gI_of w2]; exact w2
            refine Or.inl ⟨In_stop hW hu hb (by omega) hg c1, k + 1, z2, by rw [mu1] at c2; omega, fun N => ?_, c4, c5, fr1.tr c6⟩
            rw [show N + (k + 1) = (N + k) + 1 by omega, push, c3]
          · exfalso
            have h0 : sz T0 u = 0 := by
              rcases hbit_cases (gT T0 u) with q | ⟨q, _⟩
              · exact absurd q hb
              · exact hs.2.2.2.2.2 q
            omega
        · have hb : hbit (gT T0 u) = 0 := by
            rcases hbit_cases (gT T0 u) with q | ⟨q, _⟩
            · exact q
            · have := hs.2.2.2.2.2 q
              omega
          have hg : ∀ j, j < i → In T0 f (pt T0 u j) T = some (gI T0 f T (pt T0 u j), T) := fun j hj => by
            have := hs.2.1 j (by omega)
            rcases hJ.2.2.2 (pt T0 u j) (by omega) with w | ⟨r, w1, w2⟩
            · exact absurd w (hk j hj)
            · rw [gI_of w2]; exact w2
          have est := In_step hW hf hJ.1 hu hb (by omega) hg c1
          rw [mu1] at c5
          have q26 := c6 d (by omega)
          rcases ihe (i + 1) T2 z2 d (by omega) c2 (by rw [q26.1]; exact g26) (by rw [q26.2]; exact g27) hd (by rw [c4 u hp, e25]; exact h25) (fun j hj => by
            rcases Nat.eq_or_lt_of_le (Nat.le_of_lt_succ hj) with rfl | hj
            · exact c3
            · exact c4b _ (by rw [e25]; exact hk j hj)) with ⟨b1, k', z3, b2, b3, b4, b5, b6⟩ | ⟨r', T3, k', z3, b1, b2, b3, b4, b4b, b5, b6, b7, b8, b9⟩
          · refine Or.inl ⟨est.trans b1, k' + k + 1, z3, by omega, fun N => ?_, b4, b5, (fr1.tr c7).tr b6⟩
            rw [show N + (k' + k + 1) = ((N + k') + k) + 1 by omega, push, c9, b3]
          · refine Or.inr ⟨r', T3, k' + k + 1, z3, est.trans b1, b2, b3, fun v hv => by rw [b4 v hv, c4 v (by omega), e25], fun v hv => b4b v (c4b v (by rw [e25]; exact hv)), by omega, fun j hj => ?_, (fr1.tr c7).tr b7, (fz1.tr c8).tr b8, fun N => ?_⟩
            · rw [(b6 j hj).1, (b6 j hj).2, (c6 j (by omega)).1, (c6 j (by omega)).2]; exact below j hj
            · rw [show N + (k' + k + 1) = ((N + k') + k) + 1 by omega, push, c9, b9]
      · -- it is known
        obtain ⟨_, _, rl⟩ := In_good hW hf (pt T0 u i + 1) (pt T0 u i) (by omega) (by omega) T r T hJ.1 w2
        have h120 := hJ.1.2.1.1
        have p25 : z1 25 (pt T0 u i) = nI r := by rw [e25]; exact w1
        have hrn : nI r ≠ -(nI 1) := fun q => by rw [nI_m1n (by omega)] at q; exact q
        have pop : ∀ N, lX9_instanceOf_42 a (nI T0.length) (N + 1) (nI (d + 1 + 1)) z1 = lX9_instanceOf_42 a (nI T0.length) N (nI (d + 1)) z1 := by
          intro N
          rw [lX9_instanceOf_42.eq_2]
          simp (disch := omega) only [lit, litm, nI_leI, if_neg, nI_sub, Nat.add_sub_cancel, inb_t, gd_t, rd_nI, p26, p27, bnd_s, p25, nI_ltI, nI_dec]
        rcases ihe (i + 1) T z1 d (by omega) hJ1 g26 g27 hd (by rw [e25]; exact h25) (fun j hj => by
            rw [e25]
            rcases Nat.eq_or_lt_of_le (Nat.le_of_lt_succ hj) with rfl | hj
            · rw [w1]; exact hrn
            · exact hk j hj) with ⟨b1, k', z3, b2, b3, b4, b5, b6⟩ | ⟨r', T3, k', z3, b1, b2, b3, b4, b4b, b5, b6, b7, b8, b9⟩
        · refine Or.inl ⟨b1, k' + 1 + 1, z3, by rw [mu1] at b2; omega, fun N => ?_, b4, b5, fr1.tr b6⟩
          rw [show N + (k' + 1 + 1) = ((N + k') + 1) + 1 by omega, push, pop, b3]
        · refine Or.inr ⟨r', T3, k' + 1 + 1, z3, b1, b2, b3, fun v hv => by rw [b4 v hv, e25], fun v hv => b4b v (by rw [e25]; exact hv), by rw [mu1] at b5; omega, fun j hj => ?_, fr1.tr b7, fz1.tr b8, fun N => ?_⟩
          · rw [(b6 j hj).1, (b6 j hj).2]; exact below j hj
          · rw [show N + (k' + 1 + 1) = ((N + k') + 1) + 1 by omega, push, pop, b9]
theorem bec_loop {k26 : fS → Option (Int32 × fS)} {v1 v2 : Int32} : ∀ (d i N : Nat) (z : fS), i + d = 120 → d < N → (∀ s, s < i → z 25 s = -(nI 1)) → ∃ z', lX9_instanceOf_7 k26 v1 v2 N (nI i) z = k26 z' ∧ (∀ s, s < 120 → z' 25 s = -(nI 1)) ∧ (∀ j, j ≠ 25 → z' j = z j) := by
  intro d
  induction d with
  | zero =>
    intro i N z hi hN h
    obtain ⟨N, rfl⟩ : ∃ M, N = M + 1 := ⟨N - 1, by omega⟩
    refine ⟨z, ?_, fun s hs => h s (by omega), fun _ _ => rfl⟩
    rw [lX9_instanceOf_7.eq_2]
    simp (disch := omega) only [lit, nI_leI, if_pos]
  | succ d ih =>
    intro i N z hi hN h
    obtain ⟨N, rfl⟩ : ∃ M, N = M + 1 := ⟨N - 1, by omega⟩
    obtain ⟨z', g1, g2, g3⟩ := ih (i + 1) N (wrr z 25 (upd (z 25) i (-(nI 1)))) (by omega) (by omega) (fun k hk => by
      rw [wrr_e]
      by_cases q : k = i
      · rw [q, upd_e]
      · rw [upd_n q]; exact h k (by omega))
    refine ⟨z', ?_, g2, fun k hk => (g3 k hk).trans (wrr_n hk)⟩
    rw [lX9_instanceOf_7.eq_2]
    simp (disch := omega) only [lit, litm, nI_leI, if_neg, inb_t, gd_t, wr_nI, bnd_s, nI_add]
    exact g1
theorem instanceOf_ok (hM : MT T0 z) (hW : WT T0) (hU : Uq T0) (hf : ∀ h, h < 3 → f h < T0.length) (h24 : ∀ h, h < 3 → z 24 h = nI (f h)) (ht : t < T0.length) : ∃ v z', fX9_instanceOf z (nI t) = some (v, z') ∧ ((In T0 f t T0 = none ∧ v = -(nI 1) ∧ MT T0 z' ∧ z' 0 30 = nI 0) ∨ ∃ r T', In T0 f t T0 = some (r, T') ∧ v = nI r ∧ MT T' z' ∧ Fz T0 z T' z') ∧ Mg z z' := by
  have hn0 := hW.1
  have hG : Gd T0 T0 := ⟨⟨[], by simp⟩, hW, hU⟩
  obtain ⟨z1, a1, a2, a3⟩ := bec_loop (k26 := jX9_instanceOf_26 (nI t) (nI T0.length)) (v1 := nI t) (v2 := nI T0.length) 120 0 FU z (by omega) (by have := FU_ge; omega) (fun s hs => by omega)
  obtain ⟨z2, e2⟩ : ∃ q, q = wrr (wrr z1 26 (upd (z1 26) 0 (nI t))) 27 (upd (z1 27) 0 (nI 0)) := ⟨_, rfl⟩
  have e2n : ∀ j, j ≠ 25 → j ≠ 26 → j ≠ 27 → z2 j = z j := fun j q1 q2 q3 => by rw [e2, wrr_n q3, wrr_n q2, a3 j q1]
  have e25 : z2 25 = z1 25 := by rw [e2, wrr_n (by omega), wrr_n (by omega)]
  have st : fX9_instanceOf z (nI t) = lX9_instanceOf_42 (nI t) (nI T0.length) FU (nI 1) z2 := by
    unfold fX9_instanceOf
    simp only [lit, bnd_s, hM.1]
    rw [a1]
    unfold jX9_instanceOf_26
    simp (disch := omega) only [lit, inb_t, gd_t, wr_nI, bnd_s, wrr_n]
    rw [e2]
  have hJ : MJ T0 f T0 z2 := by
    refine ⟨hG, hM.fr (by rw [e2n 0 (by omega) (by omega) (by omega)]) fun j q1 q2 => e2n j (by omega) (by omega) (by omega), ?_, fun u hu => Or.inl ?_⟩
    · rw [e2n 24 (by omega) (by omega) (by omega)]; exact h24
    · rw [e25]; exact a2 u (by omega)
  have hUl : mU T0 z2 ≤ 120 := by have : mU T0 z2 ≤ T0.length := cnt_le _ _; omega
  have fr : Mg z z2 := ⟨fun j q1 q2 q3 => e2n j (by omega) (by omega) (by omega), fun g _ _ => by rw [e2n 0 (by omega) (by omega) (by omega)]⟩
  have hz : Fz T0 z T0 z2 := Or.inl ⟨rfl, by rw [e2n 0 (by omega) (by omega) (by omega)]⟩
  rw [st]
  rcases minst_run (a := nI t) hW hf (t + 1) t (by omega) ht (sz T0 t) 0 T0 z2 0 (by omega) hJ (by rw [e2, wrr_n (by omega), wrr_e, upd_e]) (by rw [e2, wrr_e, upd_e]) (by omega) (by rw [e25]; exact a2 t (by omega)) (fun j hj => by omega) with ⟨c1, k, z3, c2, c3, c4, c5, c6⟩ | ⟨r, T2, k, z3, c1, c2, c3, c4, c4b, c5, c6, c7, c8, c9⟩
  · obtain ⟨N, hN⟩ : ∃ N, FU = N + k := ⟨FU - k, by have := FU_ge; omega⟩
    exact ⟨-(nI 1), z3, by rw [hN]; exact c3 N, Or.inl ⟨c1, rfl, c4, c5⟩, fr.tr c6⟩
  · obtain ⟨N, hN⟩ : ∃ N, FU = N + 1 + k := ⟨FU - k - 1, by have := FU_ge; omega⟩
    obtain ⟨g1, g2, g3⟩ := In_good hW hf (t + 1) t (by omega) ht T0 r T2 hG c1
    have hset := In_set hW hf (t + 1) t (by omega) ht T0 r T2 hG c1 T2 g1 ⟨[], by simp⟩
    have h25 : z3 25 t = nI r := by
      rcases c2.2.2.2 t ht with q | ⟨r', q1, q2⟩
      · exact absurd q c3
      · rw [hset] at q2
        cases q2
        exact q1
    refine ⟨nI r, z3, ?_, Or.inr ⟨r, T2, c1, rfl, c2.2.1, hz.tr c8⟩, fr.tr c7⟩
    rw [hN, show nI 1 = nI (0 + 1) from rfl, c9, lX9_instanceOf_42.eq_2]
    simp (disch := omega) only [lit, nI_leI, if_pos, inb_t, gd_t, rd_nI, h25]
end MRU
