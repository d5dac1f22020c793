/-! terms are unmade, the last one first -/
section UNM
variable {T : List Tm} {z z' : fS} {tm : Tm} {H : Nat → Nat}
theorem pI_lt {i j : Nat} (hi : i < 2 ^ 31) (hj : j < 2 ^ 31) : (pI i < nI j) ↔ i ≤ j := by
  by_cases q : i = 0
  · rw [q, pI_0, m1_lt hj]; exact ⟨fun _ => Nat.zero_le _, fun _ => trivial⟩
  · rw [pI_s (by omega), nI_ltI (by omega) hj]; omega
theorem pI_sub {i : Nat} : nI i - nI 1 = pI i := by
  by_cases q : i = 0
  · rw [q, z_dec, pI_0]
  · rw [nI_sub (by omega), pI_s (by omega)]
theorem pI_dec {i : Nat} : nI i + -(nI 1) = pI i := by
  by_cases q : i = 0
  · rw [q, z_decA, pI_0]
  · rw [nI_dec (by omega), pI_s (by omega)]
theorem unmake_in {l : List Nat} (hn : T.length < 120) (hl : l.length ≤ 3) (hlt : ∀ p, p ∈ l → p < T.length) {k59 : fS → Option fS} {w1 w2 : Int32} : ∀ (i N : Nat) (z : fS), i ≤ l.length → i < N → (∀ j, j < l.length → z 5 (3 * T.length + j) = nI (l.getD j 0)) → HPi T l i z → ∃ z', lX7_unmakeFrom_28 k59 w1 w2 (nI (3 * T.length)) N (pI (3 * T.length + i)) z = k59 z' ∧ HPi T l 0 z' ∧ (∀ j, j ≠ 9 → z' j = z j) := by
  intro i
  induction i with
  | zero =>
    intro N z hi hN h5 hP
    obtain ⟨N, rfl⟩ : ∃ M, N = M + 1 := ⟨N - 1, by omega⟩
    refine ⟨z, ?_, hP, fun _ _ => rfl⟩
    rw [lX7_unmakeFrom_28.eq_2, if_pos ((pI_lt (by omega) (by omega)).mpr (by omega))]
  | succ i ih =>
    intro N z hi hN h5 hP
    obtain ⟨N, rfl⟩ : ∃ M, N = M + 1 := ⟨N - 1, by omega⟩
    have hil : i < l.length := by omega
    obtain ⟨p, hp⟩ : ∃ p, p = l.getD i 0 := ⟨_, rfl⟩
    have hpm : p ∈ l := by rw [hp]; exact gD_mem hil
    have hpT := hlt p hpm
    have h5i := h5 i hil
    rw [← hp] at h5i
    have hpI : pI (3 * T.length + (i + 1)) = nI (3 * T.length + i) := by rw [pI_s (by omega)]; rfl
    have hlt0 : ¬ (pI (3 * T.length + (i + 1)) < nI (3 * T.length)) := fun h => by
      have := (pI_lt (by omega) (by omega)).mp h; omega
    obtain ⟨z', e1, e2, e3⟩ := ih N (wrr z 9 (upd (z 9) p (z 10 (3 * T.length + i)))) (by omega) (by omega) (fun j hj => by rw [wrr_n (by omega)]; exact h5 j hj) (fun t ht => by
      obtain ⟨pl, c1, c2, c3⟩ := hP t ht
      rw [wrr_e, wrr_n (by omega)]
      by_cases e : t = p
      · have hin : (3 * T.length + i) ∈ pl := (c3 _).mpr (Or.inr ⟨i, by omega, rfl, by rw [e, hp]⟩)
        cases pl with
        | nil => simp at hin
        | cons y pl =>
          obtain ⟨d1, d2⟩ := c1
          obtain ⟨g1, g2⟩ := List.pairwise_cons.mp c2
          have hy : y ≤ 3 * T.length + i := by
            rcases (c3 y).mp List.mem_cons_self with ⟨g, _⟩ | ⟨j, k1, k2, _⟩ <;> omega
          have ey : y = 3 * T.length + i := by
            rcases List.mem_cons.mp hin with k | k
            · exact k.symm
            · have := g1 _ k; omega
          subst ey
          refine ⟨pl, by rw [e, upd_e]; exact d2, g2, fun q => ?_⟩
          constructor
          · intro hq
            have hlt := g1 q hq
            rcases (c3 q).mp (List.mem_cons_of_mem _ hq) with h | ⟨j, k1, k2, k3⟩
            · exact Or.inl h
            · exact Or.inr ⟨j, by omega, k2, k3⟩
          · intro hq
            have : q ∈ (3 * T.length + i) :: pl := (c3 q).mpr (by
              rcases hq with h | ⟨j, k1, k2, k3⟩
              · exact Or.inl h
              · exact Or.inr ⟨j, by omega, k2, k3⟩)
            rcases List.mem_cons.mp this with k | k
            · rcases hq with h | ⟨j, k1, k2, k3⟩ <;> omega
            · exact k
      · refine ⟨pl, by rw [upd_n e]; exact c1, c2, fun q => ?_⟩
        rw [c3 q]
        constructor
        · rintro (h | ⟨j, k1, k2, k3⟩)
          · exact Or.inl h
          · refine Or.inr ⟨j, ?_, k2, k3⟩
            rcases Nat.eq_or_lt_of_le (Nat.le_of_lt_succ k1) with rfl | k1
            · exact absurd (hp.trans k3).symm e
            · exact k1
        · rintro (h | ⟨j, k1, k2, k3⟩)
          · exact Or.inl h
          · exact Or.inr ⟨j, by omega, k2, k3⟩)
    refine ⟨z', ?_, e2, fun j hj => (e3 j hj).trans (wrr_n hj)⟩
    rw [lX7_unmakeFrom_28.eq_2, if_neg hlt0, hpI]
    simp (disch := omega) only [inb_t, gd_t, rd_nI, h5i, wr_nI, bnd_s, litm, pI_dec]
    exact e1
theorem unmake_one {rc : Int32 → fS → Option fS} {w1 : Int32} (h : HX (T ++ [tm]) z) : ∃ z', lX7_unmakeFrom_28 (jX7_unmakeFrom_59 rc w1 (nI T.length) (nI (3 * T.length))) w1 (nI T.length) (nI (3 * T.length)) FU (pI (3 * T.length + tm.2.2.length)) z = rc (pI T.length) z' ∧ HX T z' ∧ (∀ j, j = 0 ∨ 11 ≤ j → z' j = z j) := by
  obtain ⟨hW, hU, hT, hP, hC, H, hI, hB⟩ := h
  have lenT : (T ++ [tm]).length = T.length + 1 := by simp
  have hT1 := hW.1
  rw [lenT] at hT1
  have hag := AgT.app T [tm] (Nat.le_refl _)
  have hgl : ∀ t, t < T.length → gT (T ++ [tm]) t = gT T t := fun t ht => gT_l ht
  have hok := hW.ok (t := T.length) (by omega)
  rw [gT_r] at hok
  have ksh : kd (T ++ [tm]) T.length = tm.1 ∧ sh (T ++ [tm]) T.length = tm.2.1 ∧ pts (T ++ [tm]) T.length = tm.2.2 := by
    have := gT_r (T := T) (tm := tm)
    exact ⟨congrArg (fun x : Tm => x.1) this, congrArg (fun x : Tm => x.2.1) this, congrArg (fun x : Tm => x.2.2) this⟩
  have szn : sz (T ++ [tm]) T.length = tm.2.2.length := congrArg List.length ksh.2.2
  have ptn : ∀ i, pt (T ++ [tm]) T.length i = tm.2.2.getD i 0 := fun i => congrArg (fun l : List Nat => l.getD i 0) ksh.2.2
  have h5 : ∀ i, i < 3 → z 5 (3 * T.length + i) = pe tm.2.2 i := fun i hi => by
    rw [pe_parts hT (by omega) hi, ksh.2.2]
  have hPi : HPi T tm.2.2 tm.2.2.length z := by
    intro t ht
    obtain ⟨pl, c1, c2, c3⟩ := hP t (by omega)
    refine ⟨pl, c1, c2, fun p => ?_⟩
    rw [c3 p, lenT]
    constructor
    · rintro ⟨g1, g2, g3⟩
      by_cases e : p / 3 = T.length
      · rw [e, szn] at g2
        rw [e, ptn] at g3
        exact Or.inr ⟨p % 3, g2, by omega, g3⟩
      · have g1' : p / 3 < T.length := by omega
        rw [hag.sz g1'] at g2
        rw [hag.pt g1'] at g3
        exact Or.inl ⟨g1', g2, g3⟩
    · rintro (⟨g1, g2, g3⟩ | ⟨j, g1, g2, g3⟩)
      · rw [hag.sz g1, hag.pt g1]; exact ⟨by omega, g2, g3⟩
      · have d1 : p / 3 = T.length := by have := hok.1; omega
        have d2 : p % 3 = j := by have := hok.1; omega
        rw [d1, d2, szn, ptn]; exact ⟨by omega, g1, g3⟩
  obtain ⟨z1, e1, e2, e3⟩ := unmake_in (l := tm.2.2) (by omega) hok.1 hok.2.1 (k59 := jX7_unmakeFrom_59 rc w1 (nI T.length) (nI (3 * T.length))) (w1 := w1) (w2 := nI T.length) tm.2.2.length FU z (Nat.le_refl _) (by have := FU_ge; have := hok.1; omega) (fun j hj => by
    rw [h5 j (by have := hok.1; omega)]; unfold pe; rw [if_pos hj]) hPi
  obtain ⟨s, s1, s2⟩ := hsh_lt tm.1 tm.2.1 (pe tm.2.2 0) (pe tm.2.2 1) (pe tm.2.2 2)
  have k2 : z1 2 T.length = tm.1 := by rw [e3 2 (by omega), (hT.2 T.length (by omega)).1, ksh.1]
  have k3 : z1 3 T.length = tm.2.1 := by rw [e3 3 (by omega), (hT.2 T.length (by omega)).2.1, ksh.2.1]
  have k50 : z1 5 (3 * T.length) = pe tm.2.2 0 := by rw [e3 5 (by omega)]; exact h5 0 (by omega)
  have k51 : z1 5 (3 * T.length + 1) = pe tm.2.2 1 := by rw [e3 5 (by omega)]; exact h5 1 (by omega)
  have k52 : z1 5 (3 * T.length + 2) = pe tm.2.2 2 := by rw [e3 5 (by omega)]; exact h5 2 (by omega)
  refine ⟨wrr (wrr z1 7 (upd (z1 7) s (z1 8 T.length))) 1 (upd (z1 1) 9 (nI T.length)), ?_, ?_, ?_⟩
  · rw [e1]
    unfold jX7_unmakeFrom_59
    simp (disch := omega) only [lit, litm, inb_t, gd_t, nI_add, rd_nI, k2, k3, k50, k51, k52, slotFor_ok, bp_s]
    rw [show hsh tm.1 tm.2.1 (pe tm.2.2 0) (pe tm.2.2 1) (pe tm.2.2 2) = nI s from s2]
    simp (disch := omega) only [inb_t, gd_t, wr_nI, bnd_s, wf_w, wrr_n, pI_dec]
  · refine ⟨⟨by omega, fun t ht => ?_⟩, ?_, ⟨?_, ?_⟩, ?_, ?_, H, ?_, ?_⟩
    · have := hW.2 t (by omega)
      rw [hag.kd ht, hag.sz ht] at this
      exact ⟨this.1, fun i hi => by rw [← hag.pt ht i]; exact this.2.1 i hi, this.2.2⟩
    · intro t u ht hu e
      exact hU t u (by omega) (by omega) (by rw [hgl t ht, hgl u hu]; exact e)
    · rw [wrr_e, upd_e]
    · intro t ht
      have := hT.2 t (by omega)
      rw [hag.kd ht, hag.sh ht, hag.sz ht] at this
      simp (disch := omega) only [wrr_n]
      rw [e3 2 (by omega), e3 3 (by omega), e3 4 (by omega), e3 5 (by omega)]
      exact ⟨this.1, this.2.1, this.2.2.1, fun i hi => by rw [← hag.pt ht i]; exact this.2.2.2 i hi⟩
    · intro t ht
      obtain ⟨pl, c1, c2, c3⟩ := e2 t (by omega)
      refine ⟨pl, by simp (disch := omega) only [wrr_n]; exact c1, c2, fun p => ?_⟩
      rw [c3 p]
      exact ⟨fun h => by
        rcases h with h | ⟨j, g, _⟩
        · exact h
        · omega, Or.inl⟩
    · intro s' hs'
      obtain ⟨l, c1, c2, c3⟩ := hC s' hs'
      simp (disch := omega) only [wrr_n, wrr_e]
      rw [e3 7 (by omega), e3 8 (by omega)]
      by_cases e : s' = s
      · subst e
        have hin : T.length ∈ l := (c3 _).mpr ⟨by omega, by rw [gT_r]; exact s2⟩
        cases l with
        | nil => simp at hin
        | cons y l =>
          obtain ⟨d1, d2⟩ := c1
          obtain ⟨g1, g2⟩ := List.pairwise_cons.mp c2
          have hy := ((c3 y).mp List.mem_cons_self).1
          rw [lenT] at hy
          have ey : y = T.length := by
            rcases List.mem_cons.mp hin with k | k
            · exact k.symm
            · have := g1 _ k; omega
          subst ey
          refine ⟨l, by rw [upd_e]; exact d2, g2, fun t => ?_⟩
          constructor
          · intro ht
            have hlt := g1 t ht
            have := (c3 t).mp (List.mem_cons_of_mem _ ht)
            rw [hgl t hlt] at this
            exact ⟨hlt, this.2⟩
          · rintro ⟨g3, g4⟩
            have : t ∈ T.length :: l := (c3 t).mpr ⟨by omega, by rw [hgl t g3]; exact g4⟩
            rcases List.mem_cons.mp this with k | k
            · omega
            · exact k
      · refine ⟨l, by rw [upd_n e]; exact c1, c2, fun t => ?_⟩
        rw [c3 t, lenT]
        constructor
        · rintro ⟨g1, g2⟩
          by_cases q : t = T.length
          · rw [q, gT_r] at g2
            have : nI s = nI s' := s2.symm.trans g2
            rw [nI_eq (by omega) (by omega)] at this
            exact absurd this.symm e
          · rw [hgl t (by omega)] at g2
            exact ⟨by omega, g2⟩
        · rintro ⟨g1, g2⟩
          exact ⟨by omega, by rw [hgl t g1]; exact g2⟩
    · intro t ht
      have := hI t (by omega)
      rw [hag.pts ht, hgl t ht] at this
      exact this
    · intro t ht
      simp (disch := omega) only [wrr_n]
      rw [e3 6 (by omega)]
      exact hB t (by omega)
  · intro j hj
    simp (disch := omega) only [wrr_n]
    exact e3 j (by omega)
theorem unmake_loop : ∀ (n N : Nat) (R : List Tm) (z : fS), R.length = n → n < N → HX (T ++ R) z → ∃ z', lX7_unmakeFrom_7 (nI T.length) N (pI (T.length + n)) z = some z' ∧ HX T z' ∧ (∀ j, j = 0 ∨ 11 ≤ j → z' j = z j) := by
  intro n
  induction n with
  | zero =>
    intro N R z hR hN h
    obtain ⟨N, rfl⟩ : ∃ M, N = M + 1 := ⟨N - 1, by omega⟩
    have e : R = [] := List.length_eq_zero_iff.mp hR
    subst e
    rw [List.append_nil] at h
    have := h.1.1
    refine ⟨z, ?_, h, fun _ _ => rfl⟩
    rw [lX7_unmakeFrom_7.eq_2, if_pos ((pI_lt (by omega) (by omega)).mpr (by omega))]
  | succ n ih =>
    intro N R z hR hN h
    obtain ⟨N, rfl⟩ : ∃ M, N = M + 1 := ⟨N - 1, by omega⟩
    obtain ⟨R0, tm, rfl⟩ := lastx (l := R) (fun e => by rw [e] at hR; simp at hR)
    have hR0 : R0.length = n := by simp at hR; omega
    rw [← List.append_assoc] at h
    have hl1 : (T ++ R0).length = T.length + n := by simp; omega
    have h120 := h.1.1
    have h120' : T.length + n + 1 ≤ 120 := by simp at h120; omega
    obtain ⟨z1, e1, e2, e3⟩ := unmake_one (rc := lX7_unmakeFrom_7 (nI T.length) N) (w1 := nI T.length) h
    obtain ⟨z', g1, g2, g3⟩ := ih N R0 z1 hR0 (by omega) e2
    refine ⟨z', ?_, g2, fun j hj => (g3 j hj).trans (e3 j hj)⟩
    have e4 : z 4 (T.length + n) = nI tm.2.2.length := by
      have := (h.2.2.1.2 (T.length + n) (by simp; omega)).2.2.1
      rw [this]
      congr 1
      have e := gT_r (T := T ++ R0) (tm := tm)
      rw [hl1] at e
      exact congrArg (fun x : Tm => x.2.2.length) e
    rw [hl1] at e1
    rw [lX7_unmakeFrom_7.eq_2, if_neg (fun h => by have := (pI_lt (by omega) (by omega)).mp h; omega)]
    have hpI : pI (T.length + (n + 1)) = nI (T.length + n) := by rw [pI_s (by omega)]; rfl
    rw [hpI]
    simp (disch := omega) only [lit, nI_mul, bnd_s, inb_t, gd_t, rd_nI, e4, nI_add, pI_sub]
    exact e1.trans g1
theorem unmakeFrom_ok {R : List Tm} (h : HX (T ++ R) z) : ∃ z', fX7_unmakeFrom z (nI T.length) = some z' ∧ HX T z' ∧ (∀ j, j = 0 ∨ 11 ≤ j → z' j = z j) := by
  have h120 := h.1.1
  have h120' : T.length + R.length ≤ 120 := by simpa using h120
  obtain ⟨z', g1, g2, g3⟩ := unmake_loop R.length FU R z rfl (by have := FU_ge; omega) h
  refine ⟨z', ?_, g2, g3⟩
  unfold fX7_unmakeFrom
  have e : z 1 9 = nI (T.length + R.length) := by rw [h.2.2.1.1]; simp
  simp only [e, lit, pI_sub, bnd_s]
  exact g1
end UNM
