/-! the reference finds and makes terms -/
section MM
variable {T : List Tm} {z z' : fS} {tm : Tm}
theorem mfind_in (hT : MT T z) (hW : WT T) {l : List Nat} {t : Nat} (ht : t < T.length) (hs : sz T t = l.length) (hl : ∀ p, p ∈ l → p < 120) (ha : ∀ i, i < l.length → z 19 i = nI (l.getD i 0)) {k109 : Int32 → Option Int32} {w1 w2 : Int32} : ∀ (d i N : Nat), i + d = l.length → d < N → ∃ r, lX9_findTerm_63 k109 z w1 w2 (nI l.length) (nI t) N (nI 1) (nI i) = k109 (nI r) ∧ ((r = 1 ∧ ∀ j, i ≤ j → j < l.length → pt T t j = l.getD j 0) ∨ (r = 0 ∧ ¬ ∀ j, i ≤ j → j < l.length → pt T t j = l.getD j 0)) := by
  have hT1 := hW.1
  have w := hW.2 t ht
  have hl3 : l.length ≤ 3 := by rw [← hs]; exact w.1
  intro d
  induction d with
  | zero =>
    intro i N hi hN
    obtain ⟨N, rfl⟩ : ∃ M, N = M + 1 := ⟨N - 1, by omega⟩
    refine ⟨1, ?_, Or.inl ⟨rfl, fun j h1 h2 => by omega⟩⟩
    rw [lX9_findTerm_63.eq_2]
    simp (disch := omega) only [nI_leI, if_pos]
  | succ d ih =>
    intro i N hi hN
    obtain ⟨N, rfl⟩ : ∃ M, N = M + 1 := ⟨N - 1, by omega⟩
    rw [lX9_findTerm_63.eq_2]
    have e4 := (hT.2 t ht).2.2.2 i (by omega)
    have e19 := ha i (by omega)
    have b1 := w.2.1 i (by omega)
    have b2 := hl _ (gD_mem (l := l) (show i < l.length by omega))
    by_cases q : pt T t i = l.getD i 0
    · obtain ⟨r, e1, e2⟩ := ih (i + 1) N (by omega) (by omega)
      refine ⟨r, ?_, ?_⟩
      · simp (disch := omega) only [lit, nI_leI, if_neg, nI_eq, nI_mul, nI_add, inb_t, gd_t, rd_nI, e4, e19, q, if_true, bnd_s]
        exact e1
      · rcases e2 with ⟨e2, e3⟩ | ⟨e2, e3⟩
        · refine Or.inl ⟨e2, fun j h1 h2 => ?_⟩
          rcases Nat.eq_or_lt_of_le h1 with rfl | h1
          · exact q
          · exact e3 j h1 h2
        · exact Or.inr ⟨e2, fun h => e3 fun j h1 h2 => h j (by omega) h2⟩
    · refine ⟨0, ?_, Or.inr ⟨rfl, fun h => q (h i (Nat.le_refl _) (by omega))⟩⟩
      obtain ⟨M, rfl⟩ : ∃ M, N = M + 1 := ⟨N - 1, by omega⟩
      simp (disch := omega) only [lit, nI_leI, if_neg, nI_eq, nI_mul, nI_add, inb_t, gd_t, rd_nI, e4, e19, q, if_false, bnd_s]
      rw [lX9_findTerm_63.eq_2]
      simp (disch := omega) only [lit, if_true, ite_self]
theorem mfind_loop (hT : MT T z) (hW : WT T) (ho : OkT 120 tm) (ha : ∀ i, i < tm.2.2.length → z 19 i = nI (tm.2.2.getD i 0)) : ∀ (d t N : Nat), t + d = T.length → d < N → (∃ u, t ≤ u ∧ u < T.length ∧ gT T u = tm ∧ lX9_findTerm_6 z tm.1 tm.2.1 (nI tm.2.2.length) N (-(nI 1)) (nI t) = some (nI u)) ∨ ((∀ u, t ≤ u → u < T.length → gT T u ≠ tm) ∧ lX9_findTerm_6 z tm.1 tm.2.1 (nI tm.2.2.length) N (-(nI 1)) (nI t) = some (-(nI 1))) := by
  have hT1 := hW.1
  have ho1 := ho.1
  intro d
  induction d with
  | zero =>
    intro t N hi hN
    obtain ⟨N, rfl⟩ : ∃ M, N = M + 1 := ⟨N - 1, by omega⟩
    refine Or.inr ⟨fun u h1 h2 => by omega, ?_⟩
    rw [lX9_findTerm_6.eq_2]
    simp (disch := omega) only [hT.1, nI_leI, if_pos]
  | succ d ih =>
    intro t N hi hN
    obtain ⟨N, rfl⟩ : ∃ M, N = M + 1 := ⟨N - 1, by omega⟩
    have ht : t < T.length := by omega
    obtain ⟨t1, t2, t3, t4⟩ := hT.2 t ht
    have ws := (hW.2 t ht).1
    have key : gT T t = tm ↔ (kd T t = tm.1 ∧ sh T t = tm.2.1 ∧ sz T t = tm.2.2.length ∧ ∀ j, 0 ≤ j → j < tm.2.2.length → pt T t j = tm.2.2.getD j 0) := by
      constructor
      · intro e
        have e1 : kd T t = tm.1 := congrArg (fun x : Tm => x.1) e
        have e2 : sh T t = tm.2.1 := congrArg (fun x : Tm => x.2.1) e
        have e3 : pts T t = tm.2.2 := congrArg (fun x : Tm => x.2.2) e
        exact ⟨e1, e2, congrArg List.length e3, fun j _ _ => congrArg (fun l : List Nat => l.getD j 0) e3⟩
      · rintro ⟨e1, e2, e3, e4⟩
        have : pts T t = tm.2.2 := by
          refine List.ext_getElem e3 fun i g1 g2 => ?_
          have := e4 i (Nat.zero_le _) g2
          have e5 : (pts T t).getD i 0 = tm.2.2.getD i 0 := this
          rw [List.getD_eq_getElem?_getD, List.getD_eq_getElem?_getD, List.getElem?_eq_getElem g1, List.getElem?_eq_getElem g2] at e5
          exact e5
        exact Prod.ext e1 (Prod.ext e2 this)
    have no : gT T t ≠ tm → ((∃ u, t ≤ u ∧ u < T.length ∧ gT T u = tm ∧ lX9_findTerm_6 z tm.1 tm.2.1 (nI tm.2.2.length) N (-(nI 1)) (nI (t + 1)) = some (nI u)) ∨ ((∀ u, t ≤ u → u < T.length → gT T u ≠ tm) ∧ lX9_findTerm_6 z tm.1 tm.2.1 (nI tm.2.2.length) N (-(nI 1)) (nI (t + 1)) = some (-(nI 1)))) := by
      intro hne
      rcases ih (t + 1) N (by omega) (by omega) with ⟨u, u1, u2, u3, u4⟩ | ⟨h1, h2⟩
      · exact Or.inl ⟨u, by omega, u2, u3, u4⟩
      · refine Or.inr ⟨fun u g1 g2 => ?_, h2⟩
        rcases Nat.eq_or_lt_of_le g1 with rfl | g1
        · exact hne
        · exact h1 u g1 g2
    have off : jX9_findTerm_58 (lX9_findTerm_6 z tm.1 tm.2.1 (nI tm.2.2.length) N) z tm.1 tm.2.1 (nI tm.2.2.length) (nI t) (nI 0) = lX9_findTerm_6 z tm.1 tm.2.1 (nI tm.2.2.length) N (-(nI 1)) (nI (t + 1)) := by
      unfold jX9_findTerm_58
      obtain ⟨M, hM⟩ : ∃ M, FU = M + 1 := ⟨FU - 1, by have := FU_ge; omega⟩
      rw [hM, lX9_findTerm_63.eq_2]
      simp (disch := omega) only [lit, if_true, ite_self]
      unfold jX9_findTerm_109
      simp (disch := omega) only [lit, litm, if_true, bnd_s, nI_add]
    rw [lX9_findTerm_6.eq_2]
    simp (disch := omega) only [hT.1, nI_leI, if_neg, lit, litm, m1_le0, if_false, inb_t, gd_t, rd_nI, t1, t2, t3, nI_eq]
    by_cases q1 : kd T t = tm.1
    · rw [if_pos q1]
      by_cases q2 : sh T t = tm.2.1
      · rw [if_pos q2]
        by_cases q3 : sz T t = tm.2.2.length
        · rw [if_pos q3]
          obtain ⟨r, e1, e2⟩ := mfind_in hT hW ht q3 ho.2.1 ha (k109 := jX9_findTerm_109 (lX9_findTerm_6 z tm.1 tm.2.1 (nI tm.2.2.length) N) z tm.1 tm.2.1 (nI tm.2.2.length) (nI t)) (w1 := tm.1) (w2 := tm.2.1) tm.2.2.length 0 FU (by omega) (by have := FU_ge; omega)
          unfold jX9_findTerm_58
          simp only [lit]
          rw [e1]
          unfold jX9_findTerm_109
          rcases e2 with ⟨rfl, e2⟩ | ⟨rfl, e2⟩
          · refine Or.inl ⟨t, Nat.le_refl _, ht, key.mpr ⟨q1, q2, q3, e2⟩, ?_⟩
            obtain ⟨M, rfl⟩ : ∃ M, N = M + 1 := ⟨N - 1, by omega⟩
            simp (disch := omega) only [lit, nI_eq, if_neg, bnd_s, nI_add]
            rw [lX9_findTerm_6.eq_2]
            simp (disch := omega) only [lit, nI_leI, Nat.zero_le, if_true, ite_self]
          · simp (disch := omega) only [lit, litm, if_true, bnd_s, nI_add]
            exact no fun e => e2 (key.mp e).2.2.2
        · rw [if_neg q3, off]
          exact no fun e => q3 (key.mp e).2.2.1
      · rw [if_neg q2, off]
        exact no fun e => q2 (key.mp e).2.1
    · rw [if_neg q1, off]
      exact no fun e => q1 (key.mp e).1
theorem made_loop {l : List Nat} (hn : T.length < 120) (hl : l.length ≤ 3) {k92 : fS → Option (Int32 × fS)} : ∀ (d i N : Nat) (z : fS), i + d = l.length → d < N → z 0 4 = nI T.length → (∀ j, j < l.length → z 19 j = nI (l.getD j 0)) → (∀ j, j < i → z 4 (3 * T.length + j) = nI (l.getD j 0)) → ∃ z', lX9_made_59 k92 (nI l.length) N (nI i) z = k92 z' ∧ (∀ j, j < l.length → z' 4 (3 * T.length + j) = nI (l.getD j 0)) ∧ (∀ p, p < 3 * T.length → z' 4 p = z 4 p) ∧ (∀ j, j ≠ 4 → z' j = z j) := by
  intro d
  induction d with
  | zero =>
    intro i N z hi hN h4 h19 hd
    obtain ⟨N, rfl⟩ : ∃ M, N = M + 1 := ⟨N - 1, by omega⟩
    refine ⟨z, ?_, fun j hj => hd j (by omega), fun _ _ => rfl, fun _ _ => rfl⟩
    rw [lX9_made_59.eq_2]
    simp (disch := omega) only [nI_leI, if_pos]
  | succ d ih =>
    intro i N z hi hN h4 h19 hd
    obtain ⟨N, rfl⟩ : ∃ M, N = M + 1 := ⟨N - 1, by omega⟩
    obtain ⟨z', e1, e2, e3, e4⟩ := ih (i + 1) N (wrr z 4 (upd (z 4) (3 * T.length + i) (nI (l.getD i 0)))) (by omega) (by omega) (by rw [wrr_n (by omega)]; exact h4) (fun j hj => by rw [wrr_n (by omega)]; exact h19 j hj) (fun j hj => by
      rw [wrr_e]
      by_cases e : j = i
      · subst e; rw [upd_e]
      · rw [upd_n (by omega)]; exact hd j (by omega))
    refine ⟨z', ?_, e2, fun p hp => by rw [e3 p hp, wrr_e, upd_n (by omega)], fun j hj => (e4 j hj).trans (wrr_n hj)⟩
    rw [lX9_made_59.eq_2]
    have := h19 i (by omega)
    simp (disch := omega) only [nI_leI, if_neg, inb_t, gd_t, h4, lit, nI_mul, nI_add, rd_nI, this, wr_nI, bnd_s]
    exact e1
theorem made_ok (hT : MT T z) (hW : WT T) (hU : Uq T) (ho : OkT T.length tm) (ha : ∀ i, i < tm.2.2.length → z 19 i = nI (tm.2.2.getD i 0)) : (∃ t, mkT T tm = some (t, T) ∧ t < T.length ∧ fX9_made z tm.1 tm.2.1 (nI tm.2.2.length) = some (nI t, z)) ∨ (mkT T tm = none ∧ fX9_made z tm.1 tm.2.1 (nI tm.2.2.length) = some (-(nI 1), z)) ∨ (mkT T tm = some (T.length, T ++ [tm]) ∧ T.length < 120 ∧ ∃ z', fX9_made z tm.1 tm.2.1 (nI tm.2.2.length) = some (nI T.length, z') ∧ MT (T ++ [tm]) z' ∧ (∀ j, 4 < j → z' j = z j) ∧ (∀ f, f ≠ 4 → f ≠ 30 → z' 0 f = z 0 f) ∧ z' 0 30 = nI 0) := by
  have hT1 := hW.1
  have ho' : OkT 120 tm := ⟨ho.1, fun p hp => by have := ho.2.1 p hp; omega, ho.2.2⟩
  have ho1 := ho.1
  have hf : fX9_findTerm z tm.1 tm.2.1 (nI tm.2.2.length) = lX9_findTerm_6 z tm.1 tm.2.1 (nI tm.2.2.length) FU (-(nI 1)) (nI 0) := id rfl
  unfold fX9_made
  rw [hf]
  rcases mfind_loop hT hW ho' ha T.length 0 FU (by omega) (by have := FU_ge; omega) with ⟨u, _, u2, u3, u4⟩ | ⟨hn, e⟩
  · refine Or.inl ⟨u, mkT_old hU u2 u3, u2, ?_⟩
    rw [u4, bp_s]
    simp (disch := omega) only [lit, nI_leI, if_pos]
  · rw [e, bp_s]
    have hn' : ∀ t, t < T.length → gT T t ≠ tm := fun t ht => hn t (Nat.zero_le _) ht
    by_cases hl : T.length < 120
    · refine Or.inr (Or.inr ⟨mkT_new hn' hl, hl, ?_⟩)
      obtain ⟨z1, hz1⟩ : ∃ y : fS, y = wrr (wrr (wrr z 1 (upd (z 1) T.length tm.1)) 2 (upd (z 2) T.length tm.2.1)) 3 (upd (z 3) T.length (nI tm.2.2.length)) := ⟨_, rfl⟩
      have f0 : ∀ j, j = 0 ∨ 3 < j → z1 j = z j := fun j hj => by rw [hz1]; simp (disch := omega) only [wrr_n]
      obtain ⟨z2, e1, e2, e3, e4⟩ := made_loop (T := T) hl ho1 (k92 := jX9_made_92) tm.2.2.length 0 FU z1 (by omega) (by have := FU_ge; omega) (by rw [f0 0 (by omega)]; exact hT.1) (fun j hj => by rw [f0 19 (by omega)]; exact ha j hj) (fun j hj => by omega)
      have g0 : z2 0 = z 0 := by rw [e4 0 (by omega), f0 0 (by omega)]
      refine ⟨wrr z2 0 (upd (upd (z 0) 4 (nI (T.length + 1))) 30 (nI 0)), ?_, ⟨?_, ?_⟩, ?_, ?_, ?_⟩
      · simp (disch := omega) only [lit, m1_le0, if_false, hT.1, nI_eq, if_neg, inb_t, gd_t, wr_nI, bnd_s, wrr_n]
        rw [← hz1, e1]
        unfold jX9_made_92
        have : z2 0 4 = nI T.length := by rw [g0]; exact hT.1
        simp (disch := omega) only [wf_w, bnd_s, this, lit, nI_add, wrr_e, wrr_wrr, upd_n, upd_e, nI_sub, g0]
        simp only [Nat.add_sub_cancel]
      · rw [wrr_e, upd_n (by omega), upd_e]; simp
      · intro t ht
        have lenT : (T ++ [tm]).length = T.length + 1 := by simp
        rw [lenT] at ht
        have hag := AgT.app T [tm] (Nat.le_refl _)
        have ksh : kd (T ++ [tm]) T.length = tm.1 ∧ sh (T ++ [tm]) T.length = tm.2.1 ∧ pts (T ++ [tm]) T.length = tm.2.2 := by
          have := gT_r (T := T) (tm := tm)
          exact ⟨congrArg (fun x : Tm => x.1) this, congrArg (fun x : Tm => x.2.1) this, congrArg (fun x : Tm => x.2.2) this⟩
        have szn : sz (T ++ [tm]) T.length = tm.2.2.length := congrArg List.length ksh.2.2
        have ptn : ∀ i, pt (T ++ [tm]) T.length i = tm.2.2.getD i 0 := fun i => congrArg (fun l : List Nat => l.getD i 0) ksh.2.2
        have d1 : z2 1 = upd (z 1) T.length tm.1 := by rw [e4 1 (by omega), hz1]; simp (disch := omega) only [wrr_n, wrr_e]
        have d2 : z2 2 = upd (z 2) T.length tm.2.1 := by rw [e4 2 (by omega), hz1]; simp (disch := omega) only [wrr_n, wrr_e]
        have d3 : z2 3 = upd (z 3) T.length (nI tm.2.2.length) := by rw [e4 3 (by omega), hz1]; simp (disch := omega) only [wrr_n, wrr_e]
        simp (disch := omega) only [wrr_n, d1, d2, d3]
        by_cases e : t = T.length
        · subst e
          rw [upd_e, upd_e, upd_e, ksh.1, ksh.2.1, szn]
          exact ⟨rfl, rfl, rfl, fun i hi => by rw [ptn i]; exact e2 i hi⟩
        · have ht' : t < T.length := by omega
          have ws := (hW.2 t ht').1
          rw [upd_n e, upd_n e, upd_n e, hag.kd ht', hag.sh ht', hag.sz ht']
          obtain ⟨c1, c2, c3, c4⟩ := hT.2 t ht'
          exact ⟨c1, c2, c3, fun i hi => by rw [hag.pt ht' i, e3 _ (by omega), f0 4 (by omega)]; exact c4 i hi⟩
      · intro j hj
        rw [wrr_n (by omega), e4 j (by omega), f0 j (by omega)]
      · intro f h1 h2
        rw [wrr_e, upd_n h2, upd_n h1]
      · rw [wrr_e, upd_e]
    · refine Or.inr (Or.inl ⟨mkT_full hn' hl, ?_⟩)
      have e120 : T.length = 120 := by omega
      simp (disch := omega) only [lit, m1_le0, if_false, hT.1, e120, if_true]
end MM
