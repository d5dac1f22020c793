section CHK2
variable {T : List Tm} {S : List Sy} {tk : Nat → Bool} {zX zM : fS}
theorem isRight_ok {K k : Nat} (hs : StA T.length K zX zM) (hk : k < K) (hX : HT T zX) (hM : MT T zM) (hW : WT T) (hSx : XSy S tk zX) (hSm : MSy S tk zM) (hl : S.length ≤ 100) : ∃ r, (r = 0 ∨ r = 1) ∧ fX6_isRight zX (nI k) = some (nI r) ∧ fX9_isRight zM (nI k) = some (nI r) := by
  have hT1 := hW.1
  have hs' := hs
  obtain ⟨s1, s2, s3, s4⟩ := hs'
  obtain ⟨w1, w2, w3, a, b, ha, hb, a1, a2, b1, b2⟩ := s4 k hk
  unfold fX6_isRight fX9_isRight
  simp (config := { maxSteps := 4000000 }) (disch := omega) only [lit, inb_t, gd_t, rd_nI, w1, w2, w3, a1, a2, b1, b2, bnd_s]
  have i3 := idx (x := zM 15 k) (n := k) (by omega)
  have O : ∀ x y : Option Int32, x = some (nI 0) → y = some (nI 0) → ∃ r, (r = 0 ∨ r = 1) ∧ x = some (nI r) ∧ y = some (nI r) := fun x y e1 e2 => ⟨0, Or.inl rfl, e1, e2⟩
  by_cases q0 : zM 12 k = nI 0
  · simp only [if_pos q0]
    -- by a saying
    rcases idx (x := zM 15 k) (n := S.length) (by omega) with g | ⟨g1, g2⟩ | ⟨m, m1, m2⟩
    · refine O _ _ ?_ ?_
      · unfold fX6_isSaid fX5_has
        simp only [lit, if_pos g, bp_s, if_true, isb_0, gd_t]
      · simp only [if_pos g]
    · refine O _ _ ?_ ?_
      · unfold fX6_isSaid fX5_has
        simp only [lit, if_neg g1, hSx.1, if_pos g2, bp_s, if_true, isb_0, gd_t]
      · simp only [if_neg g1, hSm.1, if_pos g2]
    · obtain ⟨t1, t2, t3, t4⟩ := hSm.2 m m1
      have i1 := isTaken_ok hSx (show m < 100 by omega)
      have i2 := isSame_ok hSx hl m1
      have i3 := left_ok hSx hl m1
      have i4 := right_ok hSx hl m1
      unfold fX6_isSaid fX5_has jX6_isSaid_67 jX9_isRight_136
      rw [m2]
      simp (disch := omega) only [lit, nI_ltI, nI_leI, if_neg, hSx.1, hSm.1, bp_s, nI_eq, i1, i2, i3, i4, inb_t, gd_t, rd_nI, t1, t2, t3, t4]
      cases h1 : tk m
      · simp only [bI_f, if_true, isb_0, gd_t, bp_s]
        exact O _ _ rfl rfl
      · cases h2 : sm S m
        · simp (disch := omega) only [bI_f, bI_t, nI_eq, if_neg, if_true, isb_0, gd_t, bp_s]
          exact O _ _ rfl rfl
        · simp (disch := omega) only [bI_t, nI_eq, if_neg]
          by_cases c1 : nI (sa S m) = nI a
          · by_cases c2 : nI (sb S m) = nI b
            · simp only [if_pos c1, if_pos c2, bp_s, isb_1, gd_t]
              exact ⟨1, Or.inr rfl, rfl, rfl⟩
            · by_cases c3 : nI (sa S m) = nI b
              · by_cases c4 : nI (sb S m) = nI a
                · simp only [if_pos c1, if_neg c2, if_pos c3, if_pos c4, bp_s, isb_1, gd_t]
                  exact ⟨1, Or.inr rfl, rfl, rfl⟩
                · simp only [if_pos c1, if_neg c2, if_pos c3, if_neg c4, bp_s, isb_0, gd_t]
                  exact O _ _ rfl rfl
              · simp only [if_pos c1, if_neg c2, if_neg c3, bp_s, isb_0, gd_t]
                exact O _ _ rfl rfl
          · by_cases c3 : nI (sa S m) = nI b
            · by_cases c4 : nI (sb S m) = nI a
              · simp only [if_neg c1, if_pos c3, if_pos c4, bp_s, isb_1, gd_t]
                exact ⟨1, Or.inr rfl, rfl, rfl⟩
              · simp only [if_neg c1, if_pos c3, if_neg c4, bp_s, isb_0, gd_t]
                exact O _ _ rfl rfl
            · simp only [if_neg c1, if_neg c3, bp_s, isb_0, gd_t]
              exact O _ _ rfl rfl
  · simp only [if_neg q0]
    by_cases q1 : zM 12 k = nI 1
    · simp only [if_pos q1]
      split
      · exact ⟨1, Or.inr rfl, rfl, rfl⟩
      · exact O _ _ rfl rfl
    · simp only [if_neg q1]
      by_cases q2 : zM 12 k = nI 2
      · simp only [if_pos q2]
        unfold fX9_isStep fX6_says
        rcases i3 with g | ⟨g1, g2⟩ | ⟨m, m1, m2⟩
        · have g' : ¬ nI k ≤ zM 15 k := by
            rw [nle_lt]
            rw [Int32.lt_iff_toInt_lt, nI_toInt (by omega)] at g ⊢
            omega
          simp only [lit, if_pos g, if_neg g', bp_s, if_true]
          exact O _ _ rfl rfl
        · simp only [lit, if_neg g1, if_pos g2, bp_s, if_true]
          exact O _ _ rfl rfl
        · obtain ⟨_, _, _, c, d, _, _, c1, c2, d1, d2⟩ := s4 m (by omega)
          rw [m2]
          simp (disch := omega) only [lit, nI_leI, nI_ltI, if_neg, s2, inb_t, gd_t, rd_nI, c1, c2, d1, d2, bp_s, nI_eq]
          split
          · split
            · refine ⟨1, Or.inr rfl, ?_, rfl⟩
              simp (disch := omega) only [bp_s, nI_eq, if_neg]
            · refine O _ _ ?_ rfl
              simp only [bp_s, if_true]
          · refine O _ _ ?_ rfl
            simp only [bp_s, if_true]
      · simp only [if_neg q2]
        by_cases q3 : zM 12 k = nI 3
        · simp only [if_pos q3]
          unfold fX9_isStep fX6_isChained
          rcases i3 with g | ⟨g1, g2⟩ | ⟨m, m1, m2⟩
          · simp only [lit, if_pos g, bp_s, if_true, isb_0, gd_t]
            exact O _ _ rfl rfl
          · simp only [lit, if_neg g1, if_pos g2, bp_s, if_true, isb_0, gd_t]
            exact O _ _ rfl rfl
          · obtain ⟨_, _, _, c, d, _, _, c1, c2, d1, d2⟩ := s4 m (by omega)
            rw [m2]
            rcases idx (x := zM 16 k) (n := k) (by omega) with g | ⟨g1, g2⟩ | ⟨n, n1, n2⟩
            · simp (disch := omega) only [lit, nI_leI, nI_ltI, if_neg, if_pos g, bp_s, nI_eq, if_true, isb_0, gd_t]
              exact O _ _ rfl rfl
            · have g3 : ¬ zM 16 k < nI k := nlt_le.mpr g2
              simp (disch := first | omega | assumption) only [lit, nI_leI, nI_ltI, if_neg, if_neg g1, if_pos g2, if_neg g3, bp_s, nI_eq, if_true, isb_0, gd_t]
              exact O _ _ rfl rfl
            · obtain ⟨_, _, _, e, f, _, _, e1, e2, f1, f2⟩ := s4 n (by omega)
              rw [n2]
              simp (disch := omega) only [lit, nI_leI, nI_ltI, if_neg, if_pos, bp_s, nI_eq, inb_t, gd_t, rd_nI, a1, b1, c1, c2, d1, d2, e1, e2, f1, f2]
              split
              · split
                · split
                  · refine ⟨1, Or.inr rfl, ?_, rfl⟩
                    simp only [bp_s, isb_1, gd_t]
                  · refine O _ _ ?_ rfl
                    simp only [bp_s, isb_0, gd_t]
                · refine O _ _ ?_ rfl
                  simp only [bp_s, isb_0, gd_t]
              · refine O _ _ ?_ rfl
                simp only [bp_s, isb_0, gd_t]
        · simp only [if_neg q3]
          by_cases q4 : zM 12 k = nI 4
          · simp only [if_pos q4]
            obtain ⟨k1, k2, k3, _⟩ := hX.2 a ha
            obtain ⟨l1, l2, l3, _⟩ := hX.2 b hb
            obtain ⟨k1', k2', k3', _⟩ := hM.2 a ha
            obtain ⟨l1', l2', l3', _⟩ := hM.2 b hb
            have wa := (hW.2 a ha).1
            have wb := (hW.2 b hb).1
            -- with the turn as it is claimed
            have main : ∀ tu : Bool, (tu = true ↔ zM 15 k = nI 1) → ∃ r, (r = 0 ∨ r = 1) ∧ fX6_isByParts zX (nI k) (nI a) (nI b) (bI tu) = some (nI r) ∧ fX9_isRightByParts zM (nI k) = some (nI r) := by
              intro tu htu
              unfold fX6_isByParts fX9_isRightByParts fX7_kindOf fX7_sizeOf fX7_shownBy jX6_isByParts_88 jX9_isRightByParts_95
              simp (disch := omega) only [lit, inb_t, gd_t, rd_nI, k1, k2, k3, l1, l2, l3, k1', k2', k3', l1', l2', l3', a2, b2, bp_s, bnd_s, nI_eq]
              by_cases c0 : sz T a = 0
              · simp only [if_pos c0]; exact O _ _ rfl rfl
              · simp only [if_neg c0]
                by_cases c1 : kd T a = kd T b
                · simp only [if_pos c1]
                  by_cases c2 : sh T a = sh T b
                  · simp only [if_pos c2]
                    by_cases c3 : sz T a = sz T b
                    · simp only [if_pos c3]
                      by_cases c4 : kd T b = nI 4
                      · have c4' : kd T a = nI 4 := c1.trans c4
                        have z2 := (hW.2 a ha).2.2.2.1 c4'
                        simp only [c1, if_pos c4]
                        obtain ⟨r, r0, e1, e2⟩ := parts_loop hs hk hX hM hW ha hb c3 (tu := tu) (fun _ => z2) (sz T a) 0 FU (by omega) (by have := FU_ge; omega)
                        cases tu
                        · have hne : ¬ zM 15 k = nI 1 := fun e => by have := htu.mpr e; cases this
                          simp only [bI_f, if_true, if_neg hne]
                          exact ⟨r, r0, e1, e2⟩
                        · have he := htu.mp rfl
                          simp (disch := omega) only [bI_t, nI_eq, if_neg, if_pos he]
                          exact ⟨r, r0, e1, e2⟩
                      · simp only [c1, if_neg c4]
                        obtain ⟨r, r0, e1, e2⟩ := parts_loop hs hk hX hM hW ha hb c3 (tu := false) (fun h => by cases h) (sz T a) 0 FU (by omega) (by have := FU_ge; omega)
                        simp only [ite_self]
                        exact ⟨r, r0, e1, e2⟩
                    · simp only [if_neg c3]; exact O _ _ rfl rfl
                  · simp only [if_neg c2, ite_self]; exact O _ _ rfl rfl
                · simp only [if_neg c1]; exact O _ _ rfl rfl
            by_cases c : zM 15 k = nI 1
            · obtain ⟨r, r0, e1, e2⟩ := main true ⟨fun _ => c, fun _ => rfl⟩
              rw [bI_t] at e1
              have hb : isb (nI r) = true := by rcases r0 with rfl | rfl; exact isb_0; exact isb_1
              simp only [if_pos c, e1, e2, bp_s, hb, gd_t]
              exact ⟨r, r0, rfl, rfl⟩
            · obtain ⟨r, r0, e1, e2⟩ := main false ⟨fun h => absurd h (by simp), fun h => absurd h c⟩
              rw [bI_f] at e1
              have hb : isb (nI r) = true := by rcases r0 with rfl | rfl; exact isb_0; exact isb_1
              simp only [if_neg c, e1, e2, bp_s, hb, gd_t]
              exact ⟨r, r0, rfl, rfl⟩
          · simp only [if_neg q4]
            -- by rows
            have rows : ∀ w, w < 2 → zM 12 k - nI 5 = nI w → ∃ r, (r = 0 ∨ r = 1) ∧ (bp (fX6_isOfRows zX (nI k) (zM 15 k) (nI w)) fun r153 => gd (isb r153) (some r153)) = some (nI r) ∧ (bp (fX9_isStep zM (zM 15 k) (nI k)) fun r288 => if r288 = nI 0 then some (nI 0) else bp (fX9_isOfRows zM (zM 15 k) (nI a) (nI b) (zM 12 k - nI 5)) fun r307 => if r307 = nI 0 then some (nI 0) else some (nI 1)) = some (nI r) := by
              intro w hw ew
              rw [ew]
              rcases i3 with g | ⟨g1, g2⟩ | ⟨m, m1, m2⟩
              · unfold fX9_isStep fX6_isOfRows
                simp only [lit, if_pos g, bp_s, if_true, isb_0, gd_t]
                exact O _ _ rfl rfl
              · unfold fX9_isStep fX6_isOfRows
                simp only [lit, if_neg g1, if_pos g2, bp_s, if_true, isb_0, gd_t]
                exact O _ _ rfl rfl
              · rw [m2]
                obtain ⟨r, r0, e1, e2⟩ := rows_ok hs hk m1 hX hM hW hw a1 b1
                have hb : isb (nI r) = true := by rcases r0 with rfl | rfl; exact isb_0; exact isb_1
                unfold fX9_isStep
                simp (disch := omega) only [lit, nI_ltI, nI_leI, if_neg, e1, e2, bp_s, nI_eq, hb, gd_t]
                refine ⟨r, r0, rfl, ?_⟩
                rcases r0 with rfl | rfl
                · simp only [if_true]
                · simp (disch := omega) only [if_neg]
            by_cases q5 : zM 12 k = nI 5
            · simp only [if_pos q5]
              exact rows 0 (by omega) (by rw [q5, nI_sub (by omega)])
            · simp only [if_neg q5]
              by_cases q6 : zM 12 k = nI 6
              · simp only [if_pos q6]
                exact rows 1 (by omega) (by rw [q6, nI_sub (by omega)])
              · simp only [if_neg q6]
                exact O _ _ rfl rfl
theorem check_loop {K : Nat} {a b : Int32} (hs : StA T.length K zX zM) (hX : HT T zX) (hM : MT T zM) (hW : WT T) (hSx : XSy S tk zX) (hSm : MSy S tk zM) (hl : S.length ≤ 100) {kX kM : Option Int32} (hk : kX = kM) : ∀ (d k N : Nat), k + d = K → d < N → lX8_check_2 kX zX a b N (nI k) = lX9_check_2 kM zM a b N (nI k) := by
  subst hk
  have h1 := hs.1
  have h2 := hs.2.1
  have h3 := hs.2.2.1
  intro d
  induction d with
  | zero =>
    intro k N hk hN
    obtain ⟨N, rfl⟩ : ∃ M, N = M + 1 := ⟨N - 1, by omega⟩
    rw [lX8_check_2.eq_2, lX9_check_2.eq_2]
    unfold fX6_count
    simp (disch := omega) only [h2, h3, bp_s, nI_leI, if_pos]
  | succ d ih =>
    intro k N hk hN
    obtain ⟨N, rfl⟩ : ∃ M, N = M + 1 := ⟨N - 1, by omega⟩
    obtain ⟨r, r0, e1, e2⟩ := isRight_ok hs (show k < K by omega) hX hM hW hSx hSm hl
    rw [lX8_check_2.eq_2, lX9_check_2.eq_2]
    unfold fX6_count
    simp (disch := omega) only [h2, h3, bp_s, nI_leI, if_neg, e1, e2, bnd_s, lit, nI_add, ih (k + 1) N (by omega) (by omega)]
end CHK2
theorem check_sim {T : List Tm} {S : List Sy} {tk : Nat → Bool} {zX zM : fS} {K : Nat} {a b : Int32} (hs : StA T.length K zX zM) (hX : HT T zX) (hM : MT T zM) (hW : WT T) (hSx : XSy S tk zX) (hSm : MSy S tk zM) (hl : S.length ≤ 100) : ∀ (d k N : Nat) {q : Option Int32}, (∃ r, q = some r) → k + d = K → d < N → ∃ r, lX8_check_2 q zX a b N (nI k) = some r := by
  have h1 := hs.1
  have h2 := hs.2.1
  intro d
  induction d with
  | zero =>
    intro k N q ⟨r, hr⟩ hk hN
    obtain ⟨N, rfl⟩ : ∃ M, N = M + 1 := ⟨N - 1, by omega⟩
    refine ⟨r, ?_⟩
    rw [lX8_check_2.eq_2]
    unfold fX6_count
    simp (disch := omega) only [h2, bp_s, nI_leI, if_pos]
    exact hr
  | succ d ih =>
    intro k N q hr hk hN
    obtain ⟨N, rfl⟩ : ∃ M, N = M + 1 := ⟨N - 1, by omega⟩
    obtain ⟨r, r0, e1, e2⟩ := isRight_ok hs (show k < K by omega) hX hM hW hSx hSm hl
    obtain ⟨r', e'⟩ := ih (k + 1) N hr (by omega) (by omega)
    rw [lX8_check_2.eq_2]
    unfold fX6_count
    simp (disch := omega) only [h2, bp_s, nI_leI, if_neg, e1, bnd_s, lit, nI_add]
    rcases r0 with rfl | rfl
    · exact ⟨nI k, by rw [if_pos rfl]⟩
    · exact ⟨r', by rw [if_neg (nno 1 0 (by omega) (by omega) (by omega))]; exact e'⟩
theorem s_check : st_check Rel := by
  intro i zX zM a b _ hr
  obtain ⟨h0, T, S, tk, lv, rm, ps, pt, h⟩ := id hr
  obtain ⟨K, hs⟩ := h.2.2.2.1.2.2.1
  have hs : StA T.length K zX zM := hs
  have h1 := hs.1
  have h2 := hs.2.1
  have h3 := hs.2.2.1
  have ek : ∃ r, jX8_check_32 zX a b = some r ∧ jX9_check_26 zM a b = some r := by
    unfold jX8_check_32 jX9_check_26 fX6_count fX6_says
    simp only [h2, h3, bp_s, lit, litm]
    by_cases q : K = 0
    · subst q
      refine ⟨nI 0, ?_, ?_⟩
      · simp (disch := omega) only [z_dec, m1_lt0, if_true, bp_s]
      · simp (disch := omega) only [nI_leI, Nat.le_refl, if_true]
    · obtain ⟨_, _, _, c, d, _, _, c1, c2, d1, d2⟩ := hs.2.2.2 (K - 1) (by omega)
      simp (disch := omega) only [nI_sub, nI_ltI, nI_leI, if_neg, inb_t, gd_t, rd_nI, c1, c2, d1, d2]
      by_cases q1 : nI c = a
      · simp only [if_pos q1]
        by_cases q2 : nI d = b
        · simp (disch := omega) only [if_pos q2, bp_s, nI_eq, if_neg]
          exact ⟨_, rfl, rfl⟩
        · simp (disch := omega) only [if_neg q2, bp_s, if_true]
          exact ⟨_, rfl, rfl⟩
      · simp (disch := omega) only [if_neg q1, bp_s, if_true]
        exact ⟨_, rfl, rfl⟩
  obtain ⟨r, k1, k2⟩ := ek
  have hl := h.2.2.1.1.1
  have e1 := check_loop (a := a) (b := b) hs h.1.1.2.2.1 h.2.1.1 h.1.1.1 h.1.2.1 h.2.1.2.1 hl (kX := jX8_check_32 zX a b) (kM := jX9_check_26 zM a b) (k1.trans k2.symm) K 0 FU (by omega) (by have := FU_ge; omega)
  obtain ⟨r', e2⟩ := check_sim (a := a) (b := b) hs h.1.1.2.2.1 h.2.1.1 h.1.1.1 h.1.2.1 h.2.1.2.1 hl K 0 FU (q := jX8_check_32 zX a b) ⟨r, k1⟩ (by omega) (by have := FU_ge; omega)
  refine ⟨r', ?_, ?_, up_ok hr⟩
  · unfold fX8_check; simp only [lit]; exact e2
  · unfold fX9_check; simp only [lit]; rw [← e1]; exact e2
