/-! the face: sayings and judgements -/
theorem bI_if (c : Bool) : (if bI c = nI 0 then some (nI 0) else some (nI 1)) = some (bI c) := by
  cases c
  · rw [bI_f, if_pos rfl]
  · rw [bI_t, if_neg (nno 1 0 (by omega) (by omega) (by omega))]
section FACE2
variable {T : List Tm} {S : List Sy} {tk : Nat → Bool} {lv : Nat} {rm : Nat → Nat → Bool} {ps pt i : Nat} {zX zM z z' : fS} {a b : Nat}
theorem stand_ok (h : RQ i T S tk lv rm ps pt zX zM) (ha : a < T.length) (hb : b < T.length) : fX2_standing zX = some (zX 17 3) ∧ pcell (zX 17 3) = ps ∧ ∃ r, fX4_isOne ps zX (nI a) (nI b) = some (nI r) ∧ ((r = 1 ∧ One T T.length (EX S (TK tk) none) a b) ∨ (r = 0 ∧ ¬ One T T.length (EX S (TK tk) none) a b)) := by
  obtain ⟨ro, hj⟩ := h.1.2.2.2.2
  exact ⟨id rfl, h.1.2.2.1.1, isOne_ok h.1.1.1 hj ha hb⟩
theorem judgeM_ok (hW : WT T) (hS : WS T.length S) (ht : ∀ s, tk s = true → s < S.length) (h : RM T S tk z) (h1 : fX9_isTerm z (nI a) = some (nI 1)) (h2 : fX9_isTerm z (nI b) = some (nI 1)) (ha : a < T.length) (hb : b < T.length) : ∃ r z', fX9_judge z (nI a) (nI b) = some (nI r, z') ∧ RM T S tk z' ∧ MFr 0 30 z z' ∧ ((r = 1 ∧ One T T.length (EX S (TK tk) none) a b) ∨ (r = 0 ∧ ¬ One T T.length (EX S (TK tk) none) a b ∧ Cl T T.length (EX S (TK tk) (some (true, a, b))) (UX S (TK tk) (some (true, a, b)))) ∨ (r = 2 ∧ ¬ One T T.length (EX S (TK tk) none) a b ∧ ¬ Cl T T.length (EX S (TK tk) (some (true, a, b))) (UX S (TK tk) (some (true, a, b))))) := by
  obtain ⟨r, z1, a1, a2, a3, a4⟩ := areOne_ok hW hS ht h ha hb
  unfold fX9_judge
  rw [h1, bp_s, h2, bp_s, a1, bd_s]
  rcases a2 with ⟨rfl, a2⟩ | ⟨rfl, a2⟩
  · refine ⟨1, z1, ?_, a3, a4, Or.inl ⟨rfl, a2⟩⟩
    simp (disch := omega) only [lit, nI_eq, if_neg]
  · obtain ⟨b1, b2, b3⟩ := a3
    have hx : ∀ c' a' b', some (true, a, b) = some (c', a', b') → a' < T.length ∧ b' < T.length := fun c' a' b' e => by cases e; exact ⟨ha, hb⟩
    obtain ⟨z2, c1, c2, c3⟩ := takeCourt_ok hS.1 ht b2
    obtain ⟨z3, d1, d2, d3, d4⟩ := add_ok (c := true) (a := a) (b := b) c2
    have f2 : MFr 0 30 z1 z3 := ⟨fun j h0 h5 _ h21 _ => by rw [d3 j (by omega) (by omega) (by omega) h21, c3 j h21], fun j s h5 hs => by rw [d4 j s hs, c3 j (by omega)], fun g _ _ => by rw [d3 0 (by omega) (by omega) (by omega) (by omega), c3 0 (by omega)]⟩
    have hT2 := f2.mt b1 (Or.inl rfl) (by omega)
    have hM2 := f2.msy hS.1 b2 (Or.inl rfl) (by omega)
    obtain ⟨r, z4, e1, e2, e3, e4, e5⟩ := clashes_ok hW hT2 (MI_of hS hx hM2 d2)
    have f3 : MFr 0 30 z3 z4 := ⟨fun j h0 _ h20 _ _ => e4 j h20 h0, fun j s h5 _ => by rw [e4 j (by omega) (by omega)], fun g hg _ => by rw [e5, upd_n hg]⟩
    have hR : RM T S tk z4 := ⟨f3.mt hT2 (Or.inl rfl) (by omega), f3.msy hS.1 hM2 (Or.inl rfl) (by omega), Or.inl (by rw [e5, upd_e])⟩
    rcases e2 with ⟨rfl, e2⟩ | ⟨rfl, e2⟩
    · refine ⟨0, z4, ?_, hR, (a4.tr f2).tr f3, Or.inr (Or.inl ⟨rfl, a2, e2⟩)⟩
      rw [bI_t] at d1
      simp (disch := omega) only [lit, nI_eq, if_neg, if_true, c1, bp_s, d1, e1, bd_s]
    · refine ⟨2, z4, ?_, hR, (a4.tr f2).tr f3, Or.inr (Or.inr ⟨rfl, a2, e2⟩)⟩
      rw [bI_t] at d1
      simp (disch := omega) only [lit, nI_eq, if_neg, if_true, c1, bp_s, d1, e1, bd_s]
/-- clashing with an unlike saying, of what does not clash itself -/
theorem cl_unlike (hcon : ¬ Cl T T.length (EX S (TK tk) none) (UX S (TK tk) none)) {J : Nat → Prop} (hJ : ∀ s, J s → TK tk s) : One T T.length (EX S J none) a b ↔ Cl T T.length (EX S J (some (false, a, b))) (UX S J (some (false, a, b))) := by
  have e : EX S J (some (false, a, b)) = EX S J none := by
    funext u v
    refine propext ⟨?_, ?_⟩
    · rintro (h | h)
      · exact Or.inl h
      · cases h
    · rintro (h | h)
      · exact Or.inl h
      · cases h
  rw [e]
  constructor
  · intro h
    exact Or.inl ⟨a, b, Or.inr rfl, h⟩
  · rintro (⟨c, d, (⟨s, s1, s2, s3⟩ | h), ho⟩ | ⟨u, v, u1, u2, u3, u4, u5, u6⟩)
    · exact absurd (Or.inl ⟨c, d, Or.inl ⟨s, s1, hJ s s2, s3⟩, ho.mono fun _ _ e => EX_mono hJ e⟩) hcon
    · cases h; exact ho
    · exact absurd (Or.inr ⟨u, v, u1, u2, u3, u4, u5, u6.mono fun _ _ e => EX_mono hJ e⟩) hcon
end FACE2
theorem s_say : st_say Rel := by
  intro i zX zM a b _ ⟨h0, T, S, tk, lv, rm, ps, pt, h⟩
  unfold fX8_say fX9_say fX9_saidNow
  rcases has_ok h a with ⟨x1, x2⟩ | ⟨m, m1, rfl, x1, x2⟩
  · refine ⟨-(nI 1), _, _, ?_, ?_, h.fin (nI 1)⟩
    · simp only [x1, bp_s, lit, if_true, refX, bd_s]
    · simp only [x2, bp_s, lit, if_true, refM, bd_s]
  · rcases has_ok h b with ⟨y1, y2⟩ | ⟨n, n1, rfl, y1, y2⟩
    · refine ⟨-(nI 1), _, _, ?_, ?_, h.fin (nI 1)⟩
      · simp (disch := omega) only [x1, y1, bp_s, lit, nI_eq, if_neg, if_true, refX, bd_s]
      · simp (disch := omega) only [x2, y2, bp_s, lit, nI_eq, if_neg, if_true, refM, bd_s]
    · simp (disch := omega) only [x1, y1, x2, y2, bp_s, lit, nI_eq, if_neg]
      rcases full_ok h with ⟨f1, f2, f3⟩ | ⟨f2, f3⟩
      · rw [f2, bp_s]
        simp only [if_true, if_neg f3]
        rcases try_both h m1 n1 f1 with ⟨z1, z2, zM1, t1, t2, t3, t4, _⟩ | ⟨z1, z2, z3, zM1, zM2, t1, t2, t3, t4, t5, t6, _⟩
        · refine ⟨-(nI 1), _, _, ?_, ?_, t4.fin (nI 4)⟩
          · rw [t1, bd_s]
            simp (disch := omega) only [nI_eq, if_neg, t2, bp_s, refX, bd_s]
          · rw [t3, bd_s]
            simp (disch := omega) only [nI_eq, if_neg, refM, bd_s]
        · refine ⟨nI S.length, _, _, ?_, ?_, t6.fin (nI 0)⟩
          · rw [t1, bd_s]
            simp (disch := omega) only [if_true, t2, bp_s, t3, doneX, bd_s]
          · rw [t4, bd_s]
            simp (disch := omega) only [if_true, t5, doneM, bd_s]
      · rw [f2, bp_s]
        refine ⟨-(nI 1), _, _, ?_, ?_, h.fin (nI 3)⟩
        · simp (disch := omega) only [nI_eq, if_neg, refX, bd_s]
        · simp (disch := omega) only [f3, if_true, refM, bd_s]
theorem s_unlike : st_unlike Rel := by
  intro i zX zM a b _ ⟨h0, T, S, tk, lv, rm, ps, pt, h⟩
  unfold fX8_unlike fX9_unlike fX9_saidNow
  rcases has_ok h a with ⟨x1, x2⟩ | ⟨m, m1, rfl, x1, x2⟩
  · refine ⟨-(nI 1), _, _, ?_, ?_, h.fin (nI 1)⟩
    · simp only [x1, bp_s, lit, if_true, refX, bd_s]
    · simp only [x2, bp_s, lit, if_true, refM, bd_s]
  · rcases has_ok h b with ⟨y1, y2⟩ | ⟨n, n1, rfl, y1, y2⟩
    · refine ⟨-(nI 1), _, _, ?_, ?_, h.fin (nI 1)⟩
      · simp (disch := omega) only [x1, y1, bp_s, lit, nI_eq, if_neg, if_true, refX, bd_s]
      · simp (disch := omega) only [x2, y2, bp_s, lit, nI_eq, if_neg, if_true, refM, bd_s]
    · simp (disch := omega) only [x1, y1, x2, y2, bp_s, lit, nI_eq, if_neg]
      rcases full_ok h with ⟨f1, f2, f3⟩ | ⟨f2, f3⟩
      · rw [f2, bp_s]
        simp only [if_true, if_neg f3]
        obtain ⟨g1, g2, r, g3, g4⟩ := stand_ok h m1 n1
        have h' := h
        obtain ⟨h1, h2, h3, h4, h5⟩ := h'
        have hW := h1.1.1
        have ht := h3.2.1.1
        have hcon := h3.2.1.2
        obtain ⟨r', zM1, w1, w2, w3, w4⟩ := wouldClashM_ok (c := false) hW h3.1 ht h2 m1 n1
        rw [bI_f] at w1
        have hc0 := cl_unlike hcon (a := m) (b := n) (J := TK tk) (fun _ h => h)
        rw [g1, bp_s, g2, g3, bp_s, w1, bd_s]
        rcases g4 with ⟨rfl, g4⟩ | ⟨rfl, g4⟩
        · rcases w4 with ⟨rfl, w4, _⟩ | ⟨rfl, w4, K, w5, w6⟩
          · exact absurd (hc0.mp g4) w4
          · obtain ⟨K', z2, d1, d2, d3, d4, d5⟩ := thin_ok (x := none) (cell := 69) hW h3.1 ht (fun _ _ _ e => by cases e) (thG_one (ps := ps) (pt := pt) hW hcon m1 n1) thS_one (Or.inl rfl) h1.xt g4
            have d2' := d2.cong fun J hJ => cl_unlike hcon (a := m) (b := n) hJ
            have eK := ThI.uniq d2' w5
            subst eK
            have hq := h.core d4 (Or.inl ⟨rfl, rfl, rfl⟩) d5 w2 w3 d3 w6
            refine ⟨-(nI 1), _, _, ?_, ?_, hq.fin (nI 4)⟩
            · simp (disch := omega) only [nI_eq, if_neg, d1, bp_s, refX, bd_s]
            · simp (disch := omega) only [nI_eq, if_neg, refM, bd_s]
        · rcases w4 with ⟨rfl, w4, w5⟩ | ⟨rfl, w4, _⟩
          · have hqM := h.mf w2 w5
            have hj : ∃ ro, JI T (EX S (TK tk) (some (false, m, n))) ps T.length ro [] [] zX := by
              obtain ⟨ro, hj⟩ := h1.2.2.2.2
              refine ⟨ro, ?_⟩
              have e : EX S (TK tk) (some (false, m, n)) = EX S (TK tk) none := by
                funext u v
                refine propext ⟨?_, ?_⟩
                · rintro (h | h)
                  · exact Or.inl h
                  · cases h
                · rintro (h | h)
                  · exact Or.inl h
                  · cases h
              rw [e]; exact hj
            obtain ⟨z3, zM2, t1, t2, t3, _⟩ := take_both (c := false) (a := m) (b := n) h1.1 h1.2.1 h1.2.2.1 h1.2.2.2.1 hj w2.1 w2.2.1 h3 w4 hqM.2.2.2.1 hqM.2.2.2.2 f1 m1 n1
            rw [bI_f] at t1 t2
            refine ⟨nI S.length, _, _, ?_, ?_, t3.fin (nI 0)⟩
            · simp (disch := omega) only [if_true, t1, doneX, bd_s]
            · simp (disch := omega) only [if_true, t2, doneM, bd_s]
          · exact absurd (hc0.mpr w4) g4
      · rw [f2, bp_s]
        refine ⟨-(nI 1), _, _, ?_, ?_, h.fin (nI 3)⟩
        · simp (disch := omega) only [nI_eq, if_neg, refX, bd_s]
        · simp (disch := omega) only [f3, if_true, refM, bd_s]
theorem hasS_ok {T : List Tm} {S : List Sy} {tk : Nat → Bool} {lv : Nat} {rm : Nat → Nat → Bool} {ps pt i : Nat} {zX zM : fS} (h : RQ i T S tk lv rm ps pt zX zM) (a : Int32) : (fX5_has zX a = some (nI 0) ∧ (a < nI 0 ∨ (¬ a < nI 0 ∧ ¬ a < zM 0 9))) ∨ ∃ m, m < S.length ∧ a = nI m ∧ fX5_has zX a = some (nI 1) ∧ ¬ a < nI 0 ∧ a < zM 0 9 := by
  have hl := h.2.2.1.1.1
  have e1 := h.1.2.1.1
  have e2 := h.2.1.2.1.1
  unfold fX5_has
  rw [e1, e2]
  by_cases q1 : a < nI 0
  · left
    simp only [lit, if_pos q1]
    exact ⟨trivial, Or.inl q1⟩
  · by_cases q2 : nI S.length ≤ a
    · left
      simp only [lit, if_neg q1, if_pos q2]
      exact ⟨trivial, Or.inr ⟨q1, nlt_le.mpr q2⟩⟩
    · right
      have q2' := nle_lt.mp q2
      obtain ⟨k, _, k2, rfl⟩ := rng (x := a) (a := 0) (b := S.length) (by omega) (by omega) q1 (by
        intro hh
        rw [Int32.lt_iff_toInt_lt] at hh q2'
        omega)
      rw [nI_leI (by omega) (by omega)] at q2
      refine ⟨k, by omega, rfl, ?_, q1, q2'⟩
      simp (disch := omega) only [lit, nI_ltI, nI_leI, if_neg]
theorem s_said : st_said Rel := by
  intro i zX zM a w _ hr
  obtain ⟨h0, T, S, tk, lv, rm, ps, pt, h⟩ := id hr
  have hl := h.2.2.1.1.1
  unfold fX8_said fX9_said
  rcases hasS_ok h a with ⟨x1, x2⟩ | ⟨m, m1, rfl, x1, x2, x3⟩
  · refine ⟨-(nI 1), ?_, ?_, up_ok hr⟩
    · simp only [x1, bp_s, lit, litm, if_true]
    · rcases x2 with x2 | ⟨x2, x3⟩
      · simp only [lit, litm, if_pos x2]
      · simp only [lit, litm, if_neg x2, if_neg x3]
  · obtain ⟨s1, s2, s3⟩ := h.1.2.1.2.2.1 m m1
    obtain ⟨t1, t2, t3, t4⟩ := h.2.1.2.1.2 m m1
    have i1 := isTaken_ok h.1.2.1 (show m < 100 by omega)
    have i2 := isSame_ok h.1.2.1 hl m1
    have i3 := left_ok h.1.2.1 hl m1
    have i4 := right_ok h.1.2.1 hl m1
    simp (disch := omega) only [x1, bp_s, lit, litm, nI_eq, if_neg, if_neg x2, if_pos x3, i1, i2, i3, i4, inb_t, gd_t, rd_nI, t1, t2, t3, t4]
    by_cases q0 : w = nI 0
    · simp only [if_pos q0, bI_if]
      exact ⟨_, rfl, rfl, up_ok hr⟩
    · simp only [if_neg q0]
      by_cases q1 : w = nI 1
      · simp only [if_pos q1]
        exact ⟨_, rfl, rfl, up_ok hr⟩
      · simp only [if_neg q1]
        by_cases q2 : w = nI 2
        · simp only [if_pos q2]
          exact ⟨_, rfl, rfl, up_ok hr⟩
        · simp only [if_neg q2]
          by_cases q3 : w = nI 3
          · simp only [if_pos q3, bI_if]
            exact ⟨_, rfl, rfl, up_ok hr⟩
          · simp only [if_neg q3]
            exact ⟨_, rfl, rfl, up_ok hr⟩
theorem core_at {cell c2 fld : Nat} {C : List Nat} {zX zM : fS} (hx : XCr cell C zX) (hm : MCr c2 fld C zM) (a : Int32) : ∃ r, fX1_at cell zX a = some r ∧ (if a < nI 0 then some (-(nI 1)) else if zM 0 fld ≤ a then some (-(nI 1)) else gd (inb a 100) (some (rd zM c2 a))) = some r := by
  unfold fX1_at
  rw [hx.1, hm.1]
  have hl := hx.2.1
  by_cases q1 : a < nI 0
  · exact ⟨-(nI 1), by simp only [lit, litm, if_pos q1], by simp only [if_pos q1]⟩
  · by_cases q2 : nI C.length ≤ a
    · exact ⟨-(nI 1), by simp only [lit, litm, if_neg q1, if_pos q2], by simp only [if_neg q1, if_pos q2]⟩
    · have q2' := nle_lt.mp q2
      obtain ⟨k, _, k2, rfl⟩ := rng (x := a) (a := 0) (b := C.length) (by omega) (by omega) q1 (by
        intro hh
        rw [Int32.lt_iff_toInt_lt] at hh q2'
        omega)
      have q3 : k < C.length := (nI_ltI (by omega) (by omega)).mp q2'
      refine ⟨nI (C.getD k 0), ?_, ?_⟩
      · simp (disch := omega) only [lit, nI_ltI, nI_leI, if_neg, inb_t, gd_t, rd_nI, hx.2.2 k q3]
      · simp (disch := omega) only [nI_ltI, nI_leI, if_neg, inb_t, gd_t, rd_nI, hm.2.2 k q3]
theorem s_clashed : st_clashed Rel := by
  intro i zX zM a _ hr
  obtain ⟨h0, T, S, tk, lv, rm, ps, pt, h⟩ := id hr
  obtain ⟨⟨C, c1, c2⟩, _⟩ := h.2.2.2.2
  obtain ⟨r, e1, e2⟩ := core_at c1 c2 a
  refine ⟨r, ?_, ?_, up_ok hr⟩
  · unfold fX8_clashed; rw [e1, bp_s]
  · unfold fX9_clashed; simp only [lit, litm]; exact e2
theorem s_because : st_because Rel := by
  intro i zX zM a _ hr
  obtain ⟨h0, T, S, tk, lv, rm, ps, pt, h⟩ := id hr
  obtain ⟨_, C, c1, c2⟩ := h.2.2.2.2
  obtain ⟨r, e1, e2⟩ := core_at c1 c2 a
  refine ⟨r, ?_, ?_, up_ok hr⟩
  · unfold fX8_because; rw [e1, bp_s]
  · unfold fX9_because; simp only [lit, litm]; exact e2
theorem s_ended : st_ended Rel := by
  intro i zX zM _ hr
  obtain ⟨h0, T, S, tk, lv, rm, ps, pt, h⟩ := id hr
  refine ⟨zX 0 11, rfl, ?_, up_ok hr⟩
  unfold fX9_ended
  rw [h.2.2.2.1.2.2.2.1]
theorem s_status : st_status Rel := by
  intro i zX zM _ hr
  refine ⟨zX 0 12, rfl, ?_, up_ok hr⟩
  unfold fX9_status
  rw [hr.1]
theorem s_judge : st_judge Rel := by
  intro i zX zM a b _ hr
  obtain ⟨h0, T, S, tk, lv, rm, ps, pt, h⟩ := id hr
  rcases has_ok h a with ⟨x1, x2⟩ | ⟨m, m1, rfl, x1, x2⟩
  · refine ⟨-(nI 1), zX, zM, ?_, ?_, up_ok hr⟩
    · unfold fX8_judge; simp only [x1, bp_s, lit, litm, if_true]
    · unfold fX9_judge; simp only [x2, bp_s, lit, litm, if_true]
  · rcases has_ok h b with ⟨y1, y2⟩ | ⟨n, n1, rfl, y1, y2⟩
    · refine ⟨-(nI 1), zX, zM, ?_, ?_, up_ok hr⟩
      · unfold fX8_judge; simp (disch := omega) only [x1, y1, bp_s, lit, litm, nI_eq, if_neg, if_true]
      · unfold fX9_judge; simp (disch := omega) only [x2, y2, bp_s, lit, litm, nI_eq, if_neg, if_true]
    · obtain ⟨g1, g2, r, g3, g4⟩ := stand_ok h m1 n1
      have h' := h
      obtain ⟨h1, h2, h3, h4, h5⟩ := h'
      have hW := h1.1.1
      have ht := h3.2.1.1
      have hn := h1.2.2.1.num
      obtain ⟨rM, zM1, w1, w2, w3, w4⟩ := judgeM_ok hW h3.1 ht h2 x2 y2 m1 n1
      unfold fX8_judge
      simp (disch := omega) only [x1, y1, bp_s, lit, litm, nI_eq, if_neg, g1, g2, g3, w1]
      have e26 : zM1 0 26 = zM 0 26 := w3.2.2 26 (by omega) (by omega)
      rcases g4 with ⟨rfl, g4⟩ | ⟨rfl, g4⟩
      · rcases w4 with ⟨rfl, _⟩ | ⟨_, w4, _⟩ | ⟨_, w4, _⟩
        · refine ⟨nI 1, zX, zM1, ?_, rfl, h0.trans e26.symm, T, S, tk, lv, rm, ps, pt, (h.mf w2 w3).up⟩
          simp (disch := omega) only [if_neg]
        · exact absurd g4 w4
        · exact absurd g4 w4
      · obtain ⟨ro, hj⟩ := h1.2.2.2.2
        obtain ⟨r, z1, c1, c2, c3, c4⟩ := wouldClashX_ok hW h3.1 ht h1.2.2.1 h1.2.1 hj m1 n1
        have hq : RQ i T S tk lv rm ps pt z1 zM1 := h.sc c2 (fun j hj => c3 j (by omega) (by omega)) w2 (fun j g1 g2 => w3.1 j (by omega) (by omega) (by omega) (by omega) (by omega)) (fun f g1 _ _ => w3.2.2 f g1 g1)
        have fin : Rel (i + 1) z1 zM1 := ⟨by rw [c3 0 (by omega) (by omega), e26]; exact h0, T, S, tk, lv, rm, ps, pt, hq.up⟩
        rcases c4 with ⟨rfl, c4⟩ | ⟨rfl, c4, _⟩
        · rcases w4 with ⟨_, w4⟩ | ⟨rfl, _, w4⟩ | ⟨_, _, w4⟩
          · exact absurd w4 g4
          · refine ⟨nI 0, z1, zM1, ?_, rfl, fin⟩
            simp (disch := omega) only [if_true, c1, bd_s, nI_eq, if_neg]
          · exact absurd c4 w4
        · rcases w4 with ⟨_, w4⟩ | ⟨_, _, w4⟩ | ⟨rfl, _, w4⟩
          · exact absurd w4 g4
          · exact absurd w4 c4
          · refine ⟨nI 2, z1, zM1, ?_, rfl, fin⟩
            simp (disch := omega) only [if_true, c1, bd_s]
