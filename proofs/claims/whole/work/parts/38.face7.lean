/-! the face: laws and steps -/
section STEPS
variable {T : List Tm} {S : List Sy} {tk : Nat → Bool} {lv : Nat} {rm : Nat → Nat → Bool} {ps pt i : Nat} {zX zM : fS}
theorem RQ.laws (h : RQ i T S tk lv rm ps pt zX zM) {z z' : fS} (eX : ∀ j, j ≠ 0 → j ≠ 73 → j ≠ 74 → z j = zX j) (eX0 : ∀ f, f ≠ 10 → z 0 f = zX 0 f) (eM : ∀ j, j ≠ 0 → j ≠ 10 → j ≠ 11 → z' j = zM j) (eM0 : ∀ f, f ≠ 14 → z' 0 f = zM 0 f) (hw : RW T.length z z') : RQ i T S tk lv rm ps pt z z' := by
  obtain ⟨h1, h2, h3, ⟨⟨l1, l2, l3⟩, _, ⟨k, k1, k2, k3, k4⟩, r4, m, m1, m2, m3⟩, h5⟩ := h
  refine ⟨h1.sc (h1.ag.fr fun j _ _ => eX j (by omega) (by omega) (by omega)) (fun j g1 g2 => eX j g2 (by omega) (by omega)) (fun j g1 g2 g3 => eX j (by omega) (by omega) (by omega)), h2.fr h3.1.1 (fun f hf => eM0 f (by omega)) (fun j g1 g2 => eM j (by omega) (by omega) (by omega)) (eM 20 (by omega) (by omega) (by omega)), h3, ⟨⟨by rw [eX 11 (by omega) (by omega) (by omega)]; exact l1, by rw [eM0 11 (by omega)]; exact l2, by rw [eX 16 (by omega) (by omega) (by omega), eM 9 (by omega) (by omega) (by omega)]; exact l3⟩, hw, ⟨k, k1, by rw [eX 63 (by omega) (by omega) (by omega)]; exact k2, by rw [eM0 20 (by omega)]; exact k3, ?_⟩, by rw [eX0 11 (by omega), eM0 25 (by omega)]; exact r4, m, m1, by rw [eX 58 (by omega) (by omega) (by omega)]; exact m2, by rw [eX 60 (by omega) (by omega) (by omega)]; exact m3⟩, h5.fr (fun j g1 g2 => eX j (by omega) (by omega) (by omega)) (fun j hj => eM j (by omega) (by omega) (by omega)) (fun f hf => eM0 f (by omega))⟩
  rw [eX 64 (by omega) (by omega) (by omega), eX 65 (by omega) (by omega) (by omega), eX 66 (by omega) (by omega) (by omega), eX 67 (by omega) (by omega) (by omega), eX 68 (by omega) (by omega) (by omega), eM 12 (by omega) (by omega) (by omega), eM 13 (by omega) (by omega) (by omega), eM 14 (by omega) (by omega) (by omega), eM 15 (by omega) (by omega) (by omega), eM 16 (by omega) (by omega) (by omega)]
  exact k4
theorem RQ.steps (h : RQ i T S tk lv rm ps pt zX zM) {z z' : fS} (eX : ∀ j, ¬ (63 ≤ j ∧ j ≤ 68) → z j = zX j) (eM : ∀ j, j ≠ 0 → ¬ (12 ≤ j ∧ j ≤ 16) → z' j = zM j) (eM0 : ∀ f, f ≠ 20 → z' 0 f = zM 0 f) (hw : RP T.length z z') : RQ i T S tk lv rm ps pt z z' := by
  obtain ⟨h1, h2, h3, ⟨⟨l1, l2, l3⟩, ⟨k, k1, k2, k3, k4⟩, _, r4, m, m1, m2, m3⟩, h5⟩ := h
  refine ⟨h1.sc (h1.ag.fr fun j _ _ => eX j (by omega)) (fun j g1 g2 => eX j (by omega)) (fun j g1 g2 g3 => eX j (by omega)), h2.fr h3.1.1 (fun f hf => eM0 f (by omega)) (fun j g1 g2 => eM j (by omega) (by omega)) (eM 20 (by omega) (by omega)), h3, ⟨⟨by rw [eX 11 (by omega)]; exact l1, by rw [eM0 11 (by omega)]; exact l2, by rw [eX 16 (by omega), eM 9 (by omega) (by omega)]; exact l3⟩, ⟨k, k1, by rw [eX 0 (by omega)]; exact k2, by rw [eM0 14 (by omega)]; exact k3, ?_⟩, hw, by rw [eX 0 (by omega), eM0 25 (by omega)]; exact r4, m, m1, by rw [eX 58 (by omega)]; exact m2, by rw [eX 60 (by omega)]; exact m3⟩, h5.fr (fun j g1 g2 => eX j (by omega)) (fun j hj => eM j (by omega) (by omega)) (fun f hf => eM0 f (by omega))⟩
  rw [eX 73 (by omega), eX 74 (by omega), eM 10 (by omega) (by omega), eM 11 (by omega) (by omega)]
  exact k4
end STEPS
theorem s_law : st_law Rel := by
  intro i zX zM a b _ ⟨h0, T, S, tk, lv, rm, ps, pt, h⟩
  unfold fX8_law fX9_law
  rcases has_ok h a with ⟨x1, x2⟩ | ⟨m, m1, rfl, x1, x2⟩
  · refine ⟨-(nI 1), _, _, ?_, ?_, h.fin (nI 1)⟩
    · simp only [x1, bp_s, lit, if_true, refX, bd_s]
    · simp only [x2, bp_s, lit, if_true, refM, bd_s]
  · rcases has_ok h b with ⟨y1, y2⟩ | ⟨n, n1, rfl, y1, y2⟩
    · refine ⟨-(nI 1), _, _, ?_, ?_, h.fin (nI 1)⟩
      · simp (disch := omega) only [x1, y1, bp_s, lit, nI_eq, if_neg, if_true, refX, bd_s]
      · simp (disch := omega) only [x2, y2, bp_s, lit, nI_eq, if_neg, if_true, refM, bd_s]
    · obtain ⟨k, k1, k2, k3, k4⟩ := h.2.2.2.1.2.1
      simp (disch := omega) only [x1, y1, x2, y2, bp_s, lit, nI_eq, if_neg, k2, k3, nI_ltI]
      by_cases q : k = 10
      · subst q
        refine ⟨-(nI 1), _, _, ?_, ?_, h.fin (nI 3)⟩
        · simp (disch := omega) only [Nat.lt_irrefl, if_false, refX, bd_s]
        · simp (disch := omega) only [if_true, refM, bd_s]
      · have hq : RQ i T S tk lv rm ps pt (wrr (wrr (wrr zX 73 (upd (zX 73) k (nI m))) 74 (upd (zX 74) k (nI n))) 0 (upd (zX 0) 10 (nI (k + 1)))) (wrr (wrr (wrr zM 10 (upd (zM 10) k (nI m))) 11 (upd (zM 11) k (nI n))) 0 (upd (zM 0) 14 (nI (k + 1)))) := by
          refine h.laws (fun j g1 g2 g3 => by rw [wrr_n g1, wrr_n g3, wrr_n g2]) (fun f g => by rw [wrr_e, upd_n g]) (fun j g1 g2 g3 => by rw [wrr_n g1, wrr_n g3, wrr_n g2]) (fun f g => by rw [wrr_e, upd_n g]) ⟨k + 1, by omega, by rw [wrr_e, upd_e], by rw [wrr_e, upd_e], fun j hj => ?_⟩
          simp (disch := omega) only [wrr_n, wrr_e]
          by_cases e : j = k
          · subst e
            rw [upd_e, upd_e, upd_e, upd_e]
            exact ⟨m, n, m1, n1, rfl, rfl, rfl, rfl⟩
          · rw [upd_n e, upd_n e, upd_n e, upd_n e]
            exact k4 j (by omega)
        refine ⟨nI k, _, _, ?_, ?_, hq.fin (nI 0)⟩
        · simp (disch := omega) only [if_pos, inb_t, gd_t, wr_nI, bnd_s, wrr_n, k2, wf_w, wrr_e, upd_e, nI_add, nI_sub, doneX, bd_s]
          simp only [Nat.add_sub_cancel]
        · simp (disch := omega) only [if_neg, inb_t, gd_t, wr_nI, bnd_s, wrr_n, k3, wf_w, wrr_e, upd_e, nI_add, nI_sub, doneM, bd_s]
          simp only [Nat.add_sub_cancel]
theorem s_claim : st_claim Rel := by
  intro i zX zM w a b x y _ ⟨h0, T, S, tk, lv, rm, ps, pt, h⟩
  unfold fX8_claim fX9_claim
  rcases has_ok h a with ⟨x1, x2⟩ | ⟨m, m1, rfl, x1, x2⟩
  · refine ⟨-(nI 1), _, _, ?_, ?_, h.fin (nI 1)⟩
    · simp only [x1, bp_s, lit, if_true, refX, bd_s]
    · simp only [x2, bp_s, lit, if_true, refM, bd_s]
  · rcases has_ok h b with ⟨y1, y2⟩ | ⟨n, n1, rfl, y1, y2⟩
    · refine ⟨-(nI 1), _, _, ?_, ?_, h.fin (nI 1)⟩
      · simp (disch := omega) only [x1, y1, bp_s, lit, nI_eq, if_neg, if_true, refX, bd_s]
      · simp (disch := omega) only [x2, y2, bp_s, lit, nI_eq, if_neg, if_true, refM, bd_s]
    · obtain ⟨k, k1, k2, k3, k4⟩ := h.2.2.2.1.2.2.1
      unfold fX6_count fX6_add
      simp (disch := omega) only [x1, y1, x2, y2, bp_s, lit, nI_eq, if_neg, k2, k3, nI_ltI]
      by_cases q : k = 100
      · subst q
        refine ⟨-(nI 1), _, _, ?_, ?_, h.fin (nI 3)⟩
        · simp (disch := omega) only [Nat.lt_irrefl, if_false, refX, bd_s]
        · simp (disch := omega) only [if_true, refM, bd_s]
      · have hq : RQ i T S tk lv rm ps pt (wrr (wrr (wrr (wrr (wrr (wrr zX 64 (upd (zX 64) k w)) 65 (upd (zX 65) k (nI m))) 66 (upd (zX 66) k (nI n))) 67 (upd (zX 67) k x)) 68 (upd (zX 68) k y)) 63 (upd (zX 63) 7 (nI (k + 1)))) (wrr (wrr (wrr (wrr (wrr (wrr zM 12 (upd (zM 12) k w)) 13 (upd (zM 13) k (nI m))) 14 (upd (zM 14) k (nI n))) 15 (upd (zM 15) k x)) 16 (upd (zM 16) k y)) 0 (upd (zM 0) 20 (nI (k + 1)))) := by
          refine h.steps (fun j g => by simp (disch := omega) only [wrr_n]) (fun j g1 g2 => by simp (disch := omega) only [wrr_n]) (fun f g => by rw [wrr_e, upd_n g]) ⟨k + 1, by omega, by rw [wrr_e, upd_e], by rw [wrr_e, upd_e], fun j hj => ?_⟩
          simp (disch := omega) only [wrr_n, wrr_e]
          by_cases e : j = k
          · subst e
            simp only [upd_e]
            exact ⟨trivial, trivial, trivial, m, n, m1, n1, rfl, rfl, rfl, rfl⟩
          · simp (disch := omega) only [upd_n]
            exact k4 j (by omega)
        refine ⟨nI k, _, _, ?_, ?_, hq.fin (nI 0)⟩
        · simp (disch := omega) only [if_pos, inb_t, gd_t, wr_nI, bnd_s, wrr_n, k2, wf_w, wrr_e, upd_e, nI_add, nI_sub, doneX, bd_s]
          simp only [Nat.add_sub_cancel]
        · simp (disch := omega) only [if_neg, inb_t, gd_t, wr_nI, bnd_s, wrr_n, k3, wf_w, wrr_e, upd_e, nI_add, nI_sub, doneM, bd_s]
          simp only [Nat.add_sub_cancel]
theorem s_unclaim : st_unclaim Rel := by
  intro i zX zM _ ⟨h0, T, S, tk, lv, rm, ps, pt, h⟩
  obtain ⟨k, k1, k2, k3, k4⟩ := h.2.2.2.1.2.2.1
  unfold fX8_unclaim fX9_unclaim fX6_count fX6_forget
  have hq : RQ i T S tk lv rm ps pt (wrr zX 63 (upd (zX 63) 7 (nI 0))) (wrr zM 0 (upd (zM 0) 20 (nI 0))) :=
    h.steps (fun j g => wrr_n (by omega)) (fun j g1 g2 => wrr_n g1) (fun f g => by rw [wrr_e, upd_n g]) ⟨0, by omega, by rw [wrr_e, upd_e], by rw [wrr_e, upd_e], fun j hj => by omega⟩
  refine ⟨nI k, _, _, ?_, ?_, hq.fin (nI 0)⟩
  · simp only [k2, bp_s, lit, wf_w, bnd_s, doneX, bd_s]
  · simp only [k3, bnd_s, lit, wf_w, doneM, bd_s]
/-! the steps are checked -/
section CHK

variable {T : List Tm} {S : List Sy} {tk : Nat → Bool} {zX zM : fS}
def StA (n K : Nat) (zX zM : fS) : Prop := K ≤ 100 ∧ zX 63 7 = nI K ∧ zM 0 20 = nI K ∧ ∀ i, i < K → zX 64 i = zM 12 i ∧ zX 67 i = zM 15 i ∧ zX 68 i = zM 16 i ∧ ∃ a b, a < n ∧ b < n ∧ zX 65 i = nI a ∧ zM 13 i = nI a ∧ zX 66 i = nI b ∧ zM 14 i = nI b
theorem same_loop {n K k : Nat} (hs : StA n K zX zM) (hk : k < K) {u v : Int32} : ∀ (d j N : Nat), j + d = k → d < N → ∃ r, (r = 0 ∨ r = 1) ∧ lX6_isSameBefore_10 zX (nI k) u v N (nI j) = some (nI r) ∧ lX9_isKnown_15 zM u v (nI k) N (nI 0) (nI j) = some (nI r) := by
  obtain ⟨s1, s2, s3, s4⟩ := hs
  intro d
  induction d with
  | zero =>
    intro j N hj hN
    obtain ⟨N, rfl⟩ : ∃ M, N = M + 1 := ⟨N - 1, by omega⟩
    refine ⟨0, Or.inl rfl, ?_, ?_⟩
    · rw [lX6_isSameBefore_10.eq_2]
      simp (disch := omega) only [nI_leI, if_pos, lit]
    · rw [lX9_isKnown_15.eq_2]
      simp (disch := omega) only [nI_leI, if_pos, isb_0, gd_t]
  | succ d ih =>
    intro j N hj hN
    obtain ⟨N, rfl⟩ : ∃ M, N = M + 1 := ⟨N - 1, by omega⟩
    obtain ⟨_, _, _, a, b, _, _, a1, a2, b1, b2⟩ := s4 j (by omega)
    obtain ⟨r, r0, e1, e2⟩ := ih (j + 1) N (by omega) (by omega)
    rw [lX6_isSameBefore_10.eq_2, lX9_isKnown_15.eq_2]
    unfold fX6_says
    simp (disch := omega) only [nI_leI, if_neg, lit, nI_ltI, s2, inb_t, gd_t, rd_nI, a1, a2, b1, b2, if_true]
    by_cases q1 : nI a = u
    · simp only [if_pos q1]
      by_cases q2 : nI b = v
      · obtain ⟨M, rfl⟩ : ∃ M, N = M + 1 := ⟨N - 1, by omega⟩
        refine ⟨1, Or.inr rfl, ?_, ?_⟩
        · simp (disch := omega) only [if_pos q2, bp_s, nI_eq, if_neg]
        · simp (disch := omega) only [if_pos q2, bnd_s, nI_add]
          rw [lX9_isKnown_15.eq_2]
          simp (disch := omega) only [lit, nI_eq, if_neg, isb_1, gd_t, ite_self]
      · simp only [if_neg q2, bp_s, if_true, bnd_s, nI_add]
        exact ⟨r, r0, e1, e2⟩
    · simp only [if_neg q1, bp_s, if_true, bnd_s, nI_add]
      exact ⟨r, r0, e1, e2⟩
theorem same_ok {n K k : Nat} (hs : StA n K zX zM) (hk : k < K) {u v : Int32} : ∃ r, (r = 0 ∨ r = 1) ∧ fX6_isSameBefore zX (nI k) u v = some (nI r) ∧ fX9_isKnown zM u v (nI k) = some (nI r) := by
  have hK := hs.1
  unfold fX6_isSameBefore fX9_isKnown jX9_isKnown_10
  simp only [lit]
  by_cases q : u = v
  · simp only [if_pos q]
    refine ⟨1, Or.inr rfl, rfl, ?_⟩
    obtain ⟨M, hM⟩ : ∃ M, FU = M + 1 := ⟨FU - 1, by have := FU_ge; omega⟩
    rw [hM, lX9_isKnown_15.eq_2]
    simp (disch := omega) only [lit, nI_eq, if_neg, isb_1, gd_t, ite_self]
  · simp only [if_neg q]
    exact same_loop hs hk k 0 FU (by omega) (by have := FU_ge; omega)
theorem parts_loop {K k : Nat} (hs : StA T.length K zX zM) (hk : k < K) (hX : HT T zX) (hM : MT T zM) (hW : WT T) {a b : Nat} (ha : a < T.length) (hb : b < T.length) (hsz : sz T a = sz T b) {tu : Bool} (htu : tu = true → sz T a = 2) : ∀ (d j N : Nat), j + d = sz T a → d < N → ∃ r, (r = 0 ∨ r = 1) ∧ lX6_isByParts_93 zX (nI k) (nI a) (nI b) (nI (sz T a)) (bI tu) N (nI j) = some (nI r) ∧ lX9_isRightByParts_103 zM (nI k) (nI a) (nI b) (bI tu) N (nI 1) (nI j) = some (nI r) := by
  have hT1 := hW.1
  have wa := (hW.2 a ha).1
  have e3 := (hM.2 a ha).2.2.1
  intro d
  induction d with
  | zero =>
    intro j N hj hN
    obtain ⟨N, rfl⟩ : ∃ M, N = M + 1 := ⟨N - 1, by omega⟩
    refine ⟨1, Or.inr rfl, ?_, ?_⟩
    · rw [lX6_isByParts_93.eq_2]
      simp (disch := omega) only [nI_leI, if_pos, lit]
    · rw [lX9_isRightByParts_103.eq_2]
      simp (disch := omega) only [inb_t, gd_t, rd_nI, e3, nI_leI, if_pos, isb_1]
  | succ d ih =>
    intro j N hj hN
    obtain ⟨N, rfl⟩ : ∃ M, N = M + 1 := ⟨N - 1, by omega⟩
    obtain ⟨r, r0, e1, e2⟩ := ih (j + 1) N (by omega) (by omega)
    obtain ⟨o, ho, oX, oM⟩ : ∃ o, o < sz T b ∧ (if bI tu = nI 0 then nI j else nI 1 - nI j) = nI o ∧ o < 3 := by
      cases tu
      · exact ⟨j, by omega, by rw [bI_f, if_pos rfl], by omega⟩
      · have := htu rfl
        exact ⟨1 - j, by omega, by rw [bI_t, if_neg (nno 1 0 (by omega) (by omega) (by omega)), nI_sub (by omega)], by omega⟩
    have pa := hX.part ha (show j < sz T a by omega) (by omega)
    have pb := hX.part hb ho oM
    have qa := (hM.2 a ha).2.2.2 j (by omega)
    have qb := (hM.2 b hb).2.2.2 o ho
    obtain ⟨r1, r10, f1, f2⟩ := same_ok hs hk (u := nI (pt T a j)) (v := nI (pt T b o))
    have exX : lX6_isByParts_93 zX (nI k) (nI a) (nI b) (nI (sz T a)) (bI tu) (N + 1) (nI j) = if nI r1 = nI 0 then some (nI 0) else lX6_isByParts_93 zX (nI k) (nI a) (nI b) (nI (sz T a)) (bI tu) N (nI (j + 1)) := by
      rw [lX6_isByParts_93.eq_2]
      have hX2 : jX6_isByParts_114 (lX6_isByParts_93 zX (nI k) (nI a) (nI b) (nI (sz T a)) (bI tu) N) zX (nI k) (nI a) (nI b) (nI (sz T a)) (bI tu) (nI j) (nI o) = if nI r1 = nI 0 then some (nI 0) else lX6_isByParts_93 zX (nI k) (nI a) (nI b) (nI (sz T a)) (bI tu) N (nI (j + 1)) := by
        unfold jX6_isByParts_114 fX7_partOf
        simp (disch := omega) only [lit, nI_mul, nI_add, inb_t, gd_t, rd_nI, pa, pb, bp_s, f1, bnd_s]
      rw [← hX2, ← oX]
      cases tu
      · simp (disch := omega) only [nI_leI, if_neg, bI_f, lit, if_true]
      · simp (disch := omega) only [nI_leI, if_neg, bI_t, lit, nI_eq]
    have exM : lX9_isRightByParts_103 zM (nI k) (nI a) (nI b) (bI tu) (N + 1) (nI 1) (nI j) = lX9_isRightByParts_103 zM (nI k) (nI a) (nI b) (bI tu) N (nI r1) (nI (j + 1)) := by
      rw [lX9_isRightByParts_103.eq_2]
      cases tu
      · have : o = j := by
          rw [bI_f, if_pos rfl] at oX
          exact ((nI_eq (by omega) (by omega)).mp oX).symm
        subst this
        simp (disch := omega) only [inb_t, gd_t, rd_nI, e3, nI_leI, if_neg, bI_f, lit, nI_eq, if_true, nI_mul, nI_add, qa, qb, f2, bp_s, bnd_s]
      · rw [bI_t, if_neg (nno 1 0 (by omega) (by omega) (by omega))] at oX
        simp (disch := omega) only [inb_t, gd_t, rd_nI, e3, nI_leI, if_neg, bI_t, lit, nI_eq, nI_mul, nI_add, oX, qa, qb, f2, bp_s, bnd_s]
    rw [exX, exM]
    rcases r10 with rfl | rfl
    · refine ⟨0, Or.inl rfl, by rw [if_pos rfl], ?_⟩
      obtain ⟨M, rfl⟩ : ∃ M, N = M + 1 := ⟨N - 1, by omega⟩
      rw [lX9_isRightByParts_103.eq_2]
      simp (disch := omega) only [inb_t, gd_t, rd_nI, e3, lit, if_true, isb_0, ite_self]
    · refine ⟨r, r0, ?_, e2⟩
      rw [if_neg (nno 1 0 (by omega) (by omega) (by omega))]; exact e1
theorem rows_ok {K k m : Nat} (hs : StA T.length K zX zM) (hk : k < K) (hm : m < k) (hX : HT T zX) (hM : MT T zM) (hW : WT T) {c d w : Nat} (hw : w < 2) (c1 : zX 65 k = nI c) (d1 : zX 66 k = nI d) : ∃ r, (r = 0 ∨ r = 1) ∧ fX6_isOfRows zX (nI k) (nI m) (nI w) = some (nI r) ∧ fX9_isOfRows zM (nI m) (nI c) (nI d) (nI w) = some (nI r) := by
  have hT1 := hW.1
  obtain ⟨s1, s2, s3, s4⟩ := hs
  obtain ⟨_, _, _, a, b, ha, hb, a1, a2, b1, b2⟩ := s4 m (by omega)
  have k1 := (hX.2 a ha).1
  have k2 := (hX.2 b hb).1
  have l1 := (hM.2 a ha).1
  have l2 := (hM.2 b hb).1
  unfold fX6_isOfRows fX9_isOfRows fX7_kindOf fX7_partOf
  simp (disch := omega) only [lit, nI_ltI, nI_leI, if_neg, inb_t, gd_t, rd_nI, a1, a2, b1, b2, bnd_s, bp_s, k1, k2, l1, l2, c1, d1]
  by_cases q1 : kd T a = nI 3
  · simp only [if_pos q1]
    by_cases q2 : kd T b = nI 3
    · simp only [if_pos q2]
      have sa := (hW.2 a ha).2.2.1 q1
      have sb := (hW.2 b hb).2.2.1 q2
      have pa := hX.part ha (show w < sz T a by omega) (by omega)
      have pb := hX.part hb (show w < sz T b by omega) (by omega)
      have qa := (hM.2 a ha).2.2.2 w (by omega)
      have qb := (hM.2 b hb).2.2.2 w (by omega)
      simp (disch := omega) only [nI_mul, nI_add, inb_t, gd_t, rd_nI, pa, pb, qa, qb, bp_s]
      split
      · split
        · exact ⟨1, Or.inr rfl, rfl, rfl⟩
        · exact ⟨0, Or.inl rfl, rfl, rfl⟩
      · exact ⟨0, Or.inl rfl, rfl, rfl⟩
    · simp only [if_neg q2]
      exact ⟨0, Or.inl rfl, rfl, rfl⟩
  · simp only [if_neg q1]
    exact ⟨0, Or.inl rfl, rfl, rfl⟩
end CHK
