/-! a saying is taken -/
def tkx (tk : Nat → Bool) (n : Nat) (b : Bool) : Nat → Bool := fun s => if s = n then b else tk s
theorem tkx_e {tk : Nat → Bool} {n : Nat} {b : Bool} : tkx tk n b n = b := by simp [tkx]
theorem tkx_n {tk : Nat → Bool} {n s : Nat} {b : Bool} (h : s ≠ n) : tkx tk n b s = tk s := by simp [tkx, h]
section TAKE
variable {T : List Tm} {S : List Sy} {tk : Nat → Bool} {lv : Nat} {rm : Nat → Nat → Bool} {ps pt i : Nat} {zX zM z z' : fS} {c : Bool} {a b : Nat}
theorem sS_l {R : List Sy} {s : Nat} (h : s < S.length) : sm (S ++ R) s = sm S s ∧ sa (S ++ R) s = sa S s ∧ sb (S ++ R) s = sb S s := by
  unfold sm sa sb; rw [gD_l h]; exact ⟨rfl, rfl, rfl⟩
theorem sS_r : sm (S ++ [(c, a, b)]) S.length = c ∧ sa (S ++ [(c, a, b)]) S.length = a ∧ sb (S ++ [(c, a, b)]) S.length = b := by
  unfold sm sa sb; rw [gD_r]; exact ⟨rfl, rfl, rfl⟩
theorem EX_app (ht : ∀ s, tk s = true → s < S.length) : EX (S ++ [(c, a, b)]) (TK (tkx tk S.length true)) none = EX S (TK tk) (some (c, a, b)) := by
  funext u v
  refine propext ⟨?_, ?_⟩
  · rintro (⟨s, s1, s2, s3, s4, s5⟩ | h)
    · by_cases e : s = S.length
      · subst e
        rw [sS_r.1] at s3; rw [sS_r.2.1] at s4; rw [sS_r.2.2] at s5
        subst s3; subst s4; subst s5
        exact Or.inr rfl
      · have hs : s < S.length := by simp at s1; omega
        have w := sS_l (R := [(c, a, b)]) hs
        rw [w.1] at s3; rw [w.2.1] at s4; rw [w.2.2] at s5
        exact Or.inl ⟨s, hs, by unfold TK at s2 ⊢; rw [tkx_n e] at s2; exact s2, s3, s4, s5⟩
    · cases h
  · rintro (⟨s, s1, s2, s3, s4, s5⟩ | h)
    · have w := sS_l (R := [(c, a, b)]) s1
      exact Or.inl ⟨s, by simp; omega, by unfold TK; rw [tkx_n (by omega)]; exact s2, by rw [w.1]; exact s3, by rw [w.2.1]; exact s4, by rw [w.2.2]; exact s5⟩
    · cases h
      exact Or.inl ⟨S.length, by simp, by unfold TK; exact tkx_e, sS_r.1, sS_r.2.1, sS_r.2.2⟩
theorem UX_app (ht : ∀ s, tk s = true → s < S.length) : UX (S ++ [(c, a, b)]) (TK (tkx tk S.length true)) none = UX S (TK tk) (some (c, a, b)) := by
  funext u v
  refine propext ⟨?_, ?_⟩
  · rintro (⟨s, s1, s2, s3, s4, s5⟩ | h)
    · by_cases e : s = S.length
      · subst e
        rw [sS_r.1] at s3; rw [sS_r.2.1] at s4; rw [sS_r.2.2] at s5
        subst s3; subst s4; subst s5
        exact Or.inr rfl
      · have hs : s < S.length := by simp at s1; omega
        have w := sS_l (R := [(c, a, b)]) hs
        rw [w.1] at s3; rw [w.2.1] at s4; rw [w.2.2] at s5
        exact Or.inl ⟨s, hs, by unfold TK at s2 ⊢; rw [tkx_n e] at s2; exact s2, s3, s4, s5⟩
    · cases h
  · rintro (⟨s, s1, s2, s3, s4, s5⟩ | h)
    · have w := sS_l (R := [(c, a, b)]) s1
      exact Or.inl ⟨s, by simp; omega, by unfold TK; rw [tkx_n (by omega)]; exact s2, by rw [w.1]; exact s3, by rw [w.2.1]; exact s4, by rw [w.2.2]; exact s5⟩
    · cases h
      exact Or.inl ⟨S.length, by simp, by unfold TK; exact tkx_e, sS_r.1, sS_r.2.1, sS_r.2.2⟩
theorem EX_more {R : List Sy} (ht : ∀ s, tk s = true → s < S.length) : EX (S ++ R) (TK tk) none = EX S (TK tk) none := by
  funext u v
  refine propext ⟨?_, ?_⟩
  · rintro (⟨s, s1, s2, s3⟩ | h)
    · have w := sS_l (R := R) (ht s s2)
      rw [w.1, w.2.1, w.2.2] at s3
      exact Or.inl ⟨s, ht s s2, s2, s3⟩
    · cases h
  · rintro (⟨s, s1, s2, s3⟩ | h)
    · have w := sS_l (R := R) s1
      exact Or.inl ⟨s, by simp; omega, s2, by rw [w.1, w.2.1, w.2.2]; exact s3⟩
    · cases h
theorem UX_more {R : List Sy} (ht : ∀ s, tk s = true → s < S.length) : UX (S ++ R) (TK tk) none = UX S (TK tk) none := by
  funext u v
  refine propext ⟨?_, ?_⟩
  · rintro (⟨s, s1, s2, s3⟩ | h)
    · have w := sS_l (R := R) (ht s s2)
      rw [w.1, w.2.1, w.2.2] at s3
      exact Or.inl ⟨s, ht s s2, s2, s3⟩
    · cases h
  · rintro (⟨s, s1, s2, s3⟩ | h)
    · have w := sS_l (R := R) s1
      exact Or.inl ⟨s, by simp; omega, s2, by rw [w.1, w.2.1, w.2.2]; exact s3⟩
    · cases h
theorem Cs.more {R : List Sy} (h : Cs T S tk) : Cs T (S ++ R) tk := by
  refine ⟨fun s hs => by have := h.1 s hs; simp; omega, ?_⟩
  rw [EX_more h.1, UX_more h.1]; exact h.2
theorem take_both (hH : HX T zX) (hS : XSy S tk zX) (hq : Pq ps pt zX) (hb : ∃ ro, JI T (fun _ _ => False) 28 T.length ro [] [] zX) (hj : ∃ ro, JI T (EX S (TK tk) (some (c, a, b))) ps T.length ro [] [] zX) (hM : MT T zM) (hMs : MSy S tk zM) (hB : RB T S tk lv rm) (hcon : ¬ Cl T T.length (EX S (TK tk) (some (c, a, b))) (UX S (TK tk) (some (c, a, b)))) (hR : RR i T.length lv rm zX zM) (hK : RK zX zM) (hl : S.length < 100) (ha : a < T.length) (hbl : b < T.length) : ∃ zX' zM', fX5_add zX (bI c) (nI a) (nI b) = some (nI S.length, zX') ∧ fX9_take zM (nI a) (nI b) (bI c) = some (nI S.length, zM') ∧ RQ i T (S ++ [(c, a, b)]) (tkx tk S.length true) lv rm ps pt zX' zM' ∧ (∀ j, ¬ (11 ≤ j ∧ j ≤ 15) → zX' j = zX j) ∧ (∀ j, j ≠ 0 → ¬ (5 ≤ j ∧ j ≤ 8) → zM' j = zM j) ∧ (∀ f, f ≠ 9 → f ≠ 30 → zM' 0 f = zM 0 f) := by
  obtain ⟨x1, x2, x3, x4⟩ := hS
  have hn := hq.num
  have ht := hB.2.1.1
  have lenS : (S ++ [(c, a, b)]).length = S.length + 1 := by simp
  have hcl := cnt_le tk S.length
  obtain ⟨zX', hX'⟩ : ∃ y : fS, y = wrr (wrr (wrr (wrr (wrr zX 12 (upd (zX 12) S.length (bI c))) 13 (upd (zX 13) S.length (nI a))) 14 (upd (zX 14) S.length (nI b))) 15 (upd (zX 15) S.length (nI 1))) 11 (upd (upd (zX 11) 5 (nI (S.length + 1))) 6 (nI (cnt tk S.length + 1))) := ⟨_, rfl⟩
  obtain ⟨zM', hM'⟩ : ∃ y : fS, y = wrr (wrr (wrr (wrr (wrr zM 5 (upd (zM 5) S.length (nI a))) 6 (upd (zM 6) S.length (nI b))) 7 (upd (zM 7) S.length (bI c))) 8 (upd (zM 8) S.length (nI 1))) 0 (upd (upd (zM 0) 9 (nI (S.length + 1))) 30 (nI 0)) := ⟨_, rfl⟩
  have fX : ∀ j, ¬ (11 ≤ j ∧ j ≤ 15) → zX' j = zX j := fun j hj => by rw [hX']; simp (disch := omega) only [wrr_n]
  have f11 : zX' 11 = upd (upd (zX 11) 5 (nI (S.length + 1))) 6 (nI (cnt tk S.length + 1)) := by rw [hX', wrr_e]
  have f12 : zX' 12 = upd (zX 12) S.length (bI c) := by rw [hX']; simp (disch := omega) only [wrr_n, wrr_e]
  have f13 : zX' 13 = upd (zX 13) S.length (nI a) := by rw [hX']; simp (disch := omega) only [wrr_n, wrr_e]
  have f14 : zX' 14 = upd (zX 14) S.length (nI b) := by rw [hX']; simp (disch := omega) only [wrr_n, wrr_e]
  have f15 : zX' 15 = upd (zX 15) S.length (nI 1) := by rw [hX']; simp (disch := omega) only [wrr_n, wrr_e]
  have gM : ∀ j, j ≠ 0 → ¬ (5 ≤ j ∧ j ≤ 8) → zM' j = zM j := fun j h0 hj => by rw [hM']; simp (disch := omega) only [wrr_n]
  have g0 : zM' 0 = upd (upd (zM 0) 9 (nI (S.length + 1))) 30 (nI 0) := by rw [hM', wrr_e]
  have g5 : zM' 5 = upd (zM 5) S.length (nI a) := by rw [hM']; simp (disch := omega) only [wrr_n, wrr_e]
  have g6 : zM' 6 = upd (zM 6) S.length (nI b) := by rw [hM']; simp (disch := omega) only [wrr_n, wrr_e]
  have g7 : zM' 7 = upd (zM 7) S.length (bI c) := by rw [hM']; simp (disch := omega) only [wrr_n, wrr_e]
  have g8 : zM' 8 = upd (zM 8) S.length (nI 1) := by rw [hM']; simp (disch := omega) only [wrr_n, wrr_e]
  refine ⟨zX', zM', ?_, ?_, ⟨⟨hH.fr fun j hj => fX j (by omega), ⟨?_, ?_, fun s hs => ?_, fun s hs => ?_⟩, hq.fr (fX 17 (by omega)), ?_, ?_⟩, ⟨?_, ⟨?_, fun s hs => ?_⟩, Or.inl (by rw [g0, upd_e])⟩, ⟨⟨by omega, fun s hs => ?_⟩, ⟨fun s hs => ?_, ?_⟩, hB.2.2.1, fun l hl => (hB.2.2.2 l hl).more⟩, ?_, ?_⟩, fX, gM, fun f h1 h2 => by rw [g0, upd_n h2, upd_n h1]⟩
  · unfold fX5_add
    rw [hX']
    simp (disch := omega) only [x1, x2, lit, nI_ltI, if_pos, inb_t, gd_t, wr_nI, bnd_s, wrr_n, wrr_e, wrr_wrr, zb_bI, wf_w, upd_n, upd_e, nI_add, nI_sub]
    simp only [Nat.add_sub_cancel]
  · unfold fX9_take
    rw [hM']
    simp (disch := omega) only [hMs.1, lit, inb_t, gd_t, wr_nI, bnd_s, wrr_n, wrr_e, wrr_wrr, zb_bI, zb_1, wf_w, upd_n, upd_e, nI_add, nI_sub]
    simp only [Nat.add_sub_cancel]
  · rw [f11, upd_n (by omega), upd_e, lenS]
  · rw [f11, upd_e, lenS, cnt_s, tkx_e, cnt_cong (p := tkx tk S.length true) (q := tk) (fun i hi => tkx_n (by omega))]
    rfl
  · rw [lenS] at hs
    rw [f12, f13, f14]
    by_cases e : s = S.length
    · subst e
      rw [upd_e, upd_e, upd_e, sS_r.1, sS_r.2.1, sS_r.2.2]
      exact ⟨rfl, rfl, rfl⟩
    · have w := sS_l (R := [(c, a, b)]) (show s < S.length by omega)
      rw [upd_n e, upd_n e, upd_n e, w.1, w.2.1, w.2.2]
      exact x3 s (by omega)
  · rw [f15]
    by_cases e : s = S.length
    · subst e; rw [upd_e, tkx_e]; rfl
    · rw [upd_n e, tkx_n e]; exact x4 s hs
  · obtain ⟨ro, h⟩ := hb
    exact ⟨ro, h.fr fun j hj => fX j (by omega)⟩
  · obtain ⟨ro, h⟩ := hj
    rw [EX_app ht]
    exact ⟨ro, h.fr fun j hj => fX j (by omega)⟩
  · exact hM.fr (by rw [g0, upd_n (by omega), upd_n (by omega)]) fun j h1 h2 => gM j (by omega) (by omega)
  · rw [g0, upd_n (by omega), upd_e, lenS]
  · rw [lenS] at hs
    rw [g5, g6, g7, g8]
    by_cases e : s = S.length
    · subst e
      rw [upd_e, upd_e, upd_e, upd_e, sS_r.1, sS_r.2.1, sS_r.2.2, tkx_e]
      exact ⟨rfl, rfl, rfl, rfl⟩
    · have w := sS_l (R := [(c, a, b)]) (show s < S.length by omega)
      rw [upd_n e, upd_n e, upd_n e, upd_n e, w.1, w.2.1, w.2.2, tkx_n e]
      exact hMs.2 s (by omega)
  · rw [lenS] at hs
    by_cases e : s = S.length
    · subst e
      rw [sS_r.2.1, sS_r.2.2]; exact ⟨ha, hbl⟩
    · have w := sS_l (R := [(c, a, b)]) (show s < S.length by omega)
      rw [w.2.1, w.2.2]; exact hB.1.2 s (by omega)
  · by_cases e : s = S.length
    · omega
    · rw [tkx_n e] at hs
      have := ht s hs
      omega
  · rw [EX_app ht, UX_app ht]; exact hcon
  · exact hR.fr (Nat.le_refl _) (Nat.le_refl _) (fun j hj => fX j (by omega)) (by rw [fX 0 (by omega)]) (by rw [fX 0 (by omega)]) (by rw [f11, upd_n (by omega), upd_n (by omega)]) (fun j h1 h2 => gM j (by omega) (by omega)) (fun f hf => by rw [g0, upd_n (by omega), upd_n (by omega)])
  · exact hK.fr (fun j h1 h2 => fX j (by omega)) (fun j hj => gM j (by omega) (by omega)) (fun f hf => by rw [g0, upd_n (by omega), upd_n (by omega)])
theorem ThI.cong {P P' : (Nat → Prop) → Prop} {A : Nat → Prop} {K : List Nat} (hP : ∀ J : Nat → Prop, (∀ s, J s → A s) → (P J ↔ P' J)) (h : ThI P A K) : ThI P' A K := by
  refine ⟨h.1, h.2.1, fun s hs => ?_⟩
  rw [h.2.2 s hs, hP _ fun t ht => ?_]
  rcases ht with ht | ht
  · exact h.2.1 t ht.1
  · exact ht.1
/-- a core is written by both -/
theorem RQ.core (h : RQ i T S tk lv rm ps pt zX zM) (hA : HA [] [] z) {cell c2 fld : Nat} (hc : (cell = 69 ∧ c2 = 17 ∧ fld = 22) ∨ (cell = 71 ∧ c2 = 18 ∧ fld = 24)) (eX : XFr pt cell (cell + 1) zX z) (hM : RM T S tk z') (eM : MFr c2 fld zM z') {K : List Nat} (x : XCr cell K z) (m : MCr c2 fld K z') : RQ i T S tk lv rm ps pt z z' := by
  obtain ⟨h1, h2, h3, h4, ⟨C, k1, k2⟩, D, k3, k4⟩ := h
  have hn := h1.2.2.1.num
  refine ⟨h1.sc hA (fun j g1 g2 => eX j (by omega) (by omega) (by omega) (by omega) (by omega) (by omega)) (fun j g1 g2 g3 => eX j (by omega) (by omega) (by omega) g3 (by omega) (by omega)), hM, h3, h4.fr (Nat.le_refl _) (Nat.le_refl _) (fun j hj => eX j (by omega) (by omega) (by omega) (by omega) (by omega) (by omega)) (by rw [eX 0 (by omega) (by omega) (by omega) (by omega) (by omega) (by omega)]) (by rw [eX 0 (by omega) (by omega) (by omega) (by omega) (by omega) (by omega)]) (by rw [eX 11 (by omega) (by omega) (by omega) (by omega) (by omega) (by omega)]) (fun j g1 g2 => eM.1 j (by omega) (by omega) (by omega) (by omega) (by omega)) (fun f hf => eM.2.2 f (by omega) (by omega)), ?_⟩
  rcases hc with ⟨rfl, rfl, rfl⟩ | ⟨rfl, rfl, rfl⟩
  · exact ⟨⟨K, x, m⟩, D, k3.fr (eX 71 (by omega) (by omega) (by omega) (by omega) (by omega) (by omega)) (eX 72 (by omega) (by omega) (by omega) (by omega) (by omega) (by omega)), k4.fr (eM.2.2 24 (by omega) (by omega)) (eM.1 18 (by omega) (by omega) (by omega) (by omega) (by omega))⟩
  · exact ⟨⟨C, k1.fr (eX 69 (by omega) (by omega) (by omega) (by omega) (by omega) (by omega)) (eX 70 (by omega) (by omega) (by omega) (by omega) (by omega) (by omega)), k2.fr (eM.2.2 22 (by omega) (by omega)) (eM.1 17 (by omega) (by omega) (by omega) (by omega) (by omega))⟩, K, x, m⟩
theorem RX.xt (h : RX T S tk ps pt z) : XTk T S tk ps pt z := ⟨h.2.2.1, h.2.1, h.2.2.2.1⟩
theorem full_ok (h : RQ i T S tk lv rm ps pt zX zM) : (S.length < 100 ∧ fX5_isFull zX = some (nI 0) ∧ ¬ zM 0 9 = nI 100) ∨ (fX5_isFull zX = some (nI 1) ∧ zM 0 9 = nI 100) := by
  have hl := h.2.2.1.1.1
  have e1 := h.1.2.1.1
  have e2 := h.2.1.2.1.1
  unfold fX5_isFull
  by_cases q : S.length < 100
  · left
    refine ⟨q, ?_, ?_⟩
    · simp (disch := omega) only [e1, lit, nI_ltI, if_pos]
    · rw [e2, nI_eq (by omega) (by omega)]; omega
  · right
    refine ⟨?_, ?_⟩
    · simp (disch := omega) only [e1, lit, nI_ltI, if_neg]
    · rw [e2]; congr 1; omega
/-- a saying that two are the same is tried by both -/
theorem try_both (h : RQ i T S tk lv rm ps pt zX zM) (ha : a < T.length) (hb : b < T.length) (hl : S.length < 100) : (∃ z1 z2 zM1, fX2_wouldClash zX (nI a) (nI b) = some (nI 1, z1) ∧ fX2_thin z1 (nI 0) (nI a) (nI b) 69 = some z2 ∧ fX9_wouldClash zM (nI a) (nI b) (nI 1) = some (nI 1, zM1) ∧ RQ i T S tk lv rm ps pt z2 zM1 ∧ (∀ j, 58 ≤ j → j ≠ 69 → j ≠ 70 → z2 j = zX j) ∧ (∀ j, 22 ≤ j → zM1 j = zM j) ∧ (∀ f, f ≠ 30 → f ≠ 22 → zM1 0 f = zM 0 f)) ∨ (∃ z1 z2 z3 zM1 zM2, fX2_wouldClash zX (nI a) (nI b) = some (nI 0, z1) ∧ fX2_acceptTrial z1 = some z2 ∧ fX5_add z2 (nI 1) (nI a) (nI b) = some (nI S.length, z3) ∧ fX9_wouldClash zM (nI a) (nI b) (nI 1) = some (nI 0, zM1) ∧ fX9_take zM1 (nI a) (nI b) (nI 1) = some (nI S.length, zM2) ∧ RQ i T (S ++ [(true, a, b)]) (tkx tk S.length true) lv rm pt ps z3 zM2 ∧ (∀ j, 58 ≤ j → z3 j = zX j) ∧ (∀ j, 22 ≤ j → zM2 j = zM j) ∧ (∀ f, f ≠ 30 → f ≠ 9 → zM2 0 f = zM 0 f)) := by
  have h' := h
  obtain ⟨h1, h2, h3, h4, h5⟩ := h'
  have hW := h1.1.1
  have ht := h3.2.1.1
  have hn := h1.2.2.1.num
  have hx : ∀ c' a' b', some (true, a, b) = some (c', a', b') → a' < T.length ∧ b' < T.length := fun c' a' b' e => by cases e; exact ⟨ha, hb⟩
  obtain ⟨ro, hj⟩ := h1.2.2.2.2
  obtain ⟨r, z1, x1, x2, x3, x4⟩ := wouldClashX_ok hW h3.1 ht h1.2.2.1 h1.2.1 hj ha hb
  obtain ⟨r', zM1, y1, y2, y3, y4⟩ := wouldClashM_ok (c := true) hW h3.1 ht h2 ha hb
  rcases x4 with ⟨rfl, x4⟩ | ⟨rfl, x4, ro', x5⟩
  · rcases y4 with ⟨rfl, y4, _⟩ | ⟨rfl, y4, K, y5, y6⟩
    · exact absurd x4 y4
    · left
      have f1 : XFr pt 69 70 zX z1 := fun j _ _ g1 g2 _ _ => x3 j g1 g2
      have hk1 := h1.xt.fr x2 f1 (by omega) (by omega)
      obtain ⟨K', z2, d1, d2, d3, d4, d5⟩ := thin_ok (cell := 69) hW h3.1 ht hx (thG_clash hW h3.1 ht) (thS_clash hW ha hb) (Or.inl rfl) hk1 x4
      have eK := ThI.uniq d2 y5
      subst eK
      exact ⟨z1, z2, zM1, x1, d1, y1, h.core d4 (Or.inl ⟨rfl, rfl, rfl⟩) (f1.tr d5) y2 y3 d3 y6, fun j g1 g2 g3 => by rw [d5 j (by omega) (by omega) (by omega) (by omega) g2 g3, x3 j (by omega) (by omega)], fun j hj => y3.1 j (by omega) (by omega) (by omega) (by omega) (by omega), fun f g1 g2 => y3.2.2 f g1 g2⟩
  · rcases y4 with ⟨rfl, y4, y5⟩ | ⟨rfl, y4, _⟩
    · right
      obtain ⟨z2, d1, d2, d3⟩ := acceptTrial_ok (h1.2.2.1.fr (x3 17 (by omega) (by omega)))
      have eX : ∀ j, ¬ (23 ≤ j ∧ j ≤ 27) → ¬ (pt ≤ j ∧ j ≤ pt + 9) → j ≠ 17 → z2 j = zX j := fun j g1 g2 g3 => by rw [d3 j g3, x3 j g1 g2]
      obtain ⟨ro0, hb0⟩ := h1.2.2.2.1
      have hb1 := (hb0.fr2 x2 fun j hj => x3 j (by omega) (by omega)).fr fun j hj => d3 j (by omega)
      have hj1 := x5.fr fun j hj => d3 j (by omega)
      have hR := h4.fr (z := z2) (z' := zM1) (Nat.le_refl _) (Nat.le_refl _) (fun j hj => eX j (by omega) (by omega) (by omega)) (by rw [eX 0 (by omega) (by omega) (by omega)]) (by rw [eX 0 (by omega) (by omega) (by omega)]) (by rw [eX 11 (by omega) (by omega) (by omega)]) (fun j g1 g2 => y5.1 j (by omega) (by omega) (by omega) (by omega) (by omega)) (fun f hf => y5.2.2 f (by omega) (by omega))
      have hK := h5.fr (z := z2) (z' := zM1) (fun j g1 g2 => eX j (by omega) (by omega) (by omega)) (fun j hj => y5.1 j (by omega) (by omega) (by omega) (by omega) (by omega)) (fun f hf => y5.2.2 f (by omega) (by omega))
      obtain ⟨z3, zM2, t1, t2, t3, t4, t5, t6⟩ := take_both (c := true) (a := a) (b := b) (h1.1.fr fun j hj => eX j (by omega) (by omega) (by omega)) (h1.2.1.fr fun j g1 g2 => eX j (by omega) (by omega) (by omega)) d2 ⟨ro0, hb1⟩ ⟨ro', hj1⟩ y2.1 y2.2.1 h3 x4 hR hK hl ha hb
      exact ⟨z1, z2, z3, zM1, zM2, x1, d1, t1, y1, t2, t3, fun j hj => by rw [t4 j (by omega), eX j (by omega) (by omega) (by omega)], fun j hj => by rw [t5 j (by omega) (by omega), y5.1 j (by omega) (by omega) (by omega) (by omega) (by omega)], fun f g1 g2 => by rw [t6 f g2 g1, y5.2.2 f g1 g1]⟩
    · exact absurd y4 x4
end TAKE
