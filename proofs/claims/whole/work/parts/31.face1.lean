/-! the face: terms -/
theorem rng {x : Int32} {a b : Nat} (ha : a < 2 ^ 31) (hb : b < 2 ^ 31) (h1 : ¬ x < nI a) (h2 : ¬ nI b < x) : ∃ k, a ≤ k ∧ k ≤ b ∧ x = nI k := by
  rw [Int32.lt_iff_toInt_lt, nI_toInt ha] at h1
  rw [Int32.lt_iff_toInt_lt, nI_toInt hb] at h2
  refine ⟨x.toInt.toNat, by omega, by omega, Int32.toInt_inj.mp ?_⟩
  rw [nI_toInt (by omega)]
  omega
theorem lt_le {x : Int32} {n : Nat} (hn : n + 1 < 2 ^ 31) : (x < nI (n + 1)) ↔ (x ≤ nI n) := by
  rw [Int32.lt_iff_toInt_lt, Int32.le_iff_toInt_le, nI_toInt hn, nI_toInt (by omega)]
  omega
theorem nle_lt {x y : Int32} : (¬ x ≤ y) ↔ y < x := by
  rw [Int32.lt_iff_toInt_lt, Int32.le_iff_toInt_le]; omega
theorem nlt_le {x y : Int32} : (¬ x < y) ↔ y ≤ x := by
  rw [Int32.lt_iff_toInt_lt, Int32.le_iff_toInt_le]; omega
theorem pe_ge {l : List Nat} {i : Nat} (h : l.length ≤ i) : pe l i = -(nI 1) := by
  unfold pe; rw [if_neg (by omega)]; rfl
theorem pe_lt {l : List Nat} {i : Nat} (h : i < l.length) : pe l i = nI (l.getD i 0) := by
  unfold pe; rw [if_pos h]
theorem nno (a b : Nat) {p : Prop} (ha : a < 2 ^ 31) (hb : b < 2 ^ 31) (hn : a ≠ b) (h : nI a = nI b) : p := absurd ((nI_eq ha hb).mp h) hn
section FACE1
variable {T : List Tm} {S : List Sy} {tk : Nat → Bool} {lv : Nat} {rm : Nat → Nat → Bool} {ps pt i : Nat} {zX zM : fS}
theorem has_ok (h : RQ i T S tk lv rm ps pt zX zM) (a : Int32) : (fX7_has zX a = some (nI 0) ∧ fX9_isTerm zM a = some (nI 0)) ∨ ∃ m, m < T.length ∧ a = nI m ∧ fX7_has zX a = some (nI 1) ∧ fX9_isTerm zM a = some (nI 1) := by
  have hT1 := h.1.1.1.1
  have e1 := h.1.1.2.2.1.1
  have e2 := h.2.1.1.1
  unfold fX7_has fX9_isTerm
  rw [e1, e2]
  by_cases q1 : a < nI 0
  · left
    simp only [lit, if_pos q1, and_self]
  · by_cases q2 : nI T.length ≤ a
    · left
      simp only [lit, if_neg q1, if_pos q2, and_self]
    · right
      obtain ⟨k, _, k2, rfl⟩ := rng (x := a) (a := 0) (b := T.length) (by omega) (by omega) q1 (by
        rw [nlt_le]
        rw [nle_lt] at q2
        rw [Int32.lt_iff_toInt_lt] at q2
        rw [Int32.le_iff_toInt_le]; omega)
      rw [nI_leI (by omega) (by omega)] at q2
      refine ⟨k, by omega, rfl, ?_⟩
      simp (disch := omega) only [lit, nI_ltI, nI_leI, if_neg, and_self]
theorem RQ.as (h : RQ i T S tk lv rm ps pt zX zM) (f : Nat → Int32) : RQ i T S tk lv rm ps pt zX (wrr zM 19 f) :=
  h.sc h.1.ag (fun _ _ => rfl) (h.2.1.fr h.2.2.1.1.1 (fun f _ => by rw [wrr_n (by omega)]) (fun j _ _ => wrr_n (by omega)) (wrr_n (by omega))) (fun j _ _ => wrr_n (by omega)) (fun f _ _ _ => by rw [wrr_n (by omega)])
theorem up_ok (h : Rel i zX zM) : Rel (i + 1) zX zM := by
  obtain ⟨h0, T, S, tk, lv, rm, ps, pt, h⟩ := h
  exact ⟨h0, T, S, tk, lv, rm, ps, pt, h.up⟩
end FACE1
theorem s_name : st_name Rel := by
  intro i zX zM a _ ⟨h0, T, S, tk, lv, rm, ps, pt, h⟩
  unfold fX8_name fX9_name
  by_cases q1 : a < nI 0
  · refine ⟨-(nI 1), _, _, ?_, ?_, h.fin (nI 1)⟩
    · simp only [lit, if_pos q1, refX, bd_s]
    · simp only [lit, if_pos q1, refM, bd_s]
  · by_cases q2 : a ≤ nI 99
    · have q3 : a < nI 100 := (lt_le (by omega)).mpr q2
      have hp : ∀ j, pe ([] : List Nat) j = -(nI 1) := fun j => pe_ge (by simp)
      obtain ⟨r, tX, tM, e1, e2, e3⟩ := both_make (tm := (nI 0, a, [])) h ⟨by simp, by simp, nno 0 3 (by omega) (by omega) (by omega), nno 0 4 (by omega) (by omega) (by omega), fun _ => rfl, fun _ => rfl⟩ (fun j hj => by simp at hj)
      refine ⟨r, tX, tM, ?_, ?_, e3⟩
      · simp only [hp] at e1
        simp only [lit, litm, if_neg q1, if_pos q3, e1, bd_s]
      · simp only [lit, if_neg q1, if_pos q2]
        exact e2
    · have q3 : ¬ a < nI 100 := fun h => q2 ((lt_le (by omega)).mp h)
      refine ⟨-(nI 1), _, _, ?_, ?_, h.fin (nI 1)⟩
      · simp only [lit, if_neg q1, if_neg q3, refX, bd_s]
      · simp only [lit, if_neg q1, if_neg q2, refM, bd_s]
theorem s_number : st_number Rel := by
  intro i zX zM a _ ⟨h0, T, S, tk, lv, rm, ps, pt, h⟩
  unfold fX8_number fX9_number
  have hp : ∀ j, pe ([] : List Nat) j = -(nI 1) := fun j => pe_ge (by simp)
  obtain ⟨r, tX, tM, e1, e2, e3⟩ := both_make (tm := (nI 1, a, [])) h ⟨by simp, by simp, nno 1 3 (by omega) (by omega) (by omega), nno 1 4 (by omega) (by omega) (by omega), fun _ => rfl, fun _ => rfl⟩ (fun j hj => by simp at hj)
  refine ⟨r, tX, tM, ?_, e2, e3⟩
  simp only [hp] at e1
  simp only [lit, litm, e1, bd_s]
theorem s_row : st_row Rel := by
  intro i zX zM a b _ ⟨h0, T, S, tk, lv, rm, ps, pt, h⟩
  unfold fX8_row fX9_row
  rcases has_ok h a with ⟨x1, x2⟩ | ⟨m, m1, rfl, x1, x2⟩
  · refine ⟨-(nI 1), _, _, ?_, ?_, h.fin (nI 1)⟩
    · simp only [x1, bp_s, lit, if_true, refX, bd_s]
    · simp only [x2, bp_s, lit, if_true, refM, bd_s]
  · rcases has_ok h b with ⟨y1, y2⟩ | ⟨n, n1, rfl, y1, y2⟩
    · refine ⟨-(nI 1), _, _, ?_, ?_, h.fin (nI 1)⟩
      · simp (disch := omega) only [x1, y1, bp_s, lit, nI_eq, if_neg, if_true, refX, bd_s]
      · simp (disch := omega) only [x2, y2, bp_s, lit, nI_eq, if_neg, if_true, refM, bd_s]
    · have h' := h.as (upd (upd (zM 19) 0 (nI m)) 1 (nI n))
      obtain ⟨r, tX, tM, e1, e2, e3⟩ := both_make (tm := (nI 3, nI 0, [m, n])) h' ⟨by simp, by simp; omega, fun _ => rfl, fun _ => rfl, nno 3 1 (by omega) (by omega) (by omega), nno 3 0 (by omega) (by omega) (by omega)⟩ (fun j hj => by
        rw [wrr_e]
        rcases (show j = 0 ∨ j = 1 by simp at hj; omega) with rfl | rfl
        · rw [upd_n (by omega), upd_e]; rfl
        · rw [upd_e]; rfl)
      rw [pe_lt (show 0 < [m, n].length by simp), pe_lt (show 1 < [m, n].length by simp), pe_ge (show [m, n].length ≤ 2 by simp)] at e1
      refine ⟨r, tX, tM, ?_, ?_, e3⟩
      · simp (disch := omega) only [x1, y1, bp_s, lit, litm, nI_eq, if_neg]
        have e1' : fX8_madeTerm zX (nI 3) (nI 0) (nI m) (nI n) (-nI 1) = some (r, tX) := e1
        rw [e1', bd_s]
      · simp (disch := omega) only [x2, y2, bp_s, lit, nI_eq, if_neg, inb_t, gd_t, wr_nI, bnd_s, wrr_wrr, wrr_e]
        exact e2
theorem s_even : st_even Rel := by
  intro i zX zM hd a b _ ⟨h0, T, S, tk, lv, rm, ps, pt, h⟩
  unfold fX8_even fX9_even
  by_cases q1 : hd < nI 0
  · refine ⟨-(nI 1), _, _, ?_, ?_, h.fin (nI 1)⟩
    · simp only [lit, if_pos q1, refX, bd_s]
    · simp only [lit, if_pos q1, refM, bd_s]
  · by_cases q2 : nI 19 < hd
    · have q3 : nI 20 ≤ hd := by
        rw [← nlt_le, lt_le (by omega), nle_lt]; exact q2
      refine ⟨-(nI 1), _, _, ?_, ?_, h.fin (nI 1)⟩
      · simp only [lit, if_neg q1, if_pos q3, refX, bd_s]
      · simp only [lit, if_neg q1, if_pos q2, refM, bd_s]
    · have q3 : ¬ nI 20 ≤ hd := by
        rw [nle_lt, lt_le (by omega), ← nlt_le]; exact q2
      rcases has_ok h a with ⟨x1, x2⟩ | ⟨m, m1, rfl, x1, x2⟩
      · refine ⟨-(nI 1), _, _, ?_, ?_, h.fin (nI 1)⟩
        · simp only [lit, if_neg q1, if_neg q3, x1, bp_s, if_true, refX, bd_s]
        · simp only [lit, if_neg q1, if_neg q2, x2, bp_s, if_true, refM, bd_s]
      · rcases has_ok h b with ⟨y1, y2⟩ | ⟨n, n1, rfl, y1, y2⟩
        · refine ⟨-(nI 1), _, _, ?_, ?_, h.fin (nI 1)⟩
          · simp (disch := first | omega | assumption) only [lit, if_neg q1, if_neg q3, x1, y1, bp_s, nI_eq, if_neg, if_true, refX, bd_s]
          · simp (disch := first | omega | assumption) only [lit, if_neg q1, if_neg q2, x2, y2, bp_s, nI_eq, if_neg, if_true, refM, bd_s]
        · have h' := h.as (upd (upd (zM 19) 0 (nI m)) 1 (nI n))
          obtain ⟨r, tX, tM, e1, e2, e3⟩ := both_make (tm := (nI 4, hd, [m, n])) h' ⟨by simp, by simp; omega, fun _ => rfl, fun _ => rfl, nno 4 1 (by omega) (by omega) (by omega), nno 4 0 (by omega) (by omega) (by omega)⟩ (fun j hj => by
            rw [wrr_e]
            rcases (show j = 0 ∨ j = 1 by simp at hj; omega) with rfl | rfl
            · rw [upd_n (by omega), upd_e]; rfl
            · rw [upd_e]; rfl)
          rw [pe_lt (show 0 < [m, n].length by simp), pe_lt (show 1 < [m, n].length by simp), pe_ge (show [m, n].length ≤ 2 by simp)] at e1
          refine ⟨r, tX, tM, ?_, ?_, e3⟩
          · simp (disch := first | omega | assumption) only [lit, litm, if_neg q1, if_neg q3, x1, y1, bp_s, nI_eq, if_neg]
            have e1' : fX8_madeTerm zX (nI 4) hd (nI m) (nI n) (-nI 1) = some (r, tX) := e1
            rw [e1', bd_s]
          · simp (disch := first | omega | assumption) only [lit, if_neg q1, if_neg q2, x2, y2, bp_s, nI_eq, if_neg, inb_t, gd_t, wr_nI, bnd_s, wrr_wrr, wrr_e]
            exact e2
theorem s_built : st_built Rel := by
  intro i zX zM hd n a b c _ ⟨h0, T, S, tk, lv, rm, ps, pt, h⟩
  have R1 : ∃ r tX tM, (bd (fX8_refused zX (nI 1)) fun r z => some (r, z)) = some (r, tX) ∧ (bd (fX9_refuse zM (nI 1)) fun r z => some (r, z)) = some (r, tM) ∧ Rel (i + 1) tX tM := ⟨-(nI 1), _, _, rfl, rfl, h.fin (nI 1)⟩
  unfold fX8_built fX9_built
  simp only [lit]
  by_cases q1 : hd < nI 0
  · simp only [if_pos q1]; exact R1
  · by_cases q2 : hd ≤ nI 19
    · have q3 : hd < nI 20 := (lt_le (by omega)).mpr q2
      simp only [if_neg q1, if_pos q2, if_pos q3]
      by_cases q4 : nI 0 ≤ n
      · simp only [if_pos q4]
        by_cases q5 : n < nI 1
        · simp only [if_pos q5]; exact R1
        · simp only [if_neg q5]
          by_cases q6 : nI 3 < n
          · simp only [if_pos q6]; exact R1
          · simp only [if_neg q6]
            obtain ⟨k, k1, k3, rfl⟩ := rng (by omega) (by omega) q5 q6
            rcases has_ok h a with ⟨x1, x2⟩ | ⟨m, m1, rfl, x1, x2⟩
            · simp only [x1, x2, bp_s, if_true]; exact R1
            · simp (disch := omega) only [x1, x2, bp_s, nI_eq, if_neg, nI_leI]
              have fin : ∀ l : List Nat, l.length = k → (∀ p, p ∈ l → p < T.length) → pe l 0 = nI m → l.getD 0 0 = m → (1 < k → b = nI (l.getD 1 0)) → (2 < k → c = nI (l.getD 2 0)) → ∃ r tX tM, jX8_built_88 hd (nI k) (nI m) b c zX = some (r, tX) ∧ jX9_built_79 hd (nI k) (nI m) b c zM = some (r, tM) ∧ Rel (i + 1) tX tM := by
                intro l hl hp p0 g0 hb hc
                have h' := h.as (upd (upd (upd (zM 19) 0 (nI m)) 1 b) 2 c)
                obtain ⟨r, tX, tM, e1, e2, e3⟩ := both_make (tm := (nI 2, hd, l)) h' ⟨by show l.length ≤ 3; omega, hp, nno 2 3 (by omega) (by omega) (by omega), nno 2 4 (by omega) (by omega) (by omega), nno 2 1 (by omega) (by omega) (by omega), nno 2 0 (by omega) (by omega) (by omega)⟩ (fun j hj => by
                  have hj' : j < l.length := hj
                  show _ = nI (l.getD j 0)
                  rw [wrr_e]
                  rcases (show j = 0 ∨ j = 1 ∨ j = 2 by omega) with rfl | rfl | rfl
                  · rw [upd_n (by omega), upd_n (by omega), upd_e, g0]
                  · rw [upd_n (by omega), upd_e]; exact hb (by omega)
                  · rw [upd_e]; exact hc (by omega))
                have e1' : fX8_madeTerm zX (nI 2) hd (pe l 0) (pe l 1) (pe l 2) = some (r, tX) := e1
                have e2' : (bd (fX9_made (wrr zM 19 (upd (upd (upd (zM 19) 0 (nI m)) 1 b) 2 c)) (nI 2) hd (nI l.length)) fun r4 z4 => bd (fX9_answer z4 r4) fun r8 z8 => some (r8, z8)) = some (r, tM) := e2
                refine ⟨r, tX, tM, ?_, ?_, e3⟩
                · unfold jX8_built_88 jX8_built_103
                  rcases (show k = 1 ∨ k = 2 ∨ k = 3 by omega) with rfl | rfl | rfl
                  · rw [p0, pe_ge (by omega), pe_ge (by omega)] at e1'
                    simp (disch := omega) only [lit, litm, nI_leI, if_pos, e1', bd_s]
                  · rw [p0, pe_lt (by omega), ← hb (by omega), pe_ge (by omega)] at e1'
                    simp (disch := omega) only [lit, litm, nI_leI, if_pos, if_neg, e1', bd_s]
                  · rw [p0, pe_lt (by omega), ← hb (by omega), pe_lt (by omega), ← hc (by omega)] at e1'
                    simp (disch := omega) only [lit, litm, nI_leI, if_pos, if_neg, e1', bd_s]
                · unfold jX9_built_79
                  rw [hl] at e2'
                  simp (disch := omega) only [lit, inb_t, gd_t, wr_nI, bnd_s, wrr_wrr, wrr_e]
                  exact e2'
              rcases (show k = 1 ∨ k = 2 ∨ k = 3 by omega) with rfl | rfl | rfl
              · obtain ⟨r, tX, tM, e1, e2, e3⟩ := fin [m] rfl (by simp; omega) rfl rfl (fun h => by omega) (fun h => by omega)
                refine ⟨r, tX, tM, ?_, ?_, e3⟩
                · simp (disch := omega) only [if_pos]
                  unfold jX8_built_65
                  simp (disch := omega) only [lit, nI_leI, if_pos]
                  exact e1
                · simp (disch := omega) only [if_pos]
                  unfold jX9_built_59
                  simp (disch := omega) only [lit, nI_leI, if_pos]
                  exact e2
              · rcases has_ok h b with ⟨y1, y2⟩ | ⟨m2, m3, rfl, y1, y2⟩
                · simp (disch := omega) only [if_neg, y1, y2, bp_s, if_true]; exact R1
                · obtain ⟨r, tX, tM, e1, e2, e3⟩ := fin [m, m2] rfl (by simp; omega) rfl rfl (fun h => rfl) (fun h => by omega)
                  refine ⟨r, tX, tM, ?_, ?_, e3⟩
                  · simp (disch := omega) only [if_neg, y1, bp_s, nI_eq]
                    unfold jX8_built_65
                    simp (disch := omega) only [lit, nI_leI, if_pos]
                    exact e1
                  · simp (disch := omega) only [if_neg, y2, bp_s, nI_eq]
                    unfold jX9_built_59
                    simp (disch := omega) only [lit, nI_leI, if_pos]
                    exact e2
              · rcases has_ok h b with ⟨y1, y2⟩ | ⟨m2, m3, rfl, y1, y2⟩
                · simp (disch := omega) only [if_neg, y1, y2, bp_s, if_true]; exact R1
                · rcases has_ok h c with ⟨w1, w2⟩ | ⟨m4, m5, rfl, w1, w2⟩
                  · simp (disch := omega) only [if_neg, y1, y2, bp_s, nI_eq]
                    unfold jX8_built_65 jX9_built_59
                    simp (disch := omega) only [lit, nI_leI, if_neg, w1, w2, bp_s, if_true]
                    exact R1
                  · obtain ⟨r, tX, tM, e1, e2, e3⟩ := fin [m, m2, m4] rfl (by simp; omega) rfl rfl (fun h => rfl) (fun h => rfl)
                    refine ⟨r, tX, tM, ?_, ?_, e3⟩
                    · simp (disch := omega) only [if_neg, y1, bp_s, nI_eq]
                      unfold jX8_built_65
                      simp (disch := omega) only [lit, nI_leI, if_neg, w1, bp_s, nI_eq]
                      exact e1
                    · simp (disch := omega) only [if_neg, y2, bp_s, nI_eq]
                      unfold jX9_built_59
                      simp (disch := omega) only [lit, nI_leI, if_neg, w2, bp_s, nI_eq]
                      exact e2
      · simp only [if_neg q4]
        exact ⟨-(nI 1), _, _, rfl, rfl, h.fin (nI 8)⟩
    · have q3 : ¬ hd < nI 20 := fun h => q2 ((lt_le (by omega)).mp h)
      simp only [if_neg q1, if_neg q2, if_neg q3]; exact R1
theorem s_kind : st_kind Rel := by
  intro i zX zM a _ hr
  obtain ⟨h0, T, S, tk, lv, rm, ps, pt, h⟩ := id hr
  have hT1 := h.1.1.1.1
  unfold fX8_kind fX9_kind
  rcases has_ok h a with ⟨x1, x2⟩ | ⟨m, m1, rfl, x1, x2⟩
  · refine ⟨-(nI 1), ?_, ?_, up_ok hr⟩
    · simp only [x1, bp_s, lit, litm, if_true]
    · simp only [x2, bp_s, lit, litm, if_true]
  · have e1 := (h.1.1.2.2.1.2 m m1).1
    have e2 := (h.2.1.1.2 m m1).1
    refine ⟨kd T m, ?_, ?_, up_ok hr⟩
    · unfold fX7_kindOf
      simp (disch := omega) only [x1, bp_s, lit, nI_eq, if_neg, inb_t, gd_t, rd_nI, e1]
    · simp (disch := omega) only [x2, bp_s, lit, nI_eq, if_neg, inb_t, gd_t, rd_nI, e2]
theorem s_part : st_part Rel := by
  intro i zX zM a b _ ⟨h0, T, S, tk, lv, rm, ps, pt, h⟩
  have hT1 := h.1.1.1.1
  unfold fX8_part fX9_part
  rcases has_ok h a with ⟨x1, x2⟩ | ⟨m, m1, rfl, x1, x2⟩
  · refine ⟨-(nI 1), _, _, ?_, ?_, h.fin (nI 1)⟩
    · simp only [x1, bp_s, lit, if_true, refX, bd_s]
    · simp only [x2, bp_s, lit, if_true, refM, bd_s]
  · have e1 := (h.1.1.2.2.1.2 m m1).2.2
    have e2 := (h.2.1.1.2 m m1).2.2
    have hs := (h.1.1.1.2 m m1).1
    unfold fX7_sizeOf fX7_partOf
    simp (disch := omega) only [x1, x2, bp_s, lit, nI_eq, if_neg, inb_t, gd_t, rd_nI, e1.1, e2.1]
    by_cases q0 : sz T m = 0
    · simp only [if_pos q0]
      exact ⟨-(nI 1), _, _, rfl, rfl, h.fin (nI 2)⟩
    · simp only [if_neg q0]
      by_cases q1 : b < nI 0
      · simp only [if_pos q1]
        exact ⟨-(nI 1), _, _, rfl, rfl, h.fin (nI 1)⟩
      · simp only [if_neg q1]
        by_cases q2 : b < nI (sz T m)
        · simp only [if_pos q2]
          obtain ⟨k, _, k2, rfl⟩ := rng (x := b) (a := 0) (b := sz T m) (by omega) (by omega) q1 (by
            rw [nlt_le, ← nlt_le]
            intro hh
            rw [Int32.lt_iff_toInt_lt] at hh q2
            omega)
          rw [nI_ltI (by omega) (by omega)] at q2
          have e3 := e1.2 k (by omega)
          rw [if_pos q2] at e3
          have e4 := e2.2 k q2
          simp (disch := omega) only [nI_mul, nI_add, inb_t, gd_t, rd_nI, e3, e4, bp_s]
          exact ⟨_, _, _, rfl, rfl, h.fin (nI 0)⟩
        · simp only [if_neg q2]
          exact ⟨-(nI 1), _, _, rfl, rfl, h.fin (nI 1)⟩
theorem s_shows : st_shows Rel := by
  intro i zX zM a _ ⟨h0, T, S, tk, lv, rm, ps, pt, h⟩
  have hT1 := h.1.1.1.1
  unfold fX8_shows fX9_shows
  rcases has_ok h a with ⟨x1, x2⟩ | ⟨m, m1, rfl, x1, x2⟩
  · refine ⟨-(nI 1), _, _, ?_, ?_, h.fin (nI 1)⟩
    · simp only [x1, bp_s, lit, if_true, refX, bd_s]
    · simp only [x2, bp_s, lit, if_true, refM, bd_s]
  · have e1 := (h.1.1.2.2.1.2 m m1)
    have e2 := (h.2.1.1.2 m m1)
    unfold fX7_kindOf fX7_shownBy
    simp (disch := omega) only [x1, x2, bp_s, lit, nI_eq, if_neg, inb_t, gd_t, rd_nI, e1.1, e2.1, e1.2.1, e2.2.1]
    by_cases q0 : kd T m = nI 3
    · simp only [if_pos q0]
      exact ⟨-(nI 1), _, _, rfl, rfl, h.fin (nI 2)⟩
    · simp only [if_neg q0]
      exact ⟨sh T m, _, _, rfl, rfl, h.fin (nI 0)⟩
