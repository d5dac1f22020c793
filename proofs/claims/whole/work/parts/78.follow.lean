/-! the face: follow -/
section FLW
variable {T : List Tm} {S : List Sy} {tk : Nat → Bool} {lv : Nat} {rm : Nat → Nat → Bool} {ps pt i : Nat} {zX zM : fS}
theorem RQ.ended (h : RQ i T S tk lv rm ps pt zX zM) (v : Int32) : RQ i T S tk lv rm ps pt (wrr zX 0 (upd (zX 0) 11 v)) (wrr zM 0 (upd (zM 0) 25 v)) := by
  obtain ⟨h1, h2, h3, h4, h5⟩ := h
  refine ⟨?_, h2.f0 h3.1.1 (by omega) (by omega) (by omega), h3, ?_, ?_⟩
  · exact h1.sc (h1.ag.fr fun j _ _ => wrr_n (by omega)) (fun j _ h0 => wrr_n h0) (fun j _ _ _ => wrr_n (by omega))
  · obtain ⟨⟨l1, l2, l3⟩, ⟨k, w1, w2, w3, w4⟩, ⟨k', p1, p2, p3, p4⟩, _, hu⟩ := h4
    refine ⟨⟨?_, ?_, ?_⟩, ⟨k, w1, ?_, ?_, ?_⟩, ⟨k', p1, ?_, ?_, ?_⟩, ?_, ?_⟩
    · rw [wrr_n (by omega)]; exact l1
    · rw [wrr_e, upd_n (by omega)]; exact l2
    · rw [wrr_n (by omega), wrr_n (by omega)]; exact l3
    · rw [wrr_e, upd_n (by omega)]; exact w2
    · rw [wrr_e, upd_n (by omega)]; exact w3
    · rw [wrr_n (by omega), wrr_n (by omega), wrr_n (by omega), wrr_n (by omega)]; exact w4
    · rw [wrr_n (by omega)]; exact p2
    · rw [wrr_e, upd_n (by omega)]; exact p3
    · rw [wrr_n (by omega), wrr_n (by omega), wrr_n (by omega), wrr_n (by omega), wrr_n (by omega), wrr_n (by omega), wrr_n (by omega), wrr_n (by omega), wrr_n (by omega), wrr_n (by omega)]; exact p4
    · rw [wrr_e, wrr_e, upd_e, upd_e]
    · unfold RU; rw [wrr_n (by omega), wrr_n (by omega)]; exact hu
  · exact h5.fr (fun j _ _ => wrr_n (by omega)) (fun j hj => wrr_n (by omega)) (fun f hf => by rw [wrr_e, upd_n (by omega)])
theorem clr3 {k67 : fS → Option (Int32 × fS)} {v1 v2 : Int32} : ∀ (d j N : Nat) (z : fS), j + d = 3 → d < N → (∀ h, h < j → z 28 h = nI 0) → ∃ z', lX9_follow_49 k67 v1 v2 N (nI j) z = k67 z' ∧ (∀ h, h < 3 → z' 28 h = nI 0) ∧ (∀ c, c ≠ 28 → z' c = z c) := by
  intro d
  induction d with
  | zero =>
    intro j N z hj hN h
    obtain ⟨N, rfl⟩ : ∃ M, N = M + 1 := ⟨N - 1, by omega⟩
    refine ⟨z, ?_, fun s hs => h s (by omega), fun _ _ => rfl⟩
    rw [lX9_follow_49.eq_2]
    simp (disch := omega) only [lit, nI_leI, if_pos]
  | succ d ih =>
    intro j N z hj hN h
    obtain ⟨N, rfl⟩ : ∃ M, N = M + 1 := ⟨N - 1, by omega⟩
    obtain ⟨z', g1, g2, g3⟩ := ih (j + 1) N (wrr z 28 (upd (z 28) j (nI 0))) (by omega) (by omega) (fun k hk => by
      rw [wrr_e]
      by_cases q : k = j
      · rw [q, upd_e]
      · rw [upd_n q]; exact h k (by omega))
    refine ⟨z', ?_, g2, fun k hk => (g3 k hk).trans (wrr_n hk)⟩
    rw [lX9_follow_49.eq_2]
    simp (disch := omega) only [lit, nI_leI, if_neg, inb_t, gd_t, zb_0, wr_nI, bnd_s, nI_add]
    exact g1
end FLW
theorem s_follow : st_follow Rel := by
  intro i zX zM a b hi hr
  obtain ⟨h0, T, S, tk, lv, rm, ps, pt, h⟩ := id hr
  obtain ⟨k, k1, k2, k3, k4⟩ := h.2.2.2.1.2.1
  unfold fX8_follow fX9_follow
  rw [k2, k3]
  by_cases v1 : a < nI 0
  · refine ⟨-(nI 1), _, _, ?_, ?_, h.fin (nI 1)⟩
    · simp only [lit, v1, if_true, refX, bd_s]
    · simp only [lit, v1, if_true, refM, bd_s]
  by_cases v2 : nI k ≤ a
  · refine ⟨-(nI 1), _, _, ?_, ?_, h.fin (nI 1)⟩
    · simp only [lit, v1, v2, if_true, if_false, refX, bd_s]
    · simp only [lit, v1, v2, if_true, if_false, refM, bd_s]
  by_cases v3 : b < nI 1
  · refine ⟨-(nI 1), _, _, ?_, ?_, h.fin (nI 1)⟩
    · simp only [lit, v1, v2, v3, if_true, if_false, refX, bd_s]
    · simp only [lit, v1, v2, v3, if_true, if_false, refM, bd_s]
  by_cases v4 : b ≤ nI 50
  · obtain ⟨l, l0, rfl⟩ : ∃ l : Nat, l < k ∧ a = nI l := by
      obtain ⟨j, j1, j2⟩ := nI_of (x := a) v1
      subst j2
      rw [nI_leI (by omega) j1] at v2
      exact ⟨j, by omega, rfl⟩
    obtain ⟨n, n1, n2, rfl⟩ : ∃ n : Nat, n ≤ 50 ∧ 1 ≤ n ∧ b = nI n := by
      obtain ⟨j, j1, j2⟩ := nI_of2 (x := b) (M := nI 50) (n := 50) (by decide) (fun q => v3 (by rw [Int32.lt_iff_toInt_lt] at q ⊢; have e1 : (nI 1).toInt = 1 := (by decide); have e2 : (0 : Int32).toInt = 0 := (by decide); omega)) v4
      subst j2
      rw [nI_ltI (by omega) (by omega)] at v3
      exact ⟨j, j1, by omega, rfl⟩
    obtain ⟨zM1, on, c1, c2, c3, c4, c5, _⟩ := cls_ok h
    have hT := h.1.1.1.1
    have hW := h.1.1.1
    have hS := h.2.2.1.1.1
    -- the heads
    obtain ⟨x1, g1, g2, g3⟩ := gather_loop h c5 (fun t ht => (c4 t ht).2.1) T.length 0 FU zX (by omega) (by have := FU_ge; omega) (fun _ _ => rfl) (fun q hq => by simp [cnt] at hq)
    have hMT1 := c2.2.1.1
    obtain ⟨y1, d1, d2, d3, d4, d5⟩ := heads_loop hT hMT1 c4 T.length 0 FU (wrr zM1 0 (upd (zM1 0) 40 (nI 0))) (by omega) (by have := FU_ge; omega) (fun j q1 _ => wrr_n q1) (fun f hf => by rw [wrr_e, upd_n hf]) (by rw [wrr_e, upd_e]; rfl) (fun q hq => by simp [cnt] at hq)
    have hcl := cnt_le (hB T on) T.length
    have eg : fX8_gatherHeads zX = some (nI (cnt (hB T on) T.length), x1) := g1
    have ed : fX9_findHeads zM = some y1 := by
      unfold fX9_findHeads
      simp only [c1, bp_s, wf_w, bnd_s, lit]
      exact d1
    have hRM1 : RM T S tk y1 := RM.fr hS c2.2.1 (fun f hf => d3 f (by omega)) (fun j _ _ => d2 j (by omega) (by omega)) (d2 20 (by omega) (by omega))
    have hq1 : RQ i T S tk lv rm ps pt x1 y1 := c2.sc (h.1.ag.fr fun j _ _ => g2 j (by omega)) (fun j hj => g2 j (by omega)) hRM1 (fun j _ _ => d2 j (by omega) (by omega)) (fun f _ q _ => d3 f q)
    have y14 : y1 0 14 = nI k := by rw [d3 14 (by omega), c3.2.2 14 (by omega) (by omega)]; exact k3
    simp only [lit, v1, v2, v3, v4, if_true, if_false, eg, ed, bd_s, bp_s, d4]
    by_cases q0 : cnt (hB T on) T.length = 0
    · rw [q0]
      refine ⟨-(nI 1), _, _, ?_, ?_, hq1.fin (nI 6)⟩
      · simp only [if_true, refX, bd_s]
      · simp only [if_true, refM, bd_s]
    · obtain ⟨hm, ehm⟩ : ∃ q, q = cnt (hB T on) T.length := ⟨_, rfl⟩
      rw [← ehm] at q0 hcl g3 d4 d5 ⊢
      obtain ⟨la, lb, a1, a2, a3, a4, a5, a6⟩ := hq1.2.2.2.1.2.1.at y14 k1 l0
      obtain ⟨H, hH, hHB⟩ := hq1.1.1.2.2.2.2.2
      obtain ⟨y2, e1, e2, e3⟩ := clr3 (k67 := jX9_follow_67 (nI l) (nI n)) (v1 := nI l) (v2 := nI n) 3 0 FU y1 (by omega) (by have := FU_ge; omega) (fun h hh => by omega)
      have m2 : MT T y2 := hRM1.1.fr (by rw [e3 0 (by omega)]) fun j _ _ => e3 j (by omega)
      obtain ⟨y3, st3, f1, f2, f3, f4⟩ := lookHoles_ok hW hH m2 a1 (st := fun _ => false) (fun h hh => by rw [e2 h hh, bI_f])
      have m3 : MT T y3 := m2.fr (by rw [f4 0 (by omega) (by omega)]) fun j _ _ => f4 j (by omega) (by omega)
      obtain ⟨y4, st, p1, p2, p3, p4⟩ := lookHoles_ok hW hH m3 a2 (st := st3) f2
      obtain ⟨y5, e5⟩ : ∃ q, q = wrr y4 0 (upd (y4 0) 41 (nI 0)) := ⟨_, rfl⟩
      have ey4 : ∀ j, j ≠ 28 → j ≠ 29 → y4 j = y1 j := fun j w1 w2 => by rw [p4 j w1 w2, f4 j w1 w2, e3 j w1]
      have b10 : y2 10 l = nI la := by rw [e3 10 (by omega)]; exact a4
      have b11 : y3 11 l = nI lb := by rw [f4 11 (by omega) (by omega), e3 11 (by omega)]; exact a6
      have hq5 : RQ (i + 1) T S tk lv rm ps pt x1 y5 := by
        rw [e5]
        exact (hq1.up.mfree fun j hj => ey4 j (by omega) (by omega)).m4x (Or.inr rfl) (nI 0)
      have hst : ∀ h, h < 3 → (st h = true ↔ (H la ||| H lb).testBit h = true) := by
        intro h hh
        rw [p3 h hh, f3 h hh, Nat.testBit_or, Bool.or_eq_true_iff]
        constructor
        · rintro ((w | w) | w)
          · cases w
          · exact Or.inl w
          · exact Or.inr w
        · rintro (w | w)
          · exact Or.inl (Or.inr w)
          · exact Or.inr w
      have hla := (hH la a1).2
      have hlb := (hH lb a2).2
      have hor : H la ||| H lb < 8 := Nat.or_lt_two_pow (n := 3) hla hlb
      have hab := and_bits hor
      have y28 : ∀ h, h < 3 → y5 28 h = bI (st h) := fun h hh => by rw [e5, wrr_n (by omega)]; exact p2 h hh
      have y40 : y5 0 40 = nI hm := by rw [e5, wrr_e, upd_n (by omega), ey4 0 (by omega) (by omega)]; exact d4
      have hsel : ∀ h, h < 3 → ∃ s, s ≤ hm ∧ s ≤ 120 ∧ ((st h = true ∧ s = hm) ∨ (st h = false ∧ s = 1)) := fun h hh => by
        cases w : st h
        · exact ⟨1, by omega, by omega, Or.inr ⟨rfl, rfl⟩⟩
        · exact ⟨hm, by omega, by omega, Or.inl ⟨rfl, rfl⟩⟩
      have bits : ∀ h, h < 3 → ((st h = false) ↔ (H la ||| H lb).testBit h = false) := fun h hh => by
        have := hst h hh
        cases w1 : st h <;> cases w2 : (H la ||| H lb).testBit h <;> simp_all
      obtain ⟨xs, xs1, xs2, xs3⟩ := hsel 0 (by omega)
      obtain ⟨ys, ys1, ys2, ys3⟩ := hsel 1 (by omega)
      obtain ⟨zs, zs1, zs2, zs3⟩ := hsel 2 (by omega)
      have hxl : ∀ (z : fS), z = x1 → fX7_holesOf z (nI la) = some (nI (H la)) ∧ fX7_holesOf z (nI lb) = some (nI (H lb)) := by
        rintro z rfl
        unfold fX7_holesOf
        have w1 := hHB la a1
        have w2 := hHB lb a2
        simp (disch := omega) only [inb_t, gd_t, rd_nI, w1, w2, and_self]
      have hx2 := hxl x1 rfl
      have X1 : (if (nI (H la ||| H lb) &&& nI 1) = nI 0 then jX8_follow_86 (nI l) (nI n) (nI hm) (nI (H la ||| H lb)) (nI 1) x1 else jX8_follow_86 (nI l) (nI n) (nI hm) (nI (H la ||| H lb)) (nI hm) x1) = jX8_follow_86 (nI l) (nI n) (nI hm) (nI (H la ||| H lb)) (nI xs) x1 := by
        rcases xs3 with ⟨w1, w2⟩ | ⟨w1, w2⟩
        · rw [if_neg (fun w => by rw [hab.1, ← bits 0 (by omega), w1] at w; cases w), w2]
        · rw [if_pos (by rw [hab.1, ← bits 0 (by omega)]; exact w1), w2]
      have X2 : jX8_follow_86 (nI l) (nI n) (nI hm) (nI (H la ||| H lb)) (nI xs) x1 = jX8_follow_100 (nI l) (nI n) (nI hm) (nI (H la ||| H lb)) (nI xs) (nI ys) x1 := by
        unfold jX8_follow_86
        simp only [lit]
        rcases ys3 with ⟨w1, w2⟩ | ⟨w1, w2⟩
        · rw [if_neg (fun w => by rw [hab.2.1, ← bits 1 (by omega), w1] at w; cases w), w2]
        · rw [if_pos (by rw [hab.2.1, ← bits 1 (by omega)]; exact w1), w2]
      have X3 : jX8_follow_100 (nI l) (nI n) (nI hm) (nI (H la ||| H lb)) (nI xs) (nI ys) x1 = jX8_follow_114 (nI l) (nI n) (nI xs) (nI ys) (nI zs) x1 := by
        unfold jX8_follow_100
        simp only [lit]
        rcases zs3 with ⟨w1, w2⟩ | ⟨w1, w2⟩
        · rw [if_neg (fun w => by rw [hab.2.2, ← bits 2 (by omega), w1] at w; cases w), w2]
        · rw [if_pos (by rw [hab.2.2, ← bits 2 (by omega)]; exact w1), w2]
      have M1 : fX9_followAll y5 (nI l) (nI n) = jX9_followAll_17 (nI l) (nI n) (nI xs) y5 := by
        unfold fX9_followAll
        simp (disch := omega) only [lit, inb_t, gd_t, rd_nI, y28 0 (by omega), y40]
        rcases xs3 with ⟨w1, w2⟩ | ⟨w1, w2⟩
        · rw [w1, bI_t, w2]; simp (disch := omega) only [nI_eq, if_neg]
        · rw [w1, bI_f, w2]; simp only [if_true]
      have M2 : jX9_followAll_17 (nI l) (nI n) (nI xs) y5 = jX9_followAll_35 (nI l) (nI n) (nI xs) (nI ys) y5 := by
        unfold jX9_followAll_17
        simp (disch := omega) only [lit, inb_t, gd_t, rd_nI, y28 1 (by omega), y40]
        rcases ys3 with ⟨w1, w2⟩ | ⟨w1, w2⟩
        · rw [w1, bI_t, w2]; simp (disch := omega) only [nI_eq, if_neg]
        · rw [w1, bI_f, w2]; simp only [if_true]
      have M3 : jX9_followAll_35 (nI l) (nI n) (nI xs) (nI ys) y5 = jX9_followAll_54 (nI l) (nI n) (nI xs) (nI ys) (nI zs) y5 := by
        unfold jX9_followAll_35
        simp (disch := omega) only [lit, inb_t, gd_t, rd_nI, y28 2 (by omega), y40]
        rcases zs3 with ⟨w1, w2⟩ | ⟨w1, w2⟩
        · rw [w1, bI_t, w2]; simp (disch := omega) only [nI_eq, if_neg]
        · rw [w1, bI_f, w2]; simp only [if_true]
      have hFS : FS (i + 1) lv rm T.length S.length n k hm (fun q => (pl (hB T on) T.length).getD q 0) 0 (3456000 * i) x1 y5 := by
        refine ⟨hq1.tu, fun q hq => ⟨g3 q hq, ?_⟩, ?_, T, S, tk, ps, pt, 0, hq5, Nat.le_refl _, rfl, ?_, by omega⟩
        · rw [e5, wrr_n (by omega), ey4 30 (by omega) (by omega)]; exact d5 q hq
        · rw [e5, wrr_e, upd_n (by omega), ey4 0 (by omega) (by omega)]; exact y14
        · rw [e5, wrr_e, upd_e]
      obtain ⟨e, B', z', u', o1, o2, o3, o4⟩ := out_loop (i := i + 1) (by omega) l0 k1 n1 hS (by omega) (fun q hq => (pl_get (n := T.length) (by rw [← ehm]; exact hq)).1) xs1 ys1 zs1 xs 0 FU FU (3456000 * i) x1 y5 (by omega) (by have := FU_ge; omega) (by have := FU_ge; omega) (by omega) hFS
      have goX : jX8_follow_114 (nI l) (nI n) (nI xs) (nI ys) (nI zs) x1 = finX (nI S.length) (nI e) z' := by
        unfold jX8_follow_114
        simp only [scount_ok hq1.1.2.1, bp_s, lit]
        exact o3
      have goM : fX9_followAll y5 (nI l) (nI n) = some (nI e, u') := by
        rw [M1, M2, M3]
        unfold jX9_followAll_54
        simp only [lit]
        exact o4
      obtain ⟨_, _, _, T', S', tk', ps', pt', c, r1, r2, r3, r4, r5⟩ := o2
      have hq9 := r1.ended (nI e)
      refine ⟨nI c, _, _, ?_, ?_, hq9.fin0 (nI 0)⟩
      · simp (disch := omega) only [nI_eq, q0, if_false, inb_t, gd_t, rd_nI, a3, a5, hx2.1, hx2.2, bp_s, or_nI hla hlb, bnd_s]
        rw [X1, X2, X3, goX]
        unfold finX
        have hc9 := scount_ok hq9.1.2.1
        simp (disch := omega) only [wf_w, bnd_s, hc9, bp_s, r3, nI_sub, Nat.add_sub_cancel_left, doneX, bd_s]
      · simp (disch := omega) only [nI_eq, q0, if_false]
        rw [e1]
        unfold jX9_follow_67
        simp (disch := omega) only [inb_t, gd_t, rd_nI, b10, f1, bp_s, b11, p1, wf_w, bnd_s, lit]
        rw [← e5, goM]
        have e41 : (wrr u' 0 (upd (u' 0) 25 (nI e))) 0 41 = nI c := by rw [wrr_e, upd_n (by omega)]; exact r4
        simp only [bd_s, e41, doneM]
  · refine ⟨-(nI 1), _, _, ?_, ?_, h.fin (nI 1)⟩
    · simp only [lit, v1, v2, v3, v4, if_false, refX, bd_s]
    · simp only [lit, v1, v2, v3, v4, if_false, refM, bd_s]
