/-! the face: why, drop, levels -/
section FACE4
variable {T : List Tm} {S : List Sy} {tk : Nat → Bool} {lv : Nat} {rm : Nat → Nat → Bool} {ps pt i : Nat} {zX zM z z' : fS} {a b : Nat}
theorem RM.keep {c f : Nat} (hS : S.length ≤ 100) (h : RM T S tk z) (e : MFr c f z z') (hc : c = 0 ∨ 8 < c) (hf : f ≠ 4 ∧ f ≠ 9) (e2 : z' 0 30 = nI 0 ∨ (z' 20 = z 20 ∧ z' 0 30 = z 0 30)) : RM T S tk z' := by
  obtain ⟨h1, h2, h3⟩ := h
  refine ⟨e.mt h1 hc hf.1, e.msy hS h2 hc hf.2, ?_⟩
  rcases e2 with e2 | ⟨e2, e3⟩
  · exact Or.inl e2
  · rw [e3]
    rcases h3 with h3 | ⟨h3, on, h4, h5⟩
    · exact Or.inl h3
    · exact Or.inr ⟨h3, on, fun t ht => by rw [e2]; exact h4 t ht, h5⟩
/-- the reference thins for why -/
theorem whyM_ok (hS : WS T.length S) (ht : ∀ s, tk s = true → s < S.length) (h : RM T S tk z) {x : Option Sy} {P : (Nat → Prop) → Prop} {v1 v2 : Int32} (hd : DoesOK T S tk x P v1 v2) {z1 : fS} (h1 : MX S (TK tk) x z1) (e : MFr 0 30 z z1) (e20 : z1 20 = z 20) (e30 : z1 0 30 = z 0 30) : ∃ K z', fX9_thin z1 v1 v2 18 = some (nI K.length, z') ∧ ThI P (TK tk) K ∧ RM T S tk (wrr z' 0 (upd (z' 0) 24 (nI K.length))) ∧ MFr 18 24 z (wrr z' 0 (upd (z' 0) 24 (nI K.length))) ∧ MCr 18 24 K (wrr z' 0 (upd (z' 0) 24 (nI K.length))) := by
  obtain ⟨K, z2, d1, d2, d3, d4, d5, d6, d7⟩ := mthin_ok (cell := 18) (Or.inr rfl) hS.1 ht hd (e.mt h.1 (Or.inl rfl) (by omega)) (e.msy hS.1 h.2.1 (Or.inl rfl) (by omega)) h1
  have f : MFr 18 24 z (wrr z2 0 (upd (z2 0) 24 (nI K.length))) := by
    refine e.up.tr ⟨fun j h0 h5 h20 h21 hc => by rw [wrr_n h0, d5 j h0 h20 h21 hc], fun j s h5 hs => by rw [wrr_n (by omega), d5 j (by omega) (by omega) (by omega) (by omega)], fun g hg hf => by rw [wrr_e, upd_n hf, d6 g hg]⟩
  refine ⟨K, z2, d1, d2, h.keep hS.1 f (Or.inr (by omega)) ⟨by omega, by omega⟩ ?_, f, ⟨by rw [wrr_e, upd_e], d3, fun j hj => by rw [wrr_n (by omega)]; exact d4 j hj⟩⟩
  rcases d7 with d7 | ⟨d7, d8⟩
  · exact Or.inl (by rw [wrr_e, upd_n (by omega)]; exact d7)
  · exact Or.inr ⟨by rw [wrr_n (by omega), d7, e20], by rw [wrr_e, upd_n (by omega), d8, e30]⟩
end FACE4
theorem s_why : st_why Rel := by
  intro i zX zM a b _ ⟨h0, T, S, tk, lv, rm, ps, pt, h⟩
  unfold fX8_why fX9_why
  rcases has_ok h a with ⟨x1, x2⟩ | ⟨m, m1, rfl, x1, x2⟩
  · refine ⟨-(nI 1), _, _, ?_, ?_, h.fin (nI 1)⟩
    · simp only [x1, bp_s, lit, if_true, refX, bd_s]
    · simp only [x2, bp_s, lit, if_true, refM, bd_s]
  · rcases has_ok h b with ⟨y1, y2⟩ | ⟨n, n1, rfl, y1, y2⟩
    · refine ⟨-(nI 1), _, _, ?_, ?_, h.fin (nI 1)⟩
      · simp (disch := omega) only [x1, y1, bp_s, lit, nI_eq, if_neg, if_true, refX, bd_s]
      · simp (disch := omega) only [x2, y2, bp_s, lit, nI_eq, if_neg, if_true, refM, bd_s]
    · obtain ⟨g1, g2, r, g3, g4⟩ := stand_ok h m1 n1
      have h' := h
      obtain ⟨h1, h2, h3, h4, h5⟩ := h'
      have hW := h1.1.1
      have ht := h3.2.1.1
      have hcon := h3.2.1.2
      have hn := h1.2.2.1.num
      obtain ⟨rM, zM1, w1, w2, w3, w4⟩ := judgeM_ok hW h3.1 ht h2 x2 y2 m1 n1
      obtain ⟨zM2, c1, c2, c3⟩ := takeCourt_ok h3.1.1 ht w2.2.1
      simp (disch := omega) only [x1, y1, x2, y2, bp_s, lit, litm, nI_eq, if_neg, g1, g2, g3, w1, bd_s, c1]
      unfold jX8_why_64
      rcases g4 with ⟨rfl, g4⟩ | ⟨rfl, g4⟩
      · rcases w4 with ⟨rfl, _⟩ | ⟨_, w4, _⟩ | ⟨_, w4, _⟩
        · obtain ⟨K, z2, d1, d2, d3, d4, d5⟩ := thin_ok (x := none) (cell := 71) hW h3.1 ht (fun _ _ _ e => by cases e) (thG_one (ps := ps) (pt := pt) hW hcon m1 n1) thS_one (Or.inr rfl) h1.xt g4
          obtain ⟨K', zM3, e1, e2, e3, e4, e5⟩ := whyM_ok h3.1 ht w2 (does_one hW h3.1 m1 n1) c2 ⟨fun j _ _ _ h _ => c3 j h, fun j s _ _ => by rw [c3 j (by omega)], fun g _ _ => by rw [c3 0 (by omega)]⟩ (c3 20 (by omega)) (by rw [c3 0 (by omega)])
          have eK := ThI.uniq d2 e2
          subst eK
          have hq := (h.mf w2 w3).core d4 (Or.inr ⟨rfl, rfl, rfl⟩) d5 e3 e4 d3 e5
          refine ⟨nI K.length, _, _, ?_, ?_, hq.fin (nI 0)⟩
          · simp (disch := omega) only [if_neg, d1, bp_s, ccount_ok d3, doneX, bd_s]
          · simp (disch := omega) only [if_neg, if_true, e1, bd_s, wf_w, bnd_s, wrr_e, upd_e, doneM]
        · exact absurd g4 w4
        · exact absurd g4 w4
      · obtain ⟨ro, hj⟩ := h1.2.2.2.2
        obtain ⟨r, z1, k1, k2, k3, k4⟩ := wouldClashX_ok hW h3.1 ht h1.2.2.1 h1.2.1 hj m1 n1
        have hx : ∀ c' a' b', some (true, m, n) = some (c', a', b') → a' < T.length ∧ b' < T.length := fun c' a' b' e => by cases e; exact ⟨m1, n1⟩
        have f1 : XFr pt 71 72 zX z1 := fun j _ _ g1 g2 _ _ => k3 j g1 g2
        rcases k4 with ⟨rfl, k4⟩ | ⟨rfl, k4, _⟩
        · rcases w4 with ⟨_, w4⟩ | ⟨rfl, _, w4⟩ | ⟨_, _, w4⟩
          · exact absurd w4 g4
          · obtain ⟨K, z2, d1, d2, d3, d4, d5⟩ := thin_ok (cell := 71) hW h3.1 ht hx (thG_clash hW h3.1 ht) (thS_clash hW m1 n1) (Or.inr rfl) (h1.xt.fr k2 f1 (by omega) (by omega)) k4
            obtain ⟨zM3, b1, b2, b3, b4⟩ := add_ok (c := true) (a := m) (b := n) c2
            rw [bI_t] at b1
            obtain ⟨K', zM4, e1, e2, e3, e4, e5⟩ := whyM_ok h3.1 ht w2 (does_clash hW h3.1 hx) b2 ⟨fun j h0 h5 _ h21 _ => by rw [b3 j (by omega) (by omega) (by omega) h21, c3 j h21], fun j s h5 hs => by rw [b4 j s hs, c3 j (by omega)], fun g _ _ => by rw [b3 0 (by omega) (by omega) (by omega) (by omega), c3 0 (by omega)]⟩ (by rw [b3 20 (by omega) (by omega) (by omega) (by omega), c3 20 (by omega)]) (by rw [b3 0 (by omega) (by omega) (by omega) (by omega), c3 0 (by omega)])
            have eK := ThI.uniq d2 e2
            subst eK
            have hq := (h.mf w2 w3).core d4 (Or.inr ⟨rfl, rfl, rfl⟩) (f1.tr d5) e3 e4 d3 e5
            refine ⟨nI K.length, _, _, ?_, ?_, hq.fin (nI 0)⟩
            · simp (disch := omega) only [if_true, k1, bd_s, nI_eq, if_neg, d1, bp_s, ccount_ok d3, doneX]
            · have e1' : fX9_thin zM3 (-(nI 1)) (-(nI 1)) 18 = some (nI K.length, zM4) := e1
              simp (disch := omega) only [if_neg, b1, bp_s, e1', bd_s, wf_w, bnd_s, wrr_e, upd_e, doneM]
          · exact absurd k4 w4
        · rcases w4 with ⟨_, w4⟩ | ⟨_, _, w4⟩ | ⟨rfl, _, w4⟩
          · exact absurd w4 g4
          · exact absurd w4 k4
          · have hq : RQ i T S tk lv rm ps pt z1 zM1 := h.sc k2 (fun j hj => k3 j (by omega) (by omega)) w2 (fun j g1 g2 => w3.1 j (by omega) (by omega) (by omega) (by omega) (by omega)) (fun f g1 _ _ => w3.2.2 f g1 g1)
            refine ⟨-(nI 1), _, _, ?_, ?_, hq.fin (nI 6)⟩
            · simp (disch := omega) only [if_true, k1, bd_s, refX]
            · simp (disch := omega) only [if_true, refM, bd_s]
theorem Cs.sub {T : List Tm} {S : List Sy} {tk tk' : Nat → Bool} (h : Cs T S tk) (hs : ∀ s, tk' s = true → tk s = true) : Cs T S tk' :=
  ⟨fun s q => h.1 s (hs s q), fun hc => h.2 (hc.mono (fun _ _ e => EX_mono hs e) (fun _ _ e => UX_mono hs e))⟩
theorem s_drop : st_drop Rel := by
  intro i zX zM a _ ⟨h0, T, S, tk, lv, rm, ps, pt, h⟩
  have h' := h
  obtain ⟨h1, h2, h3, h4, h5⟩ := h'
  have hl := h3.1.1
  have hW := h1.1.1
  have ht := h3.2.1.1
  have hn := h1.2.2.1.num
  unfold fX8_drop fX9_drop
  rcases hasS_ok h a with ⟨x1, x2⟩ | ⟨m, m1, rfl, x1, x2, x3⟩
  · refine ⟨-(nI 1), _, _, ?_, ?_, h.fin (nI 1)⟩
    · simp only [x1, bp_s, lit, if_true, refX, bd_s]
    · rcases x2 with x2 | ⟨x2, x3⟩
      · simp only [lit, if_pos x2, refM, bd_s]
      · simp only [lit, if_neg x2, if_neg x3, refM, bd_s]
  · have i1 := isTaken_ok h1.2.1 (show m < 100 by omega)
    have t4 := (h2.2.1.2 m m1).2.2.2
    cases q : tk m
    · rw [q, bI_f] at i1 t4
      refine ⟨-(nI 1), _, _, ?_, ?_, h.fin (nI 5)⟩
      · simp (disch := omega) only [x1, bp_s, lit, nI_eq, if_neg, i1, if_true, refX, bd_s]
      · simp (disch := omega) only [lit, if_neg x2, if_pos x3, inb_t, gd_t, rd_nI, t4, if_true, refM, bd_s]
    · rw [q, bI_t] at i1 t4
      have hcl := cnt_less (p := tk) (q := tkx tk m false) (j := m) q tkx_e (fun i hi => tkx_n hi) m1
      have hc1 := cnt_le tk S.length
      obtain ⟨z1, hz1⟩ : ∃ y : fS, y = wrr (wrr zX 15 (upd (zX 15) m (nI 0))) 11 (upd (zX 11) 6 (nI (cnt (tkx tk m false) S.length))) := ⟨_, rfl⟩
      have fX : ∀ j, j ≠ 15 → j ≠ 11 → z1 j = zX j := fun j g1 g2 => by rw [hz1, wrr_n g2, wrr_n g1]
      have f15 : z1 15 = upd (zX 15) m (nI 0) := by rw [hz1, wrr_n (by omega), wrr_e]
      have f11 : z1 11 = upd (zX 11) 6 (nI (cnt (tkx tk m false) S.length)) := by rw [hz1, wrr_e]
      have erm : fX5_remove zX (nI m) = some z1 := by
        unfold fX5_remove
        rw [hz1]
        simp (disch := omega) only [inb_t, gd_t, lit, wr_nI, bnd_s, wf_w, wrr_n, h1.2.1.2.1, nI_sub]
        rw [show cnt tk S.length - 1 = cnt (tkx tk m false) S.length by omega]
      have hXs : XSy S (tkx tk m false) z1 := by
        refine ⟨by rw [f11, upd_n (by omega)]; exact h1.2.1.1, by rw [f11, upd_e], fun s hs => ?_, fun s hs => ?_⟩
        · rw [fX 12 (by omega) (by omega), fX 13 (by omega) (by omega), fX 14 (by omega) (by omega)]; exact h1.2.1.2.2.1 s hs
        · rw [f15]
          by_cases e : s = m
          · subst e; rw [upd_e, tkx_e]; rfl
          · rw [upd_n e, tkx_n e]; exact h1.2.1.2.2.2 s hs
      have hCs : Cs T S (tkx tk m false) := h3.2.1.sub fun s hs => by
        by_cases e : s = m
        · subst e; rw [tkx_e] at hs; cases hs
        · rw [tkx_n e] at hs; exact hs
      have hB : RB T S (tkx tk m false) lv rm := ⟨h3.1, hCs, h3.2.2⟩
      obtain ⟨zM1, hzM⟩ : ∃ y : fS, y = wrr (wrr zM 8 (upd (zM 8) m (nI 0))) 0 (upd (zM 0) 30 (nI 0)) := ⟨_, rfl⟩
      have gM : ∀ j, j ≠ 0 → j ≠ 8 → zM1 j = zM j := fun j g1 g2 => by rw [hzM, wrr_n g1, wrr_n g2]
      have g8 : zM1 8 = upd (zM 8) m (nI 0) := by rw [hzM, wrr_n (by omega), wrr_e]
      have g0 : zM1 0 = upd (zM 0) 30 (nI 0) := by rw [hzM, wrr_e]
      have hMs : MSy S (tkx tk m false) zM1 := by
        refine ⟨by rw [g0, upd_n (by omega)]; exact h2.2.1.1, fun s hs => ?_⟩
        rw [gM 5 (by omega) (by omega), gM 6 (by omega) (by omega), gM 7 (by omega) (by omega), g8]
        obtain ⟨b1, b2, b3, b4⟩ := h2.2.1.2 s hs
        refine ⟨b1, b2, b3, ?_⟩
        by_cases e : s = m
        · subst e; rw [upd_e, tkx_e]; rfl
        · rw [upd_n e, tkx_n e]; exact b4
      have hRM : RM T S (tkx tk m false) zM1 := ⟨h2.1.fr (by rw [g0, upd_n (by omega)]) fun j g1 g2 => gM j (by omega) (by omega), hMs, Or.inl (by rw [g0, upd_e])⟩
      have eM : (if nI m < nI 0 then bd (fX9_refuse zM (nI 1)) fun r14 z14 => some (r14, z14) else if nI m < zM 0 9 then gd (inb (nI m) 101) (if rd zM 8 (nI m) = nI 0 then bd (fX9_refuse zM (nI 5)) fun r29 z29 => some (r29, z29) else gd (inb (nI m) 101) (bnd (wr zM 8 (nI m) (zb (nI 0))) fun z39 => bnd (wf z39 0 30 (nI 0)) fun z42 => bp (fX9_taken z42) fun r47 => bd (fX9_done z42 r47) fun r50 z50 => some (r50, z50))) else bd (fX9_refuse zM (nI 1)) fun r14 z14 => some (r14, z14)) = some (nI (cnt (tkx tk m false) S.length), wrr zM1 0 (upd (zM1 0) 26 (nI 0))) := by
        rw [if_neg x2, if_pos x3]
        simp (disch := omega) only [inb_t, gd_t, rd_nI, t4, nI_eq, if_neg, zb_0, wr_nI, bnd_s, wf_w, wrr_n]
        rw [← hzM, taken_ok hl hMs, bp_s, doneM, bd_s]
      have hR := h4.fr (z := z1) (z' := zM1) (Nat.le_refl _) (Nat.le_refl _) (fun j hj => fX j (by omega) (by omega)) (by rw [fX 0 (by omega) (by omega)]) (by rw [fX 0 (by omega) (by omega)]) (by rw [f11, upd_n (by omega)]) (fun j g1 g2 => gM j (by omega) (by omega)) (fun f hf => by rw [g0, upd_n (by omega)])
      have hK := h5.fr (z := z1) (z' := zM1) (fun j g1 g2 => fX j (by omega) (by omega)) (fun j hj => gM j (by omega) (by omega)) (fun f hf => by rw [g0, upd_n (by omega)])
      obtain ⟨ro0, hb0⟩ := h1.2.2.2.1
      have hb1 := hb0.fr (z' := z1) fun j hj => fX j (by omega) (by omega)
      have i2 := isSame_ok hXs hl m1
      cases q2 : sm S m
      · rw [q2, bI_f] at i2
        obtain ⟨ro, hj⟩ := h1.2.2.2.2
        have eE : EX S (TK (tkx tk m false)) none = EX S (TK tk) none := by
          funext u v
          refine propext ⟨fun e => EX_mono (fun s hs => ?_) e, ?_⟩
          · unfold TK at hs ⊢
            by_cases e : s = m
            · subst e; exact q
            · rw [tkx_n e] at hs; exact hs
          · rintro (⟨s, s1, s2, s3, s4⟩ | h)
            · refine Or.inl ⟨s, s1, ?_, s3, s4⟩
              have : s ≠ m := fun e => by subst e; rw [q2] at s3; cases s3
              unfold TK; rw [tkx_n this]; exact s2
            · cases h
        have hq : RQ i T S (tkx tk m false) lv rm ps pt z1 zM1 := ⟨⟨h1.1.fr fun j hj => fX j (by omega) (by omega), hXs, h1.2.2.1.fr (fX 17 (by omega) (by omega)), ⟨ro0, hb1⟩, ro, by rw [eE]; exact hj.fr fun j hj => fX j (by omega) (by omega)⟩, hRM, hB, hR, hK⟩
        refine ⟨nI (cnt (tkx tk m false) S.length), _, _, ?_, ?_, hq.fin (nI 0)⟩
        · unfold fX5_takenCount
          simp (disch := omega) only [x1, bp_s, lit, nI_eq, if_neg, i1, erm, i2, if_true, hXs.2.1, doneX, bd_s]
        · simp only [lit]; exact eM
      · rw [q2, bI_t] at i2
        obtain ⟨z2, ro', j1, j2, j3⟩ := judgeAnew_ok hW h3.1 hCs.1 hCs.2 (h1.2.2.1.fr (fX 17 (by omega) (by omega))) hXs hb1
        have hq : RQ i T S (tkx tk m false) lv rm ps pt z2 zM1 := ⟨⟨h1.1.fr fun j hj => by rw [j3 j (by omega) (by omega), fX j (by omega) (by omega)], hXs.fr fun j g1 g2 => j3 j (by omega) (by omega), h1.2.2.1.fr (by rw [j3 17 (by omega) (by omega), fX 17 (by omega) (by omega)]), ⟨ro0, hb1.fr2 j2.agenda fun j hj => j3 j (by omega) (by omega)⟩, ro', j2⟩, hRM, hB, hR.fr (Nat.le_refl _) (Nat.le_refl _) (fun j hj => j3 j (by omega) (by omega)) (by rw [j3 0 (by omega) (by omega)]) (by rw [j3 0 (by omega) (by omega)]) (by rw [j3 11 (by omega) (by omega)]) (fun _ _ _ => rfl) (fun _ _ => rfl), hK.fr (fun j g1 g2 => j3 j (by omega) (by omega)) (fun _ _ => rfl) (fun _ _ => rfl)⟩
        refine ⟨nI (cnt (tkx tk m false) S.length), _, _, ?_, ?_, hq.fin (nI 0)⟩
        · unfold fX5_takenCount
          have e6 : z2 11 6 = nI (cnt (tkx tk m false) S.length) := by rw [j3 11 (by omega) (by omega)]; exact hXs.2.1
          simp (disch := omega) only [x1, bp_s, lit, nI_eq, if_neg, i1, erm, i2, j1, e6, doneX, bd_s]
        · simp only [lit]; exact eM
/-! levels -/
def rmx (rm : Nat → Nat → Bool) (n : Nat) (tk : Nat → Bool) : Nat → Nat → Bool := fun l => if l = n then tk else rm l
theorem rmx_e {rm : Nat → Nat → Bool} {n : Nat} {tk : Nat → Bool} : rmx rm n tk n = tk := by simp [rmx]
theorem rmx_n {rm : Nat → Nat → Bool} {n l : Nat} {tk : Nat → Bool} (h : l ≠ n) : rmx rm n tk l = rm l := by simp [rmx, h]
theorem push_loop {S : List Sy} {tk : Nat → Bool} (hS : S.length ≤ 100) (ht : ∀ s, tk s = true → s < S.length) {lv : Nat} (hl : lv < 10) : ∀ (d t N : Nat) (z : fS), t + d = 100 → d < N → MSy S tk z → z 0 11 = nI lv → (∀ s, s < t → z 9 (100 * lv + s) = bI (tk s)) → ∃ z', lX9_push_17 N (nI t) z = some (nI (lv + 1), wrr (wrr z' 0 (upd (z' 0) 11 (nI (lv + 1)))) 0 (upd (upd (z' 0) 11 (nI (lv + 1))) 26 (nI 0))) ∧ (∀ s, s < 100 → z' 9 (100 * lv + s) = bI (tk s)) ∧ (∀ p, p < 100 * lv → z' 9 p = z 9 p) ∧ (∀ j, j ≠ 9 → z' j = z j) := by
  intro d
  induction d with
  | zero =>
    intro t N z hi hN hM h11 hd
    obtain ⟨N, rfl⟩ : ∃ M, N = M + 1 := ⟨N - 1, by omega⟩
    refine ⟨z, ?_, fun s hs => hd s (by omega), fun _ _ => rfl, fun _ _ => rfl⟩
    rw [lX9_push_17.eq_2]
    simp (disch := omega) only [lit, nI_leI, if_pos, h11, nI_add, wf_w, bnd_s, wrr_e, upd_e, doneM, bd_s]
  | succ d ih =>
    intro t N z hi hN hM h11 hd
    obtain ⟨N, rfl⟩ : ∃ M, N = M + 1 := ⟨N - 1, by omega⟩
    obtain ⟨z', e1, e2, e3, e4⟩ := ih (t + 1) N (wrr z 9 (upd (z 9) (100 * lv + t) (bI (tk t)))) (by omega) (by omega) (hM.fr (by rw [wrr_n (by omega)]) (fun j h1 h2 s hs => by rw [wrr_n (by omega)]) hS) (by rw [wrr_n (by omega)]; exact h11) (fun s hs => by
      rw [wrr_e]
      by_cases e : s = t
      · subst e; rw [upd_e]
      · rw [upd_n (by omega)]; exact hd s (by omega))
    refine ⟨z', ?_, e2, fun p hp => by rw [e3 p hp, wrr_e, upd_n (by omega)], fun j hj => (e4 j hj).trans (wrr_n hj)⟩
    rw [lX9_push_17.eq_2]
    by_cases q : t < S.length
    · have o := (hM.2 t q).2.2.2
      cases q2 : tk t
      · rw [q2, bI_f] at o e1
        simp (disch := omega) only [lit, nI_leI, if_neg, hM.1, inb_t, gd_t, rd_nI, o, if_true, h11, nI_mul, nI_add, zb_0, wr_nI, bnd_s]
        exact e1
      · rw [q2, bI_t] at o e1
        simp (disch := omega) only [lit, nI_leI, if_neg, hM.1, inb_t, gd_t, rd_nI, o, nI_eq, h11, nI_mul, nI_add, zb_1, wr_nI, bnd_s]
        exact e1
    · have q2 : tk t = false := by
        cases q2 : tk t
        · rfl
        · exact absurd (ht t q2) q
      rw [q2, bI_f] at e1
      simp (disch := omega) only [lit, nI_leI, if_neg, if_pos, hM.1, inb_t, gd_t, h11, nI_mul, nI_add, zb_0, wr_nI, bnd_s]
      exact e1
theorem cpb_g {sp dp n a b : Nat} (h1 : sp + n ≤ a) (h2 : dp + n ≤ b) (ha : a < 2 ^ 31) (hb : b < 2 ^ 31) : cpb (nI sp) (nI dp) (nI n) a b = true := by
  unfold cpb
  refine decide_eq_true ⟨nI_pos (by omega), nI_pos (by omega), nI_pos (by omega), ?_, ?_⟩ <;> rw [nI_clamp (by omega), nI_clamp (by omega)] <;> omega
theorem cpy_g {z : fS} {sp dp n k0 k1 : Nat} (h1 : sp < 2 ^ 31) (h2 : dp < 2 ^ 31) (h3 : n < 2 ^ 31) : cpy z k0 (nI sp) k1 (nI dp) (nI n) = wrr z k1 (va_cpy (z k0) (z k1) sp dp n) := by
  unfold cpy
  rw [nI_clamp h1, nI_clamp h2, nI_clamp h3]
theorem s_push : st_push Rel := by
  intro i zX zM _ ⟨h0, T, S, tk, lv, rm, ps, pt, h⟩
  have h' := h
  obtain ⟨h1, h2, h3, h4, h5⟩ := h'
  have hl := h3.1.1
  have ht := h3.2.1.1
  have hlv := h3.2.2.1
  have hn := h1.2.2.1.num
  obtain ⟨⟨l1, l2, l3⟩, r2, r3, r4, r5⟩ := id h4
  unfold fX8_push fX9_push fX5_levels
  rw [l1, bp_s, l2]
  by_cases q : lv = 10
  · subst q
    refine ⟨-(nI 1), _, _, ?_, ?_, h.fin (nI 3)⟩
    · simp (disch := omega) only [lit, nI_ltI, nI_leI, Nat.le_refl, Nat.lt_irrefl, if_true, if_false, refX, bd_s]
    · simp (disch := omega) only [lit, if_true, refM, bd_s]
  · obtain ⟨zM1, e1, e2, e3, e4⟩ := push_loop (lv := lv) hl ht (by omega) 100 0 FU zM (by omega) (by have := FU_ge; omega) h2.2.1 l2 (fun s hs => by omega)
    obtain ⟨z1, hz1⟩ : ∃ y : fS, y = wrr (wrr zX 16 (va_cpy (zX 15) (zX 16) 0 (lv * 100) 100)) 11 (upd (zX 11) 7 (nI (lv + 1))) := ⟨_, rfl⟩
    have eb : fX5_beginLevel zX = some (nI (lv + 1), z1) := by
      unfold fX5_beginLevel
      rw [hz1]
      simp (disch := omega) only [l1, lit, nI_leI, if_neg, nI_mul, cpb_g, gd_t, cpy_g, bnd_s, wrr_n, wf_w, nI_add, wrr_e, upd_e]
    have fX : ∀ j, j ≠ 16 → j ≠ 11 → z1 j = zX j := fun j g1 g2 => by rw [hz1, wrr_n g2, wrr_n g1]
    have f11 : z1 11 = upd (zX 11) 7 (nI (lv + 1)) := by rw [hz1, wrr_e]
    have f16 : z1 16 = va_cpy (zX 15) (zX 16) 0 (lv * 100) 100 := by rw [hz1, wrr_n (by omega), wrr_e]
    obtain ⟨zM2, hzM⟩ : ∃ y : fS, y = wrr zM1 0 (upd (zM 0) 11 (nI (lv + 1))) := ⟨_, rfl⟩
    have gM : ∀ j, j ≠ 9 → j ≠ 0 → zM2 j = zM j := fun j g1 g2 => by rw [hzM, wrr_n g2, e4 j g1]
    have g0 : zM2 0 = upd (zM 0) 11 (nI (lv + 1)) := by rw [hzM, wrr_e]
    have g9 : zM2 9 = zM1 9 := by rw [hzM, wrr_n (by omega)]
    have hq : RQ i T S tk (lv + 1) (rmx rm lv tk) ps pt z1 zM2 := by
      refine ⟨h1.fr (h1.ag.fr fun j g1 g2 => fX j (by omega) (by omega)) fun j hj => ⟨fun _ f hf => by rw [f11, upd_n hf], ?_⟩, h2.fr hl (fun f hf => by rw [g0, upd_n (by omega)]) (fun j g1 g2 => gM j (by omega) (by omega)) (gM 20 (by omega) (by omega)), ⟨h3.1, h3.2.1, by omega, fun l hl => ?_⟩, ⟨⟨by rw [f11, upd_e], by rw [g0, upd_e], fun l hl s hs => ?_⟩, ?_, ?_, ?_, ?_⟩, h5.fr (fun j g1 g2 => fX j (by omega) (by omega)) (fun j hj => gM j (by omega) (by omega)) (fun f hf => by rw [g0, upd_n (by omega)])⟩
      · by_cases q1 : j = 16
        · exact Or.inl q1
        · by_cases q2 : j = 11
          · exact Or.inr (Or.inl q2)
          · exact Or.inr (Or.inr (fX j q1 q2))
      · by_cases e : l = lv
        · rw [e, rmx_e]; exact h3.2.1
        · rw [rmx_n e]; exact h3.2.2.2 l (by omega)
      · rw [f16, g9]
        unfold va_cpy
        by_cases e : l = lv
        · subst e
          rw [rmx_e]
          refine ⟨?_, e2 s hs⟩
          rw [if_pos (by omega)]
          rw [show 0 + (100 * l + s - l * 100) = s by omega]
          exact h1.2.1.2.2.2 s hs
        · rw [rmx_n e, if_neg (by omega), e3 _ (by omega)]
          exact l3 l (by omega) s hs
      · obtain ⟨k, k1, k2, k3, k4⟩ := r2
        refine ⟨k, k1, by rw [fX 0 (by omega) (by omega)]; exact k2, by rw [g0, upd_n (by omega)]; exact k3, ?_⟩
        rw [fX 73 (by omega) (by omega), fX 74 (by omega) (by omega), gM 10 (by omega) (by omega), gM 11 (by omega) (by omega)]; exact k4
      · obtain ⟨k, k1, k2, k3, k4⟩ := r3
        refine ⟨k, k1, by rw [fX 63 (by omega) (by omega)]; exact k2, by rw [g0, upd_n (by omega)]; exact k3, ?_⟩
        rw [fX 64 (by omega) (by omega), fX 65 (by omega) (by omega), fX 66 (by omega) (by omega), fX 67 (by omega) (by omega), fX 68 (by omega) (by omega), gM 12 (by omega) (by omega), gM 13 (by omega) (by omega), gM 14 (by omega) (by omega), gM 15 (by omega) (by omega), gM 16 (by omega) (by omega)]; exact k4
      · rw [fX 0 (by omega) (by omega), g0, upd_n (by omega)]; exact r4
      · obtain ⟨m, k1, k2, k3⟩ := r5
        exact ⟨m, k1, by rw [fX 58 (by omega) (by omega)]; exact k2, by rw [fX 60 (by omega) (by omega)]; exact k3⟩
    refine ⟨nI (lv + 1), _, _, ?_, ?_, hq.fin (nI 0)⟩
    · simp (disch := omega) only [lit, nI_ltI, nI_leI, if_pos, eb, bd_s, doneX]
    · simp (disch := omega) only [lit, nI_eq, if_neg]
      rw [e1, hzM, e4 0 (by omega)]
      simp only [wrr_wrr, wrr_e]
