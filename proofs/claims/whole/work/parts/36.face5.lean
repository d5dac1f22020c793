/-! the face: pop, members, uses -/
theorem sub_z {v a : Int32} : (v - a = nI 0) ↔ a = v := by
  constructor
  · intro h
    have h2 : v - a + a = nI 0 + a := by rw [h]
    rw [Int32.sub_add_cancel] at h2
    rw [h2]
    exact (Int32.zero_add a).symm
  · rintro rfl
    exact Int32.sub_self a
theorem sub_s {v : Int32} {c : Nat} : v - nI c + -(nI 1) = v - nI (c + 1) := by
  rw [← nI_add c 1]
  simp only [Int32.sub_eq_add_neg, Int32.neg_add, Int32.add_assoc]
theorem sub_0 {v : Int32} : v - nI 0 = v := Int32.sub_zero v
theorem pop_loop {S : List Sy} (hS : S.length ≤ 100) {rmv : Nat → Bool} {lv : Nat} (hl : lv < 10) : ∀ (d t N : Nat) (tk : Nat → Bool) (z : fS), t + d = S.length → d < N → MSy S tk z → z 0 11 = nI lv → (∀ s, s < 100 → z 9 (100 * lv + s) = bI (rmv s)) → (∀ s, s < t → tk s = rmv s) → ∃ z', lX9_pop_26 N (nI t) z = some (nI (cnt rmv S.length), wrr (wrr z' 0 (upd (z' 0) 30 (nI 0))) 0 (upd (upd (z' 0) 30 (nI 0)) 26 (nI 0))) ∧ MSy S rmv (wrr z' 0 (upd (z' 0) 30 (nI 0))) ∧ (∀ j, j ≠ 8 → z' j = z j) := by
  intro d
  induction d with
  | zero =>
    intro t N tk z hi hN hM h11 h9 hd
    obtain ⟨N, rfl⟩ : ∃ M, N = M + 1 := ⟨N - 1, by omega⟩
    have hM' : MSy S rmv (wrr z 0 (upd (z 0) 30 (nI 0))) := by
      refine ⟨by rw [wrr_e, upd_n (by omega)]; exact hM.1, fun s hs => ?_⟩
      rw [wrr_n (by omega), wrr_n (by omega), wrr_n (by omega), wrr_n (by omega), ← hd s (by omega)]
      exact hM.2 s hs
    refine ⟨z, ?_, hM', fun _ _ => rfl⟩
    rw [lX9_pop_26.eq_2]
    simp (disch := omega) only [hM.1, nI_leI, if_pos, lit, wf_w, bnd_s, taken_ok hS hM', bp_s, doneM, bd_s, wrr_e]
  | succ d ih =>
    intro t N tk z hi hN hM h11 h9 hd
    obtain ⟨N, rfl⟩ : ∃ M, N = M + 1 := ⟨N - 1, by omega⟩
    have o := h9 t (by omega)
    obtain ⟨z', e1, e2, e3⟩ := ih (t + 1) N (tkx tk t (rmv t)) (wrr z 8 (upd (z 8) t (bI (rmv t)))) (by omega) (by omega) (by
      refine ⟨by rw [wrr_n (by omega)]; exact hM.1, fun s hs => ?_⟩
      rw [wrr_n (by omega), wrr_n (by omega), wrr_n (by omega), wrr_e]
      obtain ⟨b1, b2, b3, b4⟩ := hM.2 s hs
      refine ⟨b1, b2, b3, ?_⟩
      by_cases e : s = t
      · subst e; rw [upd_e, tkx_e]
      · rw [upd_n e, tkx_n e]; exact b4) (by rw [wrr_n (by omega)]; exact h11) (fun s hs => by rw [wrr_n (by omega)]; exact h9 s hs) (fun s hs => by
      by_cases e : s = t
      · subst e; rw [tkx_e]
      · rw [tkx_n e]; exact hd s (by omega))
    refine ⟨z', ?_, e2, fun j hj => (e3 j hj).trans (wrr_n hj)⟩
    rw [lX9_pop_26.eq_2]
    simp (disch := omega) only [hM.1, nI_leI, if_neg, lit, h11, nI_mul, nI_add, inb_t, gd_t, rd_nI, o, zb_bI, wr_nI, bnd_s]
    exact e1
theorem endLevel_loop {n : Nat} (hn : n ≤ 100) {tk : Nat → Bool} : ∀ (d t N : Nat) (z : fS), t + d = n → d < N → z 11 5 = nI n → z 11 6 = nI (cnt tk t) → (∀ s, s < 100 → z 15 s = bI (tk s)) → ∃ z', lX5_endLevel_45 N (nI t) z = some z' ∧ z' 11 = upd (z 11) 6 (nI (cnt tk n)) ∧ (∀ j, j ≠ 11 → z' j = z j) := by
  intro d
  induction d with
  | zero =>
    intro t N z hi hN h5 h6 h15
    obtain ⟨N, rfl⟩ : ∃ M, N = M + 1 := ⟨N - 1, by omega⟩
    refine ⟨z, ?_, ?_, fun _ _ => rfl⟩
    · rw [lX5_endLevel_45.eq_2]
      simp (disch := omega) only [h5, nI_leI, if_pos]
    · rw [show n = t by omega, ← h6, upd_id]
  | succ d ih =>
    intro t N z hi hN h5 h6 h15
    obtain ⟨N, rfl⟩ : ∃ M, N = M + 1 := ⟨N - 1, by omega⟩
    have o := h15 t (by omega)
    have ec : nI (cnt tk t) + bI (tk t) = nI (cnt tk (t + 1)) := by
      rw [cnt_s]
      cases tk t
      · rw [bI_f, nI_add]; rfl
      · rw [bI_t, nI_add]; rfl
    obtain ⟨z', e1, e2, e3⟩ := ih (t + 1) N (wrr z 11 (upd (z 11) 6 (nI (cnt tk (t + 1))))) (by omega) (by omega) (by rw [wrr_e, upd_n (by omega)]; exact h5) (by rw [wrr_e, upd_e]) (fun s hs => by rw [wrr_n (by omega)]; exact h15 s hs)
    refine ⟨z', ?_, ?_, fun j hj => (e3 j hj).trans (wrr_n hj)⟩
    · rw [lX5_endLevel_45.eq_2]
      simp (disch := omega) only [h5, nI_leI, if_neg, inb_t, gd_t, h6, rd_nI, o, ec, wf_w, bnd_s, lit, nI_add]
      exact e1
    · rw [e2, wrr_e]
      funext f
      by_cases q : f = 6
      · subst q; rw [upd_e, upd_e]
      · rw [upd_n q, upd_n q, upd_n q]
theorem s_pop : st_pop Rel := by
  intro i zX zM _ ⟨h0, T, S, tk, lv, rm, ps, pt, h⟩
  have h' := h
  obtain ⟨h1, h2, h3, h4, h5⟩ := h'
  have hl := h3.1.1
  have hW := h1.1.1
  have ht := h3.2.1.1
  have hlv := h3.2.2.1
  have hn := h1.2.2.1.num
  obtain ⟨⟨l1, l2, l3⟩, r2, r3, r4, r5⟩ := id h4
  unfold fX8_pop fX9_pop fX5_levels
  rw [l1, bp_s, l2]
  by_cases q : lv = 0
  · subst q
    refine ⟨-(nI 1), _, _, ?_, ?_, h.fin (nI 9)⟩
    · simp (disch := omega) only [lit, if_true, refX, bd_s]
    · simp (disch := omega) only [lit, if_true, refM, bd_s]
  · obtain ⟨l, rfl⟩ : ∃ l, lv = l + 1 := ⟨lv - 1, by omega⟩
    have hCs := h3.2.2.2 l (by omega)
    -- the class
    obtain ⟨z0, hz0⟩ : ∃ y : fS, y = wrr (wrr zX 15 (va_cpy (zX 16) (zX 15) (l * 100) 0 100)) 11 (upd (upd (zX 11) 7 (nI l)) 6 (nI 0)) := ⟨_, rfl⟩
    have a11 : z0 11 = upd (upd (zX 11) 7 (nI l)) 6 (nI 0) := by rw [hz0, wrr_e]
    have a15 : ∀ s, s < 100 → z0 15 s = bI (rm l s) := fun s hs => by
      rw [hz0, wrr_n (by omega), wrr_e]
      unfold va_cpy
      rw [if_pos (by omega)]
      have := (l3 l (by omega) s hs).1
      rw [← this]
      congr 1
      omega
    have ao : ∀ j, j ≠ 15 → j ≠ 11 → z0 j = zX j := fun j g1 g2 => by rw [hz0, wrr_n g2, wrr_n g1]
    obtain ⟨z1, b1, b2, b3⟩ := endLevel_loop (tk := rm l) hl S.length 0 FU z0 (by omega) (by have := FU_ge; omega) (by rw [a11, upd_n (by omega), upd_n (by omega)]; exact h1.2.1.1) (by rw [a11, upd_e]; rfl) a15
    have eE : fX5_endLevel zX = some z1 := by
      unfold fX5_endLevel jX5_endLevel_38
      simp (disch := omega) only [l1, lit, nI_leI, if_neg, nI_sub, Nat.add_sub_cancel, wf_w, bnd_s, wrr_e, upd_e, nI_mul, cpb_g, gd_t, cpy_g, wrr_n]
      rw [← b1, hz0]
      congr 1
      funext j
      by_cases q1 : j = 11
      · subst q1; rw [wrr_e, wrr_e]
      · rw [wrr_n q1, wrr_n q1]
        by_cases q2 : j = 15
        · subst q2; rw [wrr_e, wrr_e]
        · rw [wrr_n q2, wrr_n q2, wrr_n q1]
    have fX : ∀ j, j ≠ 15 → j ≠ 11 → z1 j = zX j := fun j g1 g2 => by rw [b3 j g2, ao j g1 g2]
    have f11 : ∀ f, f ≠ 6 → f ≠ 7 → z1 11 f = zX 11 f := fun f g1 g2 => by rw [b2, upd_n g1, a11, upd_n g1, upd_n g2]
    have hXs : XSy S (rm l) z1 := by
      refine ⟨by rw [f11 5 (by omega) (by omega)]; exact h1.2.1.1, by rw [b2, upd_e], fun s hs => ?_, fun s hs => ?_⟩
      · rw [fX 12 (by omega) (by omega), fX 13 (by omega) (by omega), fX 14 (by omega) (by omega)]; exact h1.2.1.2.2.1 s hs
      · rw [b3 15 (by omega)]; exact a15 s hs
    obtain ⟨ro0, hb0⟩ := h1.2.2.2.1
    have hb1 := hb0.fr (z' := z1) fun j hj => fX j (by omega) (by omega)
    obtain ⟨z2, ro', j1, j2, j3⟩ := judgeAnew_ok hW h3.1 hCs.1 hCs.2 (h1.2.2.1.fr (fX 17 (by omega) (by omega))) hXs hb1
    -- the reference
    obtain ⟨zM0, hzM0⟩ : ∃ y : fS, y = wrr zM 0 (upd (zM 0) 11 (nI l)) := ⟨_, rfl⟩
    have c0 : ∀ j, j ≠ 0 → zM0 j = zM j := fun j g => by rw [hzM0, wrr_n g]
    have c00 : zM0 0 = upd (zM 0) 11 (nI l) := by rw [hzM0, wrr_e]
    obtain ⟨zM1, e1, e2, e3⟩ := pop_loop (rmv := rm l) (lv := l) hl (by omega) S.length 0 FU tk zM0 (by omega) (by have := FU_ge; omega) (h2.2.1.fr (by rw [c00, upd_n (by omega)]) (fun j g1 g2 s _ => by rw [c0 j (by omega)]) hl) (by rw [c00, upd_e]) (fun s hs => by rw [c0 9 (by omega)]; exact (l3 l (by omega) s hs).2) (fun s hs => by omega)
    obtain ⟨zM2, hzM⟩ : ∃ y : fS, y = wrr zM1 0 (upd (zM1 0) 30 (nI 0)) := ⟨_, rfl⟩
    have gM : ∀ j, j ≠ 0 → j ≠ 8 → zM2 j = zM j := fun j g1 g2 => by rw [hzM, wrr_n g1, e3 j g2, c0 j g1]
    have g0 : ∀ f, f ≠ 11 → f ≠ 30 → zM2 0 f = zM 0 f := fun f g1 g2 => by rw [hzM, wrr_e, upd_n g2, e3 0 (by omega), c00, upd_n g1]
    have hRM : RM T S (rm l) zM2 := ⟨h2.1.fr (g0 4 (by omega) (by omega)) fun j g1 g2 => gM j (by omega) (by omega), by rw [hzM]; exact e2, Or.inl (by rw [hzM, wrr_e, upd_e])⟩
    have hq : RQ i T S (rm l) l rm ps pt z2 zM2 := by
      refine ⟨⟨h1.1.fr fun j hj => by rw [j3 j (by omega) (by omega), fX j (by omega) (by omega)], hXs.fr fun j g1 g2 => j3 j (by omega) (by omega), h1.2.2.1.fr (by rw [j3 17 (by omega) (by omega), fX 17 (by omega) (by omega)]), ⟨ro0, hb1.fr2 j2.agenda fun j hj => j3 j (by omega) (by omega)⟩, ro', j2⟩, hRM, ⟨h3.1, hCs, by omega, fun l' hl' => h3.2.2.2 l' (by omega)⟩, ⟨⟨?_, ?_, ?_⟩, ?_, ?_, ?_, ?_⟩, h5.fr (fun j g1 g2 => by rw [j3 j (by omega) (by omega), fX j (by omega) (by omega)]) (fun j hj => gM j (by omega) (by omega)) (fun f hf => g0 f (by omega) (by omega))⟩
      · rw [j3 11 (by omega) (by omega), b2, upd_n (by omega), a11, upd_n (by omega), upd_e]
      · rw [hzM, wrr_e, upd_n (by omega), e3 0 (by omega), c00, upd_e]
      · rw [j3 16 (by omega) (by omega), fX 16 (by omega) (by omega), gM 9 (by omega) (by omega)]
        exact fun l' hl' => l3 l' (by omega)
      · obtain ⟨k, k1, k2, k3, k4⟩ := r2
        refine ⟨k, k1, by rw [j3 0 (by omega) (by omega), fX 0 (by omega) (by omega)]; exact k2, by rw [g0 14 (by omega) (by omega)]; exact k3, ?_⟩
        rw [j3 73 (by omega) (by omega), j3 74 (by omega) (by omega), fX 73 (by omega) (by omega), fX 74 (by omega) (by omega), gM 10 (by omega) (by omega), gM 11 (by omega) (by omega)]; exact k4
      · obtain ⟨k, k1, k2, k3, k4⟩ := r3
        refine ⟨k, k1, by rw [j3 63 (by omega) (by omega), fX 63 (by omega) (by omega)]; exact k2, by rw [g0 20 (by omega) (by omega)]; exact k3, ?_⟩
        rw [j3 64 (by omega) (by omega), j3 65 (by omega) (by omega), j3 66 (by omega) (by omega), j3 67 (by omega) (by omega), j3 68 (by omega) (by omega), fX 64 (by omega) (by omega), fX 65 (by omega) (by omega), fX 66 (by omega) (by omega), fX 67 (by omega) (by omega), fX 68 (by omega) (by omega), gM 12 (by omega) (by omega), gM 13 (by omega) (by omega), gM 14 (by omega) (by omega), gM 15 (by omega) (by omega), gM 16 (by omega) (by omega)]; exact k4
      · rw [j3 0 (by omega) (by omega), fX 0 (by omega) (by omega), g0 25 (by omega) (by omega)]; exact r4
      · obtain ⟨m, k1, k2, k3⟩ := r5
        exact ⟨m, k1, by rw [j3 58 (by omega) (by omega), fX 58 (by omega) (by omega)]; exact k2, by rw [j3 60 (by omega) (by omega), fX 60 (by omega) (by omega)]; exact k3⟩
    refine ⟨nI (cnt (rm l) S.length), _, _, ?_, ?_, hq.fin (nI 0)⟩
    · unfold fX5_takenCount
      have e6 : z2 11 6 = nI (cnt (rm l) S.length) := by rw [j3 11 (by omega) (by omega)]; exact hXs.2.1
      simp (disch := omega) only [lit, nI_eq, if_neg, eE, j1, e6, bp_s, doneX, bd_s]
    · simp (disch := omega) only [lit, nI_eq, if_neg, nI_sub, Nat.add_sub_cancel, wf_w, bnd_s]
      rw [← hzM0, e1, hzM]
      simp only [wrr_wrr, wrr_e]
/-! members and uses -/
def mfn (p : Nat → Bool) (v : Int32) : Nat → Nat → Nat → Int32
  | 0, _, _ => -(nI 1)
  | d + 1, t, c => if p t = true then (if nI c = v then nI t else mfn p v d (t + 1) (c + 1)) else mfn p v d (t + 1) c
theorem mfn_neg {p : Nat → Bool} {v : Int32} (hv : v < nI 0) : ∀ (d t c : Nat), c + d < 2 ^ 31 → mfn p v d t c = -(nI 1)
  | 0, _, _, _ => rfl
  | d + 1, t, c, h => by
    unfold mfn
    rw [if_neg (show ¬ nI c = v from fun e => by rw [← e, nI_ltI (by omega) (by omega)] at hv; omega), mfn_neg hv d (t + 1) (c + 1) (by omega), mfn_neg hv d (t + 1) c (by omega)]
    split <;> rfl
section MEMB
variable {T : List Tm} {ps : Nat} {zX zM : fS} {on : Nat → Nat}
theorem memberX_loop (hn : T.length ≤ 120) {m : Nat} {v : Int32} (hm : m < T.length) (h9 : zX 1 9 = nI T.length) (h17 : pcell (zX 17 3) = ps) (ho : ∀ a b, a < T.length → b < T.length → fX4_isOne ps zX (nI a) (nI b) = some (if on a = on b then nI 1 else nI 0)) : ∀ (d t c N : Nat), t + d = T.length → d < N → lX8_member_22 zX (nI m) v N (nI c) (nI t) = some (mfn (fun u => decide (on u = on m)) v d t c) := by
  intro d
  induction d with
  | zero =>
    intro t c N ht hN
    obtain ⟨N, rfl⟩ : ∃ M, N = M + 1 := ⟨N - 1, by omega⟩
    rw [lX8_member_22.eq_2]
    unfold fX7_count mfn
    simp (disch := omega) only [h9, bp_s, nI_leI, if_pos, litm]
  | succ d ih =>
    intro t c N ht hN
    obtain ⟨N, rfl⟩ : ∃ M, N = M + 1 := ⟨N - 1, by omega⟩
    rw [lX8_member_22.eq_2]
    unfold fX7_count mfn
    rw [stn, h9]
    have o := ho t m (by omega) hm
    by_cases q : on t = on m
    · rw [if_pos q] at o
      simp (disch := omega) only [bp_s, nI_leI, if_neg, h17, o, lit, nI_eq, bnd_s, nI_add, ih (t + 1) (c + 1) N (by omega) (by omega), q, decide_true, if_true]
      split <;> rfl
    · rw [if_neg q] at o
      simp (disch := omega) only [bp_s, nI_leI, if_neg, h17, o, lit, if_true, bnd_s, nI_add, ih (t + 1) c N (by omega) (by omega), q, decide_false]
      rfl
theorem memberM_loop (hn : T.length ≤ 120) {m : Nat} {v : Int32} (hm : m < T.length) (h4 : zM 0 4 = nI T.length) (hO : MO T.length on zM) : ∀ (d t c N : Nat), t + d = T.length → d < N → lX9_member_19 zM (nI m) N (v - nI c) (nI t) = some (mfn (fun u => decide (on u = on m)) v d t c, zM) := by
  intro d
  have om := hO m hm
  induction d with
  | zero =>
    intro t c N ht hN
    obtain ⟨N, rfl⟩ : ∃ M, N = M + 1 := ⟨N - 1, by omega⟩
    rw [lX9_member_19.eq_2]
    unfold mfn
    simp (disch := omega) only [h4, nI_leI, if_pos, litm]
  | succ d ih =>
    intro t c N ht hN
    obtain ⟨N, rfl⟩ : ∃ M, N = M + 1 := ⟨N - 1, by omega⟩
    rw [lX9_member_19.eq_2]
    unfold mfn
    have ot := hO t (by omega)
    by_cases q : on t = on m
    · simp (disch := omega) only [h4, nI_leI, if_neg, inb_t, gd_t, rd_nI, ot.1, om.1, nI_eq, q, if_true, lit, litm, sub_z, bnd_s, sub_s, nI_add, ih (t + 1) (c + 1) N (by omega) (by omega), decide_true]
      split <;> rfl
    · simp (disch := omega) only [h4, nI_leI, if_neg, inb_t, gd_t, rd_nI, ot.1, om.1, nI_eq, q, if_false, lit, bnd_s, nI_add, ih (t + 1) c N (by omega) (by omega), decide_false]
      rfl
end MEMB
theorem s_member : st_member Rel := by
  intro i zX zM a v _ hr
  obtain ⟨h0, T, S, tk, lv, rm, ps, pt, h⟩ := id hr
  have hT1 := h.1.1.1.1
  unfold fX8_member fX9_member
  rcases has_ok h a with ⟨x1, x2⟩ | ⟨m, m1, rfl, x1, x2⟩
  · refine ⟨-(nI 1), zM, ?_, ?_, up_ok hr⟩
    · simp only [x1, bp_s, lit, litm, if_true]
    · simp only [x2, bp_s, lit, litm, if_true]
  · obtain ⟨zM1, on, c1, c2, c3, c4, c5, c6, _⟩ := cls_ok h
    have eM := memberM_loop (v := v) hT1 m1 c2.2.1.1.1 c4 T.length 0 0 FU (by omega) (by have := FU_ge; omega)
    rw [sub_0] at eM
    have eX := memberX_loop (v := v) hT1 m1 h.1.1.2.2.1.1 h.1.2.2.1.1 c6 T.length 0 0 FU (by omega) (by have := FU_ge; omega)
    refine ⟨mfn (fun u => decide (on u = on m)) v T.length 0 0, zM1, ?_, ?_, ?_, T, S, tk, lv, rm, ps, pt, c2.up⟩
    · simp (disch := omega) only [x1, bp_s, lit, nI_eq, if_neg]
      by_cases q : nI 0 ≤ v
      · rw [if_pos q]; exact eX
      · rw [if_neg q, mfn_neg (nle_lt.mp q) _ _ _ (by omega)]
    · simp (disch := omega) only [x2, bp_s, lit, nI_eq, if_neg, c1]
      exact eM
    · rw [c3.2.2 26 (by omega) (by omega)]; exact h0
