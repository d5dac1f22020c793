/-! heads to go over, and the holes that stand in a law -/
def hB (T : List Tm) (on : Nat → Nat) (t : Nat) : Bool := decide (on t = t) && !hoB (gT T t)
section HDS
variable {T : List Tm} {S : List Sy} {tk : Nat → Bool} {lv : Nat} {rm : Nat → Nat → Bool} {ps pt i : Nat} {zX zM z z' : fS} {on : Nat → Nat} {H : Nat → Nat}
theorem pl_put {tk : Nat → Bool} {n c : Nat} {z : fS} (h : tk n = true) (hp : ∀ k, k < cnt tk n → z c k = nI ((pl tk n).getD k 0)) : ∀ k, k < cnt tk (n + 1) → upd (z c) (cnt tk n) (nI n) k = nI ((pl tk (n + 1)).getD k 0) := by
  intro k hk
  rw [cnt_s, h] at hk
  simp at hk
  rw [pl_t h]
  rcases Nat.eq_or_lt_of_le (Nat.le_of_lt_succ hk) with rfl | hk
  · have e : (pl tk n ++ [n]).getD (cnt tk n) 0 = n := by rw [← pl_len]; exact gD_r
    rw [e, upd_e]
  · rw [gD_l (by rw [pl_len]; exact hk), upd_n (by omega)]
    exact hp k hk
theorem pl_pass {tk : Nat → Bool} {n c : Nat} {z : fS} (h : tk n = false) (hp : ∀ k, k < cnt tk n → z c k = nI ((pl tk n).getD k 0)) : ∀ k, k < cnt tk (n + 1) → z c k = nI ((pl tk (n + 1)).getD k 0) := by
  intro k hk
  rw [cnt_s, h] at hk
  rw [pl_f h]
  exact hp k (by simpa using hk)
theorem cnt_t {p : Nat → Bool} {n : Nat} (h : p n = true) : cnt p (n + 1) = cnt p n + 1 := by rw [cnt_s, h]; rfl
theorem cnt_f {p : Nat → Bool} {n : Nat} (h : p n = false) : cnt p (n + 1) = cnt p n := by rw [cnt_s, h]; rfl
theorem gather_loop (h : RQ i T S tk lv rm ps pt zX zM) (hh : ∀ t, t < T.length → fX4_headOf ps zX (nI t) = some (nI (on t))) (ho : ∀ t, t < T.length → on t ≤ t) : ∀ (d t N : Nat) (z : fS), t + d = T.length → d < N → (∀ j, j ≠ 75 → z j = zX j) → (∀ k, k < cnt (hB T on) t → z 75 k = nI ((pl (hB T on) t).getD k 0)) → ∃ z', lX8_gatherHeads_4 N (nI (cnt (hB T on) t)) (nI t) z = some (nI (cnt (hB T on) T.length), z') ∧ (∀ j, j ≠ 75 → z' j = zX j) ∧ (∀ k, k < cnt (hB T on) T.length → z' 75 k = nI ((pl (hB T on) T.length).getD k 0)) := by
  have hn := h.1.1.1.1
  have hT := h.1.1.2.2.1
  have hps := h.1.2.2.1.1
  have hnu := h.1.2.2.1.num
  intro d
  induction d with
  | zero =>
    intro t N z ht hN he hp
    obtain ⟨N, rfl⟩ : ∃ M, N = M + 1 := ⟨N - 1, by omega⟩
    have e : t = T.length := by omega
    subst e
    refine ⟨z, ?_, he, hp⟩
    have hc : fX7_count z = some (nI T.length) := by unfold fX7_count; rw [he 1 (by omega), hT.1]
    rw [lX8_gatherHeads_4.eq_2]
    simp (disch := omega) only [hc, bp_s, nI_leI, if_pos]
  | succ d ih =>
    intro t N z ht hN he hp
    obtain ⟨N, rfl⟩ : ∃ M, N = M + 1 := ⟨N - 1, by omega⟩
    have hc : fX7_count z = some (nI T.length) := by unfold fX7_count; rw [he 1 (by omega), hT.1]
    have hst : fX2_standing z = some (zX 17 3) := by unfold fX2_standing; rw [he 17 (by omega)]
    have hhd : fX4_headOf ps z (nI t) = some (nI (on t)) := by
      rw [← hh t (by omega)]
      unfold fX4_headOf rd
      rw [he (ps + 1) (by omega), he (ps + 4) (by omega)]
    have eT := hT.2 t (by omega)
    have hho := isHole_v (z := z) (t := t) (tm := gT T t) (by omega) (by rw [he 2 (by omega)]; exact eT.1) (by rw [he 3 (by omega)]; exact eT.2.1)
    have hcl := cnt_le (hB T on) t
    have ho := ho t (by omega)
    rw [lX8_gatherHeads_4.eq_2]
    by_cases q1 : on t = t
    · cases q2 : hoB (gT T t)
      · have hb : hB T on t = true := by unfold hB; rw [q2]; simp [q1]
        rw [q2, bI_f] at hho
        obtain ⟨z', e1, e2, e3⟩ := ih (t + 1) N (wrr z 75 (upd (z 75) (cnt (hB T on) t) (nI t))) (by omega) (by omega) (fun j hj => by rw [wrr_n hj]; exact he j hj) (by rw [wrr_e]; exact pl_put hb hp)
        refine ⟨z', ?_, e2, e3⟩
        rw [cnt_t hb] at e1
        simp (disch := omega) only [hc, bp_s, nI_leI, if_neg, hst, hps, hhd, q1, if_true, hho, lit, inb_t, gd_t, wr_nI, bnd_s, nI_add]
        exact e1
      · have hb : hB T on t = false := by unfold hB; rw [q2]; simp
        rw [q2, bI_t] at hho
        obtain ⟨z', e1, e2, e3⟩ := ih (t + 1) N z (by omega) (by omega) he (pl_pass hb hp)
        refine ⟨z', ?_, e2, e3⟩
        rw [cnt_f hb] at e1
        simp (disch := omega) only [hc, bp_s, nI_leI, if_neg, hst, hps, hhd, q1, if_true, hho, lit, nI_eq, bnd_s, nI_add]
        exact e1
    · have hb : hB T on t = false := by unfold hB; simp [q1]
      obtain ⟨z', e1, e2, e3⟩ := ih (t + 1) N z (by omega) (by omega) he (pl_pass hb hp)
      refine ⟨z', ?_, e2, e3⟩
      rw [cnt_f hb] at e1
      simp (disch := omega) only [hc, bp_s, nI_leI, if_neg, hst, hps, hhd, nI_eq, q1, if_false, lit, bnd_s, nI_add]
      exact e1
theorem heads_loop (hn : T.length ≤ 120) (hM : MT T zM) (hO : MO T.length on zM) : ∀ (d t N : Nat) (z : fS), t + d = T.length → d < N → (∀ j, j ≠ 0 → j ≠ 30 → z j = zM j) → (∀ f, f ≠ 40 → z 0 f = zM 0 f) → z 0 40 = nI (cnt (hB T on) t) → (∀ k, k < cnt (hB T on) t → z 30 k = nI ((pl (hB T on) t).getD k 0)) → ∃ z', lX9_findHeads_11 N (nI t) z = some z' ∧ (∀ j, j ≠ 0 → j ≠ 30 → z' j = zM j) ∧ (∀ f, f ≠ 40 → z' 0 f = zM 0 f) ∧ z' 0 40 = nI (cnt (hB T on) T.length) ∧ (∀ k, k < cnt (hB T on) T.length → z' 30 k = nI ((pl (hB T on) T.length).getD k 0)) := by
  intro d
  induction d with
  | zero =>
    intro t N z ht hN he h0 h40 hp
    obtain ⟨N, rfl⟩ : ∃ M, N = M + 1 := ⟨N - 1, by omega⟩
    have e : t = T.length := by omega
    subst e
    refine ⟨z, ?_, he, h0, h40, hp⟩
    have hc : z 0 4 = nI T.length := by rw [h0 4 (by omega)]; exact hM.1
    rw [lX9_findHeads_11.eq_2]
    simp (disch := omega) only [hc, nI_leI, if_pos]
  | succ d ih =>
    intro t N z ht hN he h0 h40 hp
    obtain ⟨N, rfl⟩ : ∃ M, N = M + 1 := ⟨N - 1, by omega⟩
    have hc : z 0 4 = nI T.length := by rw [h0 4 (by omega)]; exact hM.1
    have o := hO t (by omega)
    have h20 : z 20 t = nI (on t) := by rw [he 20 (by omega) (by omega)]; exact o.1
    have eT := hM.2 t (by omega)
    have hho := isHoleM_v (z := z) (t := t) (tm := gT T t) (by omega) (by rw [he 1 (by omega) (by omega)]; exact eT.1) (by rw [he 2 (by omega) (by omega)]; exact eT.2.1)
    have hcl := cnt_le (hB T on) t
    rw [lX9_findHeads_11.eq_2]
    by_cases q1 : on t = t
    · cases q2 : hoB (gT T t)
      · have hb : hB T on t = true := by unfold hB; rw [q2]; simp [q1]
        rw [q2, bI_f] at hho
        obtain ⟨z', e1, e2⟩ := ih (t + 1) N (wrr (wrr z 30 (upd (z 30) (cnt (hB T on) t) (nI t))) 0 (upd (z 0) 40 (nI (cnt (hB T on) t + 1)))) (by omega) (by omega) (fun j g1 g2 => by rw [wrr_n g1, wrr_n g2]; exact he j g1 g2) (fun f hf => by rw [wrr_e, upd_n hf]; exact h0 f hf) (by rw [wrr_e, upd_e, cnt_t hb]) (by rw [wrr_n (by omega), wrr_e]; exact pl_put hb hp)
        refine ⟨z', ?_, e2⟩
        simp (disch := omega) only [hc, nI_leI, if_neg, inb_t, gd_t, rd_nI, h20, q1, if_true, hho, bp_s, lit, h40, wr_nI, bnd_s, wf_w, wrr_n, nI_add]
        exact e1
      · have hb : hB T on t = false := by unfold hB; rw [q2]; simp
        rw [q2, bI_t] at hho
        obtain ⟨z', e1, e2⟩ := ih (t + 1) N z (by omega) (by omega) he h0 (by rw [cnt_f hb]; exact h40) (pl_pass hb hp)
        refine ⟨z', ?_, e2⟩
        simp (disch := omega) only [hc, nI_leI, if_neg, inb_t, gd_t, rd_nI, h20, q1, if_true, hho, bp_s, lit, nI_eq, bnd_s, nI_add]
        exact e1
    · have hb : hB T on t = false := by unfold hB; simp [q1]
      obtain ⟨z', e1, e2⟩ := ih (t + 1) N z (by omega) (by omega) he h0 (by rw [cnt_f hb]; exact h40) (pl_pass hb hp)
      refine ⟨z', ?_, e2⟩
      simp (disch := omega) only [hc, nI_leI, if_neg, inb_t, gd_t, rd_nI, h20, nI_eq, q1, if_false, lit, bnd_s, nI_add]
      exact e1
theorem orl_bit {h : Nat} : ∀ {l : List Nat} {m : Nat}, (orl H l m).testBit h = true ↔ m.testBit h = true ∨ ∃ p, p ∈ l ∧ (H p).testBit h = true
  | [], m => ⟨fun q => Or.inl q, fun q => by rcases q with q | ⟨p, q, _⟩; exact q; cases q⟩
  | q :: l, m => by
    have e : orl H (q :: l) m = orl H l (m ||| H q) := rfl
    rw [e, orl_bit (l := l) (m := m ||| H q), Nat.testBit_or]
    constructor
    · rintro (w | ⟨p, p1, p2⟩)
      · rcases Bool.or_eq_true_iff.mp w with w | w
        · exact Or.inl w
        · exact Or.inr ⟨q, List.mem_cons_self, w⟩
      · exact Or.inr ⟨p, List.mem_cons_of_mem _ p1, p2⟩
    · rintro (w | ⟨p, p1, p2⟩)
      · exact Or.inl (Bool.or_eq_true_iff.mpr (Or.inl w))
      · rcases List.mem_cons.mp p1 with rfl | p1
        · exact Or.inl (Bool.or_eq_true_iff.mpr (Or.inr p2))
        · exact Or.inr ⟨p, p1, p2⟩
theorem hbit_bit (tm : Tm) {h : Nat} (hh : h < 3) : (hbit tm).testBit h = true ↔ hbit tm ≠ 0 ∧ hix tm = h := by
  have key : ∀ b : Nat, b = 0 ∨ b = 1 ∨ b = 2 ∨ b = 4 → ∀ h : Nat, h = 0 ∨ h = 1 ∨ h = 2 → (b.testBit h = true ↔ b ≠ 0 ∧ b / 2 = h) := by
    rintro b (rfl | rfl | rfl | rfl) h (rfl | rfl | rfl) <;> decide
  unfold hix
  refine key (hbit tm) ?_ h (by omega)
  rcases hbit_cases tm with q | ⟨_, ⟨_, q⟩ | ⟨_, q⟩ | ⟨_, q⟩⟩ <;> omega
theorem and_bits {n : Nat} (h : n < 8) : (nI n &&& nI 1 = nI 0 ↔ n.testBit 0 = false) ∧ (nI n &&& nI 2 = nI 0 ↔ n.testBit 1 = false) ∧ (nI n &&& nI 4 = nI 0 ↔ n.testBit 2 = false) := by
  have key : ∀ a : Fin 8, (nI a.1 &&& nI 1 = nI 0 ↔ a.1.testBit 0 = false) ∧ (nI a.1 &&& nI 2 = nI 0 ↔ a.1.testBit 1 = false) ∧ (nI a.1 &&& nI 4 = nI 0 ↔ a.1.testBit 2 = false) := by decide
  exact key ⟨n, h⟩
end HDS
section HDS2
variable {T : List Tm} {z z' : fS} {H : Nat → Nat}
theorem mark_loop (hW : WT T) {u : Nat} (hu : u < T.length) {k104 : fS → Option fS} : ∀ (d j N : Nat) (z : fS) (se : Nat → Bool), j + d = sz T u → d < N → MT T z → (∀ v, v < T.length → z 29 v = bI (se v)) → ∃ (z' : fS) (se' : Nat → Bool), lX9_lookForHoles_72 k104 (nI u) N (nI j) z = k104 z' ∧ (∀ v, v < T.length → z' 29 v = bI (se' v)) ∧ (∀ v, se' v = true ↔ se v = true ∨ ∃ l, j ≤ l ∧ l < sz T u ∧ v = pt T u l) ∧ (∀ c, c ≠ 29 → z' c = z c) := by
  have hn := hW.1
  have hs := hW.2 u hu
  intro d
  induction d with
  | zero =>
    intro j N z se hj hN hM h29
    obtain ⟨N, rfl⟩ : ∃ M, N = M + 1 := ⟨N - 1, by omega⟩
    have e3 := (hM.2 u hu).2.2.1
    refine ⟨z, se, ?_, h29, fun v => ⟨Or.inl, fun q => ?_⟩, fun _ _ => rfl⟩
    · rw [lX9_lookForHoles_72.eq_2]
      simp (disch := omega) only [inb_t, gd_t, rd_nI, e3, nI_leI, if_pos]
    · rcases q with q | ⟨l, l1, l2, _⟩
      · exact q
      · omega
  | succ d ih =>
    intro j N z se hj hN hM h29
    obtain ⟨N, rfl⟩ : ∃ M, N = M + 1 := ⟨N - 1, by omega⟩
    have e3 := (hM.2 u hu).2.2.1
    have e4 := (hM.2 u hu).2.2.2 j (by omega)
    have hp := hs.2.1 j (by omega)
    obtain ⟨z', se', e1, e2, e5, e6⟩ := ih (j + 1) N (wrr z 29 (upd (z 29) (pt T u j) (nI 1))) (fun v => if v = pt T u j then true else se v) (by omega) (by omega) (hM.fr (by rw [wrr_n (by omega)]) fun c g1 g2 => wrr_n (by omega)) (fun v hv => by
      rw [wrr_e]
      by_cases q : v = pt T u j
      · rw [q, upd_e, if_pos rfl, bI_t]
      · rw [upd_n q, if_neg q]; exact h29 v hv)
    refine ⟨z', se', ?_, e2, fun v => ?_, fun c hc => (e6 c hc).trans (wrr_n hc)⟩
    · rw [lX9_lookForHoles_72.eq_2]
      simp (disch := omega) only [inb_t, gd_t, rd_nI, e3, nI_leI, if_neg, lit, nI_mul, nI_add, e4, zb_1, wr_nI, bnd_s]
      exact e1
    · rw [e5 v]
      by_cases q : v = pt T u j
      · rw [if_pos q]
        exact ⟨fun _ => Or.inr ⟨j, Nat.le_refl _, by omega, q⟩, fun _ => Or.inl rfl⟩
      · rw [if_neg q]
        constructor
        · rintro (w | ⟨l, l1, l2, l3⟩)
          · exact Or.inl w
          · exact Or.inr ⟨l, by omega, l2, l3⟩
        · rintro (w | ⟨l, l1, l2, l3⟩)
          · exact Or.inl w
          · rcases Nat.eq_or_lt_of_le l1 with rfl | l1
            · exact absurd l3 q
            · exact Or.inr ⟨l, l1, l2, l3⟩
theorem holes_down (hW : WT T) (hH : IsH T H) : ∀ (i N : Nat) (z : fS) (st se : Nat → Bool), i ≤ T.length → i < N → MT T z → (∀ h, h < 3 → z 28 h = bI (st h)) → (∀ v, v < T.length → z 29 v = bI (se v)) → ∃ (z' : fS) (st' : Nat → Bool), lX9_lookForHoles_34 N (pI i) z = some z' ∧ (∀ h, h < 3 → z' 28 h = bI (st' h)) ∧ (∀ h, h < 3 → (st' h = true ↔ st h = true ∨ ∃ v, v < i ∧ se v = true ∧ (H v).testBit h = true)) ∧ (∀ c, c ≠ 28 → c ≠ 29 → z' c = z c) := by
  have hn := hW.1
  intro i
  induction i with
  | zero =>
    intro N z st se hi hN hM h28 h29
    obtain ⟨N, rfl⟩ : ∃ M, N = M + 1 := ⟨N - 1, by omega⟩
    refine ⟨z, st, ?_, h28, fun h hh => ⟨Or.inl, fun q => ?_⟩, fun _ _ _ => rfl⟩
    · rw [lX9_lookForHoles_34.eq_2]
      simp only [lit, pI_0, m1_lt0, if_true]
    · rcases q with q | ⟨v, v1, _⟩
      · exact q
      · omega
  | succ i ih =>
    intro N z st se hi hN hM h28 h29
    obtain ⟨N, rfl⟩ : ∃ M, N = M + 1 := ⟨N - 1, by omega⟩
    have hu : i < T.length := by omega
    have e29 := h29 i hu
    have eT := hM.2 i hu
    have hho := isHoleM_v (z := z) (t := i) (tm := gT T i) (by omega) eT.1 eT.2.1
    have e2 : z 2 i = (gT T i).2.1 := eT.2.1
    have hs := hW.2 i hu
    cases q : se i
    · rw [q, bI_f] at e29
      obtain ⟨z', st', e1, e2, e3, e4⟩ := ih N z st se (by omega) (by omega) hM h28 h29
      refine ⟨z', st', ?_, e2, fun h hh => ?_, e4⟩
      · rw [lX9_lookForHoles_34.eq_2]
        unfold jX9_lookForHoles_104
        simp (disch := omega) only [pI_s, Nat.add_sub_cancel, lit, litm, nI_ltI, if_neg, inb_t, gd_t, rd_nI, e29, if_true, pI_dec, bnd_s]
        exact e1
      · rw [e3 h hh]
        constructor
        · rintro (w | ⟨v, v1, v2⟩)
          · exact Or.inl w
          · exact Or.inr ⟨v, by omega, v2⟩
        · rintro (w | ⟨v, v1, v2, v3⟩)
          · exact Or.inl w
          · rcases Nat.eq_or_lt_of_le (Nat.le_of_lt_succ v1) with rfl | v1
            · rw [q] at v2; cases v2
            · exact Or.inr ⟨v, v1, v2, v3⟩
    · rw [q, bI_t] at e29
      -- the holes that stand, with this one
      have hol : ∃ (z1 : fS) (st1 : Nat → Bool), lX9_lookForHoles_34 (N + 1) (pI (i + 1)) z = jX9_lookForHoles_70 (lX9_lookForHoles_34 N) (nI i) z1 ∧ (∀ h, h < 3 → z1 28 h = bI (st1 h)) ∧ (∀ h, h < 3 → (st1 h = true ↔ st h = true ∨ (hbit (gT T i)).testBit h = true)) ∧ (∀ c, c ≠ 28 → z1 c = z c) := by
        by_cases w : hbit (gT T i) = 0
        · have eb : hoB (gT T i) = false := by unfold hoB; rw [w]; rfl
          rw [eb, bI_f] at hho
          refine ⟨z, st, ?_, h28, fun h hh => ⟨Or.inl, fun q => ?_⟩, fun _ _ => rfl⟩
          · rw [lX9_lookForHoles_34.eq_2]
            simp (disch := omega) only [pI_s, Nat.add_sub_cancel, lit, nI_ltI, if_neg, inb_t, gd_t, rd_nI, e29, nI_eq, hho, bp_s, if_true]
          · rcases q with q | q
            · exact q
            · rw [hbit_bit _ hh] at q
              exact absurd w q.1
        · have eb : hoB (gT T i) = true := by unfold hoB; simp [w]
          rw [eb, bI_t] at hho
          have hlt := hix_lt (gT T i)
          have hsb := hix_sub w
          refine ⟨wrr z 28 (upd (z 28) (hix (gT T i)) (nI 1)), tkx st (hix (gT T i)) true, ?_, fun h hh => ?_, fun h hh => ?_, fun c hc => wrr_n hc⟩
          · rw [lX9_lookForHoles_34.eq_2]
            simp (disch := omega) only [pI_s, Nat.add_sub_cancel, lit, nI_ltI, if_neg, inb_t, gd_t, rd_nI, e29, nI_eq, hho, bp_s, e2, hsb, zb_1, wr_nI, bnd_s]
          · rw [wrr_e]
            by_cases q : h = hix (gT T i)
            · rw [q, upd_e, tkx_e, bI_t]
            · rw [upd_n q, tkx_n q]; exact h28 h hh
          · rw [hbit_bit _ hh]
            by_cases q : h = hix (gT T i)
            · rw [← q, tkx_e]
              exact ⟨fun _ => Or.inr ⟨w, rfl⟩, fun _ => rfl⟩
            · rw [tkx_n q]
              exact ⟨Or.inl, fun r => r.elim id fun r => absurd r.2.symm q⟩
      obtain ⟨z1, st1, a1, a2, a3, a4⟩ := hol
      have hM1 : MT T z1 := hM.fr (by rw [a4 0 (by omega)]) fun c g1 g2 => a4 c (by omega)
      obtain ⟨z2, se2, b1, b2, b3, b4⟩ := mark_loop hW hu (k104 := jX9_lookForHoles_104 (lX9_lookForHoles_34 N) (nI i)) (sz T i) 0 FU z1 se (by omega) (by have := FU_ge; omega) hM1 (by rw [a4 29 (by omega)]; exact h29)
      obtain ⟨z3, st3, c1, c2, c3, c4⟩ := ih N z2 st1 se2 (by omega) (by omega) (hM1.fr (by rw [b4 0 (by omega)]) fun c g1 g2 => b4 c (by omega)) (by rw [b4 28 (by omega)]; exact a2) b2
      refine ⟨z3, st3, ?_, c2, fun h hh => ?_, fun c g1 g2 => by rw [c4 c g1 g2, b4 c g2, a4 c g1]⟩
      · rw [a1]
        unfold jX9_lookForHoles_70
        simp only [lit]
        rw [b1]
        unfold jX9_lookForHoles_104
        simp only [litm, pI_dec, bnd_s]
        exact c1
      · rw [c3 h hh, a3 h hh]
        have hHi : (H i).testBit h = true ↔ (hbit (gT T i)).testBit h = true ∨ ∃ p, p ∈ pts T i ∧ (H p).testBit h = true := by rw [(hH i hu).1]; exact orl_bit
        constructor
        · rintro ((w | w) | ⟨v, v1, v2, v3⟩)
          · exact Or.inl w
          · exact Or.inr ⟨i, by omega, q, hHi.mpr (Or.inl w)⟩
          · rcases (b3 v).mp v2 with v2 | ⟨l, _, l2, rfl⟩
            · exact Or.inr ⟨v, by omega, v2, v3⟩
            · exact Or.inr ⟨i, by omega, q, hHi.mpr (Or.inr ⟨_, gD_mem l2, v3⟩)⟩
        · rintro (w | ⟨v, v1, v2, v3⟩)
          · exact Or.inl (Or.inl w)
          · rcases Nat.eq_or_lt_of_le (Nat.le_of_lt_succ v1) with rfl | v1
            · rcases hHi.mp v3 with w | ⟨p, p1, p2⟩
              · exact Or.inl (Or.inr w)
              · obtain ⟨l, l1, l2⟩ := mem_gD p1
                have hlt := pts_lt hW hu p1
                exact Or.inr ⟨p, hlt, (b3 p).mpr (Or.inr ⟨l, Nat.zero_le _, l1, l2.symm⟩), p2⟩
            · exact Or.inr ⟨v, v1, (b3 v).mpr (Or.inl v2), v3⟩
theorem seen_loop (hn : T.length ≤ 120) {t : Nat} (ht : t < T.length) {k32 : fS → Option fS} : ∀ (d u N : Nat) (z : fS), u + d = T.length → d < N → z 0 4 = nI T.length → (∀ v, v < u → z 29 v = bI (decide (v = t))) → ∃ z', lX9_lookForHoles_2 k32 (nI t) N (nI u) z = k32 z' ∧ (∀ v, v < T.length → z' 29 v = bI (decide (v = t))) ∧ (∀ c, c ≠ 29 → z' c = z c) := by
  intro d
  induction d with
  | zero =>
    intro u N z hu hN h4 h29
    obtain ⟨N, rfl⟩ : ∃ M, N = M + 1 := ⟨N - 1, by omega⟩
    refine ⟨z, ?_, fun v hv => h29 v (by omega), fun _ _ => rfl⟩
    rw [lX9_lookForHoles_2.eq_2]
    simp (disch := omega) only [h4, nI_leI, if_pos]
  | succ d ih =>
    intro u N z hu hN h4 h29
    obtain ⟨N, rfl⟩ : ∃ M, N = M + 1 := ⟨N - 1, by omega⟩
    obtain ⟨z', e1, e2, e3⟩ := ih (u + 1) N (wrr z 29 (upd (z 29) u (bI (decide (u = t))))) (by omega) (by omega) (by rw [wrr_n (by omega)]; exact h4) (fun v hv => by
      rw [wrr_e]
      by_cases q : v = u
      · rw [q, upd_e]
      · rw [upd_n q]; exact h29 v (by omega))
    refine ⟨z', ?_, e2, fun c hc => (e3 c hc).trans (wrr_n hc)⟩
    rw [lX9_lookForHoles_2.eq_2]
    by_cases q : u = t
    · rw [decide_eq_true q, bI_t] at e1
      simp (disch := omega) only [h4, nI_leI, if_neg, q, if_true, inb_t, gd_t, lit, zb_1, wr_nI, bnd_s, nI_add]
      rw [q] at e1
      exact e1
    · rw [decide_eq_false q, bI_f] at e1
      simp (disch := omega) only [h4, nI_leI, if_neg, nI_eq, q, if_false, inb_t, gd_t, lit, zb_0, wr_nI, bnd_s, nI_add]
      exact e1
theorem lookHoles_ok (hW : WT T) (hH : IsH T H) (hM : MT T z) {t : Nat} (ht : t < T.length) {st : Nat → Bool} (h28 : ∀ h, h < 3 → z 28 h = bI (st h)) : ∃ (z' : fS) (st' : Nat → Bool), fX9_lookForHoles z (nI t) = some z' ∧ (∀ h, h < 3 → z' 28 h = bI (st' h)) ∧ (∀ h, h < 3 → (st' h = true ↔ st h = true ∨ (H t).testBit h = true)) ∧ (∀ c, c ≠ 28 → c ≠ 29 → z' c = z c) := by
  have hn := hW.1
  obtain ⟨z1, a1, a2, a3⟩ := seen_loop hn ht (k32 := jX9_lookForHoles_32 (nI t)) T.length 0 FU z (by omega) (by have := FU_ge; omega) hM.1 (fun v hv => by omega)
  obtain ⟨z2, st2, b1, b2, b3, b4⟩ := holes_down hW hH (t + 1) FU z1 st (fun v => decide (v = t)) (by omega) (by have := FU_ge; omega) (hM.fr (by rw [a3 0 (by omega)]) fun c g1 g2 => a3 c (by omega)) (by rw [a3 28 (by omega)]; exact h28) a2
  refine ⟨z2, st2, ?_, b2, fun h hh => ?_, fun c g1 g2 => by rw [b4 c g1 g2, a3 c g2]⟩
  · unfold fX9_lookForHoles
    simp only [lit]
    rw [a1]
    unfold jX9_lookForHoles_32
    rw [pI_s (by omega), Nat.add_sub_cancel] at b1
    exact b1
  · rw [b3 h hh]
    constructor
    · rintro (w | ⟨v, _, v2, v3⟩)
      · exact Or.inl w
      · have e : v = t := of_decide_eq_true v2
        subst e
        exact Or.inr v3
    · rintro (w | w)
      · exact Or.inl w
      · exact Or.inr ⟨t, by omega, decide_eq_true rfl, w⟩
end HDS2
