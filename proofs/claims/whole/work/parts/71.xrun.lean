/-! the class makes an instance: the path through the term -/
def fil (x y w : Nat) : Nat → Nat := fun h => if h = 0 then x else if h = 1 then y else w
section XRU
variable {T0 T T' : List Tm} {f H0 : Nat → Nat} {tu t u : Nat} {z z' z1 z2 : fS}
theorem xU_less (hu : u < T0.length) (h : z 60 u ≠ nI tu) (e : z' 60 = upd (z 60) u (nI tu)) : xU T0 tu z' + 1 = xU T0 tu z := by
  unfold xU
  refine cnt_less (j := u) (decide_eq_true h) (decide_eq_false ?_) (fun i hi => ?_) hu
  · rw [e, upd_e]; exact fun h => h rfl
  · rw [e, upd_n hi]
theorem xU_eq (e : z' 60 = z 60) : xU T0 tu z' = xU T0 tu z := by unfold xU; rw [e]
theorem inst_run (hW : WT T0) (hH0 : IsH T0 H0) (hf : ∀ h, h < 3 → f h < T0.length) {a : Int32} : ∀ (n u : Nat), u < n → u < T0.length → ∀ (m : Nat) (T : List Tm) (z : fS) (d s : Nat), xU T0 tu z ≤ m → XI T0 f tu T z → z 61 d = nI u → d + u ≤ 119 → s + 2 * xU T0 tu z ≤ 1000 + d → Uk T0 H0 tu u z →
    (In T0 f u T = none ∧ ∃ k z', k ≤ 2 * xU T0 tu z + u ∧ (∀ N, lX3_makeInstance_54 a (nI T0.length) (N + k) (nI d) (nI s) z = some (-(nI 1), z')) ∧ HX T0 z' ∧ Mf tu z z') ∨
    (∃ r T' k z', In T0 f u T = some (r, T') ∧ XI T0 f tu T' z' ∧ z' 60 u = nI tu ∧ (∀ v, u < v → z' 60 v = z 60 v) ∧ k + 1 + 2 * xU T0 tu z' ≤ 2 * xU T0 tu z ∧ (∀ j, j < d → z' 61 j = z 61 j) ∧ Mf tu z z' ∧ ∀ N, lX3_makeInstance_54 a (nI T0.length) (N + k) (nI d) (nI s) z = lX3_makeInstance_54 a (nI T0.length) N (pI d) (nI (s + k)) z') := by
  intro n
  induction n with
  | zero => intro u h; omega
  | succ n ih =>
    intro u hun hu m
    induction m with
    | zero =>
      intro T z d s hU hI h61 hd hs hk
      exfalso
      have : 0 < xU T0 tu z := cnt_pos hu (decide_eq_true hk.1)
      omega
    | succ m ihm =>
      intro T z d s hU hI h61 hd hs hk
      have hpos : 0 < xU T0 tu z := cnt_pos hu (decide_eq_true hk.1)
      have hkn := uk_ok hI hW hH0 hu hk
      have hsz := hW.2 u hu
      have one : ∀ N, lX3_makeInstance_54 a (nI T0.length) (N + 1) (nI d) (nI s) z = bp (fX3_openPart z (nI u)) fun r91 => jX3_makeInstance_94 (lX3_makeInstance_54 a (nI T0.length) N) a (nI T0.length) (nI d) (nI s) (nI u) r91 z := by
        intro N
        rw [lX3_makeInstance_54.eq_2]
        simp (disch := omega) only [lit, nI_leI, if_neg, nI_ltI, inb_t, gd_t, rd_nI, h61, bnd_s, hkn, bp_s, if_true]
      have hop := open_loop hI hW hH0 hu (sz T0 u) 0 FU (by omega) (by have := FU_ge; omega)
      have eop : fX3_openPart z (nI u) = lX3_openPart_2 z (nI u) FU (nI 0) := rfl
      rcases hop with ⟨o1, o2⟩ | ⟨j, j1, j2, j3, j4, j5⟩
      · rcases makeImage_ok hI hW hH0 hf hu hk.2.1 (fun j hj => o2 j (by omega) hj) with ⟨i1, z1, i2, i3, i4, i5⟩ | ⟨r, T1, z1, i1, i2, i3, i4, i5⟩
        · obtain ⟨R, hR⟩ := hI.1.1
          rw [hR] at i3
          obtain ⟨z2, u1, u2, u3⟩ := unmakeFrom_ok i3
          refine Or.inl ⟨i1, 1, z2, by omega, fun N => ?_, u2, fun j hj => ?_, fun t => ?_⟩
          · rw [one N, eop, o1, bp_s]
            unfold jX3_makeInstance_94 jX3_makeInstance_126
            simp only [litm, lit, if_true, hkn, bp_s, i2, bd_s, u1]
          · rw [u3 j (by omega), i5 j (by omega)]
          · rw [u3 60 (by omega), i4]
            by_cases q : t = u
            · subst q; exact Or.inr upd_e
            · exact Or.inl (upd_n q)
        · have hless := xU_less (T0 := T0) hu hk.1 i4
          refine Or.inr ⟨r, T1, 1, z1, i1, i3, by rw [i4, upd_e], fun v hv => by rw [i4, upd_n (by omega)], by omega, fun j _ => by rw [i5 61 (by omega)], ⟨fun j hj => i5 j (by omega), fun t => ?_⟩, fun N => ?_⟩
          · rw [i4]
            by_cases q : t = u
            · subst q; exact Or.inr upd_e
            · exact Or.inl (upd_n q)
          · rw [one N, eop, o1, bp_s]
            unfold jX3_makeInstance_94 jX3_makeInstance_126
            simp (disch := omega) only [litm, lit, if_true, hkn, bp_s, i2, bd_s, nI_eq, if_neg, pI_dec, bnd_s, nI_add]
      · have hp := hsz.2.1 j j2
        have hz1 : XI T0 f tu T (wrr z 61 (upd (z 61) (d + 1) (nI (pt T0 u j)))) := hI.fr fun k hk => wrr_n hk
        have hu1 : xU T0 tu (wrr z 61 (upd (z 61) (d + 1) (nI (pt T0 u j)))) = xU T0 tu z := xU_eq (wrr_n (by omega))
        have push : ∀ N, lX3_makeInstance_54 a (nI T0.length) (N + 1) (nI d) (nI s) z = lX3_makeInstance_54 a (nI T0.length) N (nI (d + 1)) (nI (s + 1)) (wrr z 61 (upd (z 61) (d + 1) (nI (pt T0 u j)))) := by
          intro N
          rw [one N, eop, j3, bp_s]
          unfold jX3_makeInstance_94
          simp (disch := omega) only [litm, lit, nI_m1n, if_false, nI_add, nI_leI, if_neg, bnd_s, inb_t, gd_t, wr_nI]
        have hg : ∀ l, l < j → In T0 f (pt T0 u l) T = some (gI T0 f T (pt T0 u l), T) := fun l hl => (j5 l (by omega) hl).2.2
        have fr1 : Mf tu z (wrr z 61 (upd (z 61) (d + 1) (nI (pt T0 u j)))) := ⟨fun k hk => wrr_n (by omega), fun t => Or.inl (by rw [wrr_n (by omega)])⟩
        rcases ih (pt T0 u j) (by omega) (by omega) _ T _ (d + 1) (s + 1) (Nat.le_refl _) hz1 (by rw [wrr_e, upd_e]) (by omega) (by rw [hu1]; omega) ⟨by rw [wrr_n (by omega)]; exact j4.1, j4.2⟩ with ⟨c1, k, z2, c2, c3, c4, c5⟩ | ⟨r, T2, k, z2, c1, c2, c3, c4, c5, c6, c7, c8⟩
        · refine Or.inl ⟨In_stop hW hu hk.2.1 j2 hg c1, k + 1, z2, ?_, fun N => ?_, c4, fr1.tr c5⟩
          · rw [hu1] at c2; omega
          · rw [show N + (k + 1) = (N + k) + 1 by omega, push, c3]
        · rw [hu1] at c5
          have hp61 : z2 61 d = nI u := by rw [c6 d (by omega), wrr_e, upd_n (by omega)]; exact h61
          have hpu : z2 60 u = z 60 u := by rw [c4 u hp, wrr_n (by omega)]
          have est := In_step hW hf hI.1 hu hk.2.1 j2 hg c1
          rcases ihm T2 z2 d (s + 1 + k) (by omega) c2 hp61 hd (by omega) ⟨by rw [hpu]; exact hk.1, hk.2⟩ with ⟨e1, k', z3, e2, e3, e4, e5⟩ | ⟨r', T3, k', z3, e1, e2, e3, e4, e5, e6, e7, e8⟩
          · refine Or.inl ⟨est.trans e1, k' + k + 1, z3, by omega, fun N => ?_, e4, (fr1.tr c7).tr e5⟩
            rw [show N + (k' + k + 1) = ((N + k') + k) + 1 by omega, push, c8, pI_s (by omega), Nat.add_sub_cancel, e3]
          · refine Or.inr ⟨r', T3, k' + k + 1, z3, est.trans e1, e2, e3, fun v hv => by rw [e4 v hv, c4 v (by omega), wrr_n (by omega)], by omega, fun i hi => by rw [e6 i hi, c6 i (by omega), wrr_e, upd_n (by omega)], (fr1.tr c7).tr e7, fun N => ?_⟩
            rw [show N + (k' + k + 1) = ((N + k') + k) + 1 by omega, push, c8, pI_s (by omega), Nat.add_sub_cancel, e8, show s + 1 + k + k' = s + (k' + k + 1) by omega]
theorem makeInstance_ok (h : HX T0 z) {m x y w : Nat} (hm : z 58 5 = nI m) (hm2 : m + 1 < 2 ^ 31) (hmt : ∀ t, t < 120 → ∃ m', m' ≤ m ∧ z 60 t = nI m') (ht : t < T0.length) (hx : x < T0.length) (hy : y < T0.length) (hw : w < T0.length) : ∃ v z', fX3_makeInstance z (nI t) (nI x) (nI y) (nI w) = some (v, z') ∧ ((In T0 (fil x y w) t T0 = none ∧ v = -(nI 1) ∧ HX T0 z') ∨ ∃ r T', In T0 (fil x y w) t T0 = some (r, T') ∧ v = nI r ∧ HX T' z' ∧ Gd T0 T' ∧ r < T'.length) ∧ z' 58 5 = nI (m + 1) ∧ (∀ t, t < 120 → ∃ m', m' ≤ m + 1 ∧ z' 60 t = nI m') ∧ (∀ j, j = 0 ∨ (11 ≤ j ∧ ¬ (58 ≤ j ∧ j ≤ 62)) → z' j = z j) := by
  have hW := h.1
  have h120 := hW.1
  have hf : ∀ k, k < 3 → fil x y w k < T0.length := fun k _ => by unfold fil; split; exact hx; split; exact hy; exact hw
  obtain ⟨H0, hH0, _⟩ := h.2.2.2.2.2
  have hcnt : fX7_count z = some (nI T0.length) := by unfold fX7_count; rw [h.2.2.1.1]
  have hG : Gd T0 T0 := ⟨⟨[], by simp⟩, hW, h.2.1⟩
  obtain ⟨z5, e5⟩ : ∃ q, q = wrr (wrr (wrr z 62 (upd (upd (upd (z 62) 0 (nI x)) 1 (nI y)) 2 (nI w))) 58 (upd (z 58) 5 (nI (m + 1)))) 61 (upd (z 61) 0 (nI t)) := ⟨_, rfl⟩
  have e5n : ∀ j, j ≠ 58 → j ≠ 61 → j ≠ 62 → z5 j = z j := fun j g1 g2 g3 => by rw [e5, wrr_n g2, wrr_n g1, wrr_n g3]
  have st : fX3_makeInstance z (nI t) (nI x) (nI y) (nI w) = lX3_makeInstance_54 (nI t) (nI T0.length) FU (nI 0) (nI 0) z5 := by
    unfold fX3_makeInstance
    simp (disch := omega) only [hcnt, bp_s, lit, inb_t, gd_t, wr_nI, bnd_s, wrr_e, wrr_wrr, wrr_n, wf_w, hm, nI_add]
    rw [e5]
  have h5 : XI T0 (fil x y w) (m + 1) T0 z5 := by
    refine ⟨hG, h.fr fun j hj => e5n j (by omega) (by omega) (by omega), ?_, ?_, ?_⟩
    · rw [e5, wrr_n (by omega), wrr_e, upd_e]
    · intro k hk
      rw [e5, wrr_n (by omega), wrr_n (by omega), wrr_e]
      have : k = 0 ∨ k = 1 ∨ k = 2 := by omega
      rcases this with rfl | rfl | rfl
      · rw [upd_n (by omega), upd_n (by omega), upd_e]; rfl
      · rw [upd_n (by omega), upd_e]; rfl
      · rw [upd_e]; rfl
    · intro u hu q
      rw [e5n 60 (by omega) (by omega) (by omega)] at q
      obtain ⟨m', g1, g2⟩ := hmt u (by omega)
      rw [g2, nI_eq (by omega) (by omega)] at q
      omega
  have h61 : z5 61 0 = nI t := by rw [e5, wrr_e, upd_e]
  have h58 : z5 58 5 = nI (m + 1) := h5.2.2.1
  have h60 : ∀ v, v < 120 → ∃ m', m' ≤ m + 1 ∧ z5 60 v = nI m' := fun v hv => by
    obtain ⟨m', g1, g2⟩ := hmt v hv
    exact ⟨m', by omega, by rw [e5n 60 (by omega) (by omega) (by omega)]; exact g2⟩
  have hUl : xU T0 (m + 1) z5 ≤ 120 := by have : xU T0 (m + 1) z5 ≤ T0.length := cnt_le _ _; omega
  have mf60 : ∀ {z' : fS}, Mf (m + 1) z5 z' → ∀ v, v < 120 → ∃ m', m' ≤ m + 1 ∧ z' 60 v = nI m' := fun {z'} q v hv => by
    rcases q.2 v with q | q
    · rw [q]; exact h60 v hv
    · exact ⟨m + 1, Nat.le_refl _, q⟩
  have last : ∀ {T' : List Tm} {z' : fS} {N s r : Nat}, XI T0 (fil x y w) (m + 1) T' z' → s ≤ 2000 → fX3_imageOf z' (nI t) = some (nI r) → lX3_makeInstance_54 (nI t) (nI T0.length) (N + 1) (pI 0) (nI s) z' = some (nI r, z') := by
    intro T' z' N s r i1 i2 i3
    rw [lX3_makeInstance_54.eq_2]
    simp (disch := omega) only [lit, nI_leI, if_neg, pI_0, m1_lt0, if_true, i3, bp_s]
  rw [st]
  rcases kn_ok h5 hW hH0 ht with q | q
  · obtain ⟨N, hN⟩ : ∃ N, FU = N + 1 + 1 := ⟨FU - 2, by have := FU_ge; omega⟩
    refine ⟨nI (gI T0 (fil x y w) T0 t), z5, ?_, Or.inr ⟨_, T0, q.2.2, rfl, h5.2.1, hG, gI_lt hW hf hG ht q.2.2⟩, h58, h60, fun j hj => e5n j (by omega) (by omega) (by omega)⟩
    rw [hN, lX3_makeInstance_54.eq_2]
    simp (disch := omega) only [lit, nI_leI, if_neg, nI_ltI, inb_t, gd_t, rd_nI, h61, bnd_s, q.1, bp_s, nI_eq]
    unfold jX3_makeInstance_94 jX3_makeInstance_126
    simp (disch := omega) only [litm, lit, if_true, q.1, bp_s, nI_eq, if_neg, pI_dec, nI_add, bnd_s]
    exact last h5 (by omega) q.2.1
  · rcases inst_run (tu := m + 1) (a := nI t) hW hH0 hf (t + 1) t (by omega) ht _ T0 z5 0 0 (Nat.le_refl _) h5 h61 (by omega) (by omega) q with ⟨c1, k, z2, c2, c3, c4, c5⟩ | ⟨r, T2, k, z2, c1, c2, c3, c4, c5, c6, c7, c8⟩
    · obtain ⟨N, hN⟩ : ∃ N, FU = N + k := ⟨FU - k, by have := FU_ge; omega⟩
      refine ⟨-(nI 1), z2, by rw [hN, c3], Or.inl ⟨c1, rfl, c4⟩, by rw [c5.1 58 (by omega)]; exact h58, mf60 c5, fun j hj => by rw [c5.1 j (by omega), e5n j (by omega) (by omega) (by omega)]⟩
    · obtain ⟨N, hN⟩ : ∃ N, FU = N + 1 + k := ⟨FU - k - 1, by have := FU_ge; omega⟩
      obtain ⟨g1, g2, g3⟩ := In_good hW hf (t + 1) t (by omega) ht T0 r T2 hG c1
      have hset := In_set hW hf (t + 1) t (by omega) ht T0 r T2 hG c1 T2 g1 ⟨[], by simp⟩
      have him : fX3_imageOf z2 (nI t) = some (nI r) := by
        rcases kn_ok c2 hW hH0 ht with q | q
        · have := q.2.1
          rw [gI_of hset] at this
          exact this
        · exact absurd c3 q.1
      refine ⟨nI r, z2, ?_, Or.inr ⟨r, T2, c1, rfl, c2.2.1, g1, g3⟩, c2.2.2.1, mf60 c7, fun j hj => by rw [c7.1 j (by omega), e5n j (by omega) (by omega) (by omega)]⟩
      rw [hN, c8]
      exact last c2 (by omega) him
end XRU
