/-! the class makes an instance -/
noncomputable def gI (T0 : List Tm) (f : Nat → Nat) (T : List Tm) (p : Nat) : Nat := ((In T0 f p T).getD (0, [])).1
theorem gI_of {T0 T T' : List Tm} {f : Nat → Nat} {p r : Nat} (h : In T0 f p T = some (r, T')) : gI T0 f T p = r := by unfold gI; rw [h]; rfl
def XI (T0 : List Tm) (f : Nat → Nat) (tu : Nat) (T : List Tm) (z : fS) : Prop := Gd T0 T ∧ HX T z ∧ z 58 5 = nI tu ∧ (∀ h, h < 3 → z 62 h = nI (f h)) ∧ ∀ t, t < T0.length → z 60 t = nI tu → ∃ r, z 59 t = nI r ∧ In T0 f t T = some (r, T)
def Uk (T0 : List Tm) (H0 : Nat → Nat) (tu t : Nat) (z : fS) : Prop := z 60 t ≠ nI tu ∧ hbit (gT T0 t) = 0 ∧ H0 t ≠ 0
def xU (T0 : List Tm) (tu : Nat) (z : fS) : Nat := cnt (fun t => decide (z 60 t ≠ nI tu)) T0.length
def Mf (tu : Nat) (z z' : fS) : Prop := (∀ j, j = 0 ∨ (11 ≤ j ∧ j ≠ 59 ∧ j ≠ 60 ∧ j ≠ 61) → z' j = z j) ∧ ∀ t, z' 60 t = z 60 t ∨ z' 60 t = nI tu
section XIN
variable {T0 T T' : List Tm} {f H0 : Nat → Nat} {tu t u : Nat} {z z' z1 z2 : fS}
theorem Mf.tr (h : Mf tu z z1) (g : Mf tu z1 z2) : Mf tu z z2 := by
  refine ⟨fun j hj => (g.1 j hj).trans (h.1 j hj), fun t => ?_⟩
  rcases g.2 t with q | q
  · rw [q]; exact h.2 t
  · exact Or.inr q
theorem IsH_uniq (hW : WT T0) (hT : Gd T0 T) {H : Nat → Nat} (hH0 : IsH T0 H0) (hH : IsH T H) : ∀ (n t : Nat), t < n → t < T0.length → H t = H0 t := by
  intro n
  induction n with
  | zero => intro t h; omega
  | succ n ih =>
    intro t hn ht
    have hl := hT.le
    have eg := hT.gt ht
    have ep : pts T t = pts T0 t := congrArg (fun x : Tm => x.2.2) eg
    rw [(hH t (by omega)).1, (hH0 t ht).1, ep, eg]
    exact orl_cong _ _ fun p hp => ih p (by have := pts_lt hW ht hp; omega) (by have := pts_lt hW ht hp; omega)
theorem XI.fr (h : XI T0 f tu T z) (e : ∀ j, j ≠ 61 → z' j = z j) : XI T0 f tu T z' := by
  obtain ⟨h1, h2, h3, h4, h5⟩ := h
  refine ⟨h1, h2.fr fun j hj => e j (by omega), ?_, ?_, ?_⟩
  · rw [e 58 (by omega)]; exact h3
  · rw [e 62 (by omega)]; exact h4
  · rw [e 59 (by omega), e 60 (by omega)]; exact h5
theorem XI.rd (h : XI T0 f tu T z) (hW : WT T0) (hH0 : IsH T0 H0) (ht : t < T0.length) : t < 120 ∧ z 2 t = (gT T0 t).1 ∧ z 3 t = (gT T0 t).2.1 ∧ z 6 t = nI (H0 t) ∧ H0 t < 8 ∧ z 4 t = nI (sz T0 t) ∧ ∀ i, i < 3 → z 5 (3 * t + i) = pe (pts T0 t) i := by
  obtain ⟨h1, ⟨hWT, hU, hHT, hHP, hHC, H, hIs, hHB⟩, _⟩ := h
  have hl := h1.le
  have hn := hWT.1
  have e := hHT.2 t (by omega)
  have eg := h1.gt ht
  have ep : pts T t = pts T0 t := congrArg (fun x : Tm => x.2.2) eg
  refine ⟨by omega, e.1.trans (congrArg (fun x : Tm => x.1) eg), e.2.1.trans (congrArg (fun x : Tm => x.2.1) eg), ?_, (hH0 t ht).2, ?_, ?_⟩
  · rw [hHB t (by omega), IsH_uniq hW h1 hH0 hIs (t + 1) t (by omega) ht]
  · rw [e.2.2.1]; show nI (pts T t).length = _; rw [ep]; rfl
  · intro i hi; rw [← ep]; exact pe_parts hHT (by omega) hi
def Kn (T0 : List Tm) (f : Nat → Nat) (T : List Tm) (z : fS) (t : Nat) : Prop := fX3_isKnown z (nI t) = some (nI 1) ∧ fX3_imageOf z (nI t) = some (nI (gI T0 f T t)) ∧ In T0 f t T = some (gI T0 f T t, T)
theorem uk_ok (h : XI T0 f tu T z) (hW : WT T0) (hH0 : IsH T0 H0) (ht : t < T0.length) (hu : Uk T0 H0 tu t z) : fX3_isKnown z (nI t) = some (nI 0) := by
  obtain ⟨r1, r2, r3, r4, r5, _⟩ := h.rd hW hH0 ht
  obtain ⟨u1, u2, u3⟩ := hu
  have e := isHole_v (z := z) r1 r2 r3
  have eb : hoB (gT T0 t) = false := by unfold hoB; rw [u2]; rfl
  rw [eb, bI_f] at e
  unfold fX3_isKnown fX7_holesOf
  simp (disch := omega) only [litm, lit, nI_m1n, if_false, inb_t, gd_t, rd_nI, r4, bp_s, nI_eq, u3, e, if_true, h.2.2.1, u1]
theorem kn_ok (h : XI T0 f tu T z) (hW : WT T0) (hH0 : IsH T0 H0) (ht : t < T0.length) : Kn T0 f T z t ∨ Uk T0 H0 tu t z := by
  obtain ⟨r1, r2, r3, r4, r5, _⟩ := h.rd hW hH0 ht
  have hh := isHole_v (z := z) r1 r2 r3
  obtain ⟨h1, ⟨hWT, hU, hHT, hHP, hHC, H, hIs, hHB⟩, h3, h4, h5⟩ := h
  by_cases q1 : H0 t = 0
  · have hi : In T0 f t T = some (t, T) := In_free hW h1 hIs (t + 1) t (by omega) ht (by rw [IsH_uniq hW h1 hH0 hIs (t + 1) t (by omega) ht]; exact q1)
    refine Or.inl ⟨?_, ?_, ?_⟩
    · unfold fX3_isKnown fX7_holesOf
      simp (disch := omega) only [litm, lit, nI_m1n, if_false, inb_t, gd_t, rd_nI, r4, bp_s, q1, if_true]
    · rw [gI_of hi]
      unfold fX3_imageOf fX7_holesOf
      simp (disch := omega) only [litm, lit, nI_m1n, if_false, inb_t, gd_t, rd_nI, r4, bp_s, q1, if_true]
    · rw [gI_of hi]; exact hi
  · by_cases q2 : hbit (gT T0 t) = 0
    · have eb : hoB (gT T0 t) = false := by unfold hoB; rw [q2]; rfl
      rw [eb, bI_f] at hh
      by_cases q3 : z 60 t = nI tu
      · obtain ⟨r, e1, e2⟩ := h5 t ht q3
        refine Or.inl ⟨?_, ?_, ?_⟩
        · unfold fX3_isKnown fX7_holesOf
          simp (disch := omega) only [litm, lit, nI_m1n, if_false, inb_t, gd_t, rd_nI, r4, bp_s, nI_eq, q1, hh, if_true, h3, q3]
        · rw [gI_of e2]
          unfold fX3_imageOf fX7_holesOf
          simp (disch := omega) only [litm, lit, nI_m1n, if_false, inb_t, gd_t, rd_nI, r4, bp_s, nI_eq, q1, hh, if_true, e1]
        · rw [gI_of e2]; exact e2
      · exact Or.inr ⟨q3, q2, q1⟩
    · have eb : hoB (gT T0 t) = true := by unfold hoB; simp [q2]
      rw [eb, bI_t] at hh
      have hi : In T0 f t T = some (f (hix (gT T0 t)), T) := In_hole q2 T
      have hlt := hix_lt (gT T0 t)
      refine Or.inl ⟨?_, ?_, ?_⟩
      · unfold fX3_isKnown fX7_holesOf
        simp (disch := omega) only [litm, lit, nI_m1n, if_false, inb_t, gd_t, rd_nI, r4, bp_s, nI_eq, q1, hh, if_neg]
      · rw [gI_of hi]
        unfold fX3_imageOf fX7_holesOf fX7_shownBy
        simp (disch := omega) only [litm, lit, nI_m1n, if_false, inb_t, gd_t, rd_nI, r4, bp_s, nI_eq, q1, hh, if_neg, r3, hix_sub q2]
        rw [h4 _ hlt]
      · rw [gI_of hi]; exact hi
theorem open_loop (h : XI T0 f tu T z) (hW : WT T0) (hH0 : IsH T0 H0) (hu : u < T0.length) : ∀ (d i N : Nat), i + d = sz T0 u → d < N → (lX3_openPart_2 z (nI u) N (nI i) = some (-(nI 1)) ∧ ∀ j, i ≤ j → j < sz T0 u → Kn T0 f T z (pt T0 u j)) ∨ ∃ j, i ≤ j ∧ j < sz T0 u ∧ lX3_openPart_2 z (nI u) N (nI i) = some (nI (pt T0 u j)) ∧ Uk T0 H0 tu (pt T0 u j) z ∧ ∀ l, i ≤ l → l < j → Kn T0 f T z (pt T0 u l) := by
  obtain ⟨r1, _, _, _, _, r6, r7⟩ := h.rd hW hH0 hu
  have hs := hW.2 u hu
  have hsz : fX7_sizeOf z (nI u) = some (nI (sz T0 u)) := by
    unfold fX7_sizeOf
    simp (disch := omega) only [inb_t, gd_t, rd_nI, r6]
  intro d
  induction d with
  | zero =>
    intro i N hi hN
    obtain ⟨N, rfl⟩ : ∃ M, N = M + 1 := ⟨N - 1, by omega⟩
    refine Or.inl ⟨?_, fun j h1 h2 => by omega⟩
    rw [lX3_openPart_2.eq_2]
    simp (disch := omega) only [hsz, bp_s, nI_leI, if_pos, litm]
  | succ d ih =>
    intro i N hi hN
    obtain ⟨N, rfl⟩ : ∃ M, N = M + 1 := ⟨N - 1, by omega⟩
    have hp := hs.2.1 i (by omega)
    have hpo : fX7_partOf z (nI u) (nI i) = some (nI (pt T0 u i)) := by
      unfold fX7_partOf
      simp (disch := omega) only [lit, nI_mul, nI_add, inb_t, gd_t, rd_nI]
      rw [r7 i (by omega)]
      unfold pe
      rw [if_pos (show i < (pts T0 u).length from (by show i < sz T0 u; omega))]
      rfl
    rw [lX3_openPart_2.eq_2]
    rcases kn_ok h hW hH0 (t := pt T0 u i) (by omega) with q | q
    · simp (disch := omega) only [hsz, bp_s, nI_leI, if_neg, hpo, q.1, lit, nI_eq, bnd_s, nI_add]
      rcases ih (i + 1) N (by omega) (by omega) with ⟨e1, e2⟩ | ⟨j, j1, j2, j3, j4, j5⟩
      · refine Or.inl ⟨e1, fun j h1 h2 => ?_⟩
        rcases Nat.eq_or_lt_of_le h1 with rfl | h1
        · exact q
        · exact e2 j h1 h2
      · refine Or.inr ⟨j, by omega, j2, j3, j4, fun l h1 h2 => ?_⟩
        rcases Nat.eq_or_lt_of_le h1 with rfl | h1
        · exact q
        · exact j5 l h1 h2
    · refine Or.inr ⟨i, Nat.le_refl _, by omega, ?_, q, fun l h1 h2 => by omega⟩
      have e := uk_ok h hW hH0 (t := pt T0 u i) (by omega) q
      simp (disch := omega) only [hsz, bp_s, nI_leI, if_neg, hpo, e, lit, if_true]
theorem map_gD {l : List Nat} {g : Nat → Nat} {i : Nat} (hi : i < l.length) : (l.map g).getD i 0 = g (l.getD i 0) := by
  simp [List.getD_eq_getElem?_getD, List.getElem?_eq_getElem hi]
theorem gI_lt (hW : WT T0) (hf : ∀ h, h < 3 → f h < T0.length) (hT : Gd T0 T) (ht : t < T0.length) (h : In T0 f t T = some (gI T0 f T t, T)) : gI T0 f T t < T.length := (In_good hW hf (t + 1) t (by omega) ht T _ T hT h).2.2
theorem makeImage_ok (h : XI T0 f tu T z) (hW : WT T0) (hH0 : IsH T0 H0) (hf : ∀ h, h < 3 → f h < T0.length) (hu : u < T0.length) (hb : hbit (gT T0 u) = 0) (hk : ∀ j, j < sz T0 u → Kn T0 f T z (pt T0 u j)) : (In T0 f u T = none ∧ ∃ z', fX3_makeImage z (nI u) = some (nI 0, z') ∧ HX T z' ∧ z' 60 = upd (z 60) u (nI tu) ∧ ∀ j, j = 0 ∨ (11 ≤ j ∧ j ≠ 59 ∧ j ≠ 60) → z' j = z j) ∨ ∃ r T' z', In T0 f u T = some (r, T') ∧ fX3_makeImage z (nI u) = some (nI 1, z') ∧ XI T0 f tu T' z' ∧ z' 60 = upd (z 60) u (nI tu) ∧ ∀ j, j = 0 ∨ (11 ≤ j ∧ j ≠ 59 ∧ j ≠ 60) → z' j = z j := by
  obtain ⟨r1, r2, r3, _, _, r6, r7⟩ := h.rd hW hH0 hu
  have hs := hW.2 u hu
  have h' := h
  obtain ⟨h1, h2, h3, h4, h5⟩ := h'
  have hl := h1.le
  have h120 := h2.1.1
  have hg : ∀ p, p ∈ pts T0 u → In T0 f p T = some (gI T0 f T p, T) := fun p hp => by
    obtain ⟨j, j1, j2⟩ := mem_gD hp
    rw [← j2]
    exact (hk j j1).2.2
  have hgl : ∀ p, p ∈ pts T0 u → gI T0 f T p < T.length := fun p hp => gI_lt hW hf h1 (by have := pts_lt hW hu hp; omega) (hg p hp)
  have hlen : ((pts T0 u).map (gI T0 f T)).length = (pts T0 u).length := by simp
  have hml : ∀ p, p ∈ (pts T0 u).map (gI T0 f T) → p < T.length := fun p hp => by
    obtain ⟨q, q1, q2⟩ := List.mem_map.mp hp
    rw [← q2]; exact hgl q q1
  have hpo : ∀ i, i < 3 → fX7_partOf z (nI u) (nI i) = some (pe (pts T0 u) i) := by
    intro i hi
    unfold fX7_partOf
    simp (disch := omega) only [lit, nI_mul, nI_add, inb_t, gd_t, rd_nI]
    rw [r7 i hi]
  have him : ∀ i, i < 3 → fX3_imageOf z (pe (pts T0 u) i) = some (pe ((pts T0 u).map (gI T0 f T)) i) := by
    intro i hi
    unfold pe
    rw [hlen]
    by_cases q : i < (pts T0 u).length
    · rw [if_pos q, if_pos q, map_gD q]
      exact (hk i q).2.1
    · rw [if_neg q, if_neg q]
      unfold fX3_imageOf
      rw [if_pos rfl]
  have hkd : fX7_kindOf z (nI u) = some (kd T0 u) := by
    unfold fX7_kindOf
    simp (disch := omega) only [inb_t, gd_t, rd_nI, r2]
    rfl
  have hsh : fX7_shownBy z (nI u) = some (sh T0 u) := by
    unfold fX7_shownBy
    simp (disch := omega) only [inb_t, gd_t, rd_nI, r3]
    rfl
  have hin := In_all (f := f) (T := T) hW hu hb hg
  have ho : OkT T.length (kd T0 u, sh T0 u, (pts T0 u).map (gI T0 f T)) := okT_map hW hu hlen hml
  unfold fX3_makeImage
  have e0 := hpo 0 (by omega)
  have e1 := hpo 1 (by omega)
  have e2 := hpo 2 (by omega)
  simp only [lit, e0, e1, e2, him 0 (by omega), him 1 (by omega), him 2 (by omega), bp_s, hkd, hsh]
  have fin : ∀ {r : Nat} {T' : List Tm} {zz : fS}, In T0 f u T = some (r, T') → HX T' zz → (∀ j, j = 0 ∨ 11 ≤ j → zz j = z j) → XI T0 f tu T' (wrr (wrr zz 59 (upd (zz 59) u (nI r))) 60 (upd (zz 60) u (nI tu))) ∧ (wrr (wrr zz 59 (upd (zz 59) u (nI r))) 60 (upd (zz 60) u (nI tu))) 60 = upd (z 60) u (nI tu) ∧ ∀ j, j = 0 ∨ (11 ≤ j ∧ j ≠ 59 ∧ j ≠ 60) → (wrr (wrr zz 59 (upd (zz 59) u (nI r))) 60 (upd (zz 60) u (nI tu))) j = z j := by
    intro r T' zz i1 i2 i3
    obtain ⟨g1, g2, g3⟩ := In_good hW hf (u + 1) u (by omega) hu T r T' h1 i1
    refine ⟨⟨g1, i2.fr fun j hj => by rw [wrr_n (by omega), wrr_n (by omega)], ?_, ?_, ?_⟩, ?_, ?_⟩
    · rw [wrr_n (by omega), wrr_n (by omega), i3 58 (by omega)]; exact h3
    · rw [wrr_n (by omega), wrr_n (by omega), i3 62 (by omega)]; exact h4
    · intro t ht hm
      rw [wrr_e] at hm
      rw [wrr_n (by omega), wrr_e]
      by_cases q : t = u
      · subst q
        exact ⟨r, upd_e, In_set hW hf (t + 1) t (by omega) ht T r T' h1 i1 T' g1 ⟨[], by simp⟩⟩
      · rw [upd_n q, i3 60 (by omega)] at hm
        obtain ⟨r', f1, f2⟩ := h5 t ht hm
        refine ⟨r', ?_, In_set hW hf (t + 1) t (by omega) ht T r' T h1 f2 T' g1 g2⟩
        rw [upd_n q, i3 59 (by omega)]
        exact f1
    · rw [wrr_e, i3 60 (by omega)]
    · intro j hj
      rw [wrr_n (by omega), wrr_n (by omega), i3 j (by omega)]
  rcases findOrMake_ok h2 ho with ⟨t, x1, x2, _, x3⟩ | ⟨x1, x3⟩ | ⟨x1, x2, zz, x3, x4, x5⟩
  · obtain ⟨f1, f2, f3⟩ := fin (hin.trans x1) h2 (fun _ _ => rfl)
    refine Or.inr ⟨t, T, _, hin.trans x1, ?_, f1, f2, f3⟩
    have x3' : fX7_findOrMake z (kd T0 u) (sh T0 u) (pe ((pts T0 u).map (gI T0 f T)) 0) (pe ((pts T0 u).map (gI T0 f T)) 1) (pe ((pts T0 u).map (gI T0 f T)) 2) = some (nI t, z) := x3
    simp (disch := omega) only [x3', bd_s, inb_t, gd_t, wr_nI, bnd_s, wrr_n, h3, litm, nI_m1n, if_false]
  · refine Or.inl ⟨hin.trans x1, wrr (wrr z 59 (upd (z 59) u (-(nI 1)))) 60 (upd (z 60) u (nI tu)), ?_, h2.fr fun j hj => by rw [wrr_n (by omega), wrr_n (by omega)], by rw [wrr_e], fun j hj => by rw [wrr_n (by omega), wrr_n (by omega)]⟩
    have x3' : fX7_findOrMake z (kd T0 u) (sh T0 u) (pe ((pts T0 u).map (gI T0 f T)) 0) (pe ((pts T0 u).map (gI T0 f T)) 1) (pe ((pts T0 u).map (gI T0 f T)) 2) = some (-(nI 1), z) := x3
    simp (disch := omega) only [x3', bd_s, inb_t, gd_t, wr_nI, bnd_s, wrr_n, h3, litm, if_true]
  · obtain ⟨f1, f2, f3⟩ := fin (hin.trans x1) x4 x5
    refine Or.inr ⟨T.length, _, _, hin.trans x1, ?_, f1, f2, f3⟩
    have x3' : fX7_findOrMake z (kd T0 u) (sh T0 u) (pe ((pts T0 u).map (gI T0 f T)) 0) (pe ((pts T0 u).map (gI T0 f T)) 1) (pe ((pts T0 u).map (gI T0 f T)) 2) = some (nI T.length, zz) := x3
    simp (disch := omega) only [x3', bd_s, inb_t, gd_t, wr_nI, bnd_s, wrr_n, x5, h3, litm, nI_m1n, if_false]
end XIN
