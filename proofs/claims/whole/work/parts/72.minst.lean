/-! the reference makes an instance -/
def MJ (T0 : List Tm) (f : Nat → Nat) (T : List Tm) (z : fS) : Prop := Gd T0 T ∧ MT T z ∧ (∀ h, h < 3 → z 24 h = nI (f h)) ∧ ∀ t, t < T0.length → z 25 t = -(nI 1) ∨ ∃ r, z 25 t = nI r ∧ In T0 f t T = some (r, T)
def mU (T0 : List Tm) (z : fS) : Nat := cnt (fun t => decide (z 25 t = -(nI 1))) T0.length
def Mg (z z' : fS) : Prop := (∀ j, 4 < j → j ≠ 19 → ¬ (25 ≤ j ∧ j ≤ 27) → z' j = z j) ∧ ∀ f, f ≠ 4 → f ≠ 30 → z' 0 f = z 0 f
def Fz (T : List Tm) (z : fS) (T' : List Tm) (z' : fS) : Prop := (T' = T ∧ z' 0 30 = z 0 30) ∨ z' 0 30 = nI 0
section MIN
variable {T0 T T' T1 : List Tm} {f : Nat → Nat} {t u : Nat} {z z' z1 z2 : fS}
theorem Mg.tr (h : Mg z z1) (g : Mg z1 z2) : Mg z z2 := ⟨fun j a b c => (g.1 j a b c).trans (h.1 j a b c), fun f a b => (g.2 f a b).trans (h.2 f a b)⟩
theorem Fz.tr (h : Fz T z T1 z1) (g : Fz T1 z1 T' z2) : Fz T z T' z2 := by
  rcases g with ⟨g1, g2⟩ | g
  · rcases h with ⟨h1, h2⟩ | h
    · exact Or.inl ⟨g1.trans h1, g2.trans h2⟩
    · exact Or.inr (g2.trans h)
  · exact Or.inr g
theorem MJ.rd (h : MJ T0 f T z) (ht : t < T0.length) : t < 120 ∧ z 1 t = kd T0 t ∧ z 2 t = sh T0 t ∧ z 3 t = nI (sz T0 t) ∧ ∀ i, i < sz T0 t → z 4 (3 * t + i) = nI (pt T0 t i) := by
  obtain ⟨h1, h2, _⟩ := h
  have hl := h1.le
  have hn := h1.2.1.1
  have e := h2.2 t (by omega)
  have eg := h1.gt ht
  have ep : pts T t = pts T0 t := congrArg (fun x : Tm => x.2.2) eg
  have es : sz T t = sz T0 t := congrArg List.length ep
  refine ⟨by omega, e.1.trans (congrArg (fun x : Tm => x.1) eg), e.2.1.trans (congrArg (fun x : Tm => x.2.1) eg), by rw [e.2.2.1, es], fun i hi => ?_⟩
  rw [e.2.2.2 i (by rw [es]; exact hi)]
  show nI ((pts T t).getD i 0) = _
  rw [ep]
  rfl
theorem MJ.fr (h : MJ T0 f T z) (e : ∀ j, j ≠ 26 → j ≠ 27 → z' j = z j) : MJ T0 f T z' := by
  obtain ⟨h1, h2, h3, h4⟩ := h
  refine ⟨h1, h2.fr (by rw [e 0 (by omega) (by omega)]) fun j g1 g2 => e j (by omega) (by omega), ?_, ?_⟩
  · rw [e 24 (by omega) (by omega)]; exact h3
  · rw [e 25 (by omega) (by omega)]; exact h4
theorem other_loop (h : MJ T0 f T z) (hW : WT T0) (hu : u < T0.length) {g : Nat → Nat} (hg : ∀ j, j < sz T0 u → z 25 (pt T0 u j) = nI (g (pt T0 u j)) ∧ g (pt T0 u j) < 120) {k81 : Int32 → Option (Int32 × fS)} : ∀ (d i N v : Nat), i + d = sz T0 u → d < N → (v = 0 ∨ v = 1) → ∃ v', lX9_rebuilt_27 k81 z (nI u) N (nI v) (nI i) = k81 (nI v') ∧ ((v' = 0 ∧ v = 0 ∧ ∀ j, i ≤ j → j < sz T0 u → g (pt T0 u j) = pt T0 u j) ∨ v' = 1) := by
  obtain ⟨r1, r2, r3, r4, r5⟩ := h.rd hu
  have hs := hW.2 u hu
  have hn := hW.1
  intro d
  induction d with
  | zero =>
    intro i N v hi hN hv
    obtain ⟨N, rfl⟩ : ∃ M, N = M + 1 := ⟨N - 1, by omega⟩
    refine ⟨v, ?_, ?_⟩
    · rw [lX9_rebuilt_27.eq_2]
      simp (disch := omega) only [inb_t, gd_t, rd_nI, r4, nI_leI, if_pos]
    · rcases hv with rfl | rfl
      · exact Or.inl ⟨rfl, rfl, fun j h1 h2 => by omega⟩
      · exact Or.inr rfl
  | succ d ih =>
    intro i N v hi hN hv
    obtain ⟨N, rfl⟩ : ∃ M, N = M + 1 := ⟨N - 1, by omega⟩
    have e4 := r5 i (by omega)
    have hp := hs.2.1 i (by omega)
    have eg := hg i (by omega)
    have eg1 := eg.1
    rw [lX9_rebuilt_27.eq_2]
    rcases hv with rfl | rfl
    · by_cases q : g (pt T0 u i) = pt T0 u i
      · obtain ⟨v', e1, e2⟩ := ih (i + 1) N 0 (by omega) (by omega) (Or.inl rfl)
        refine ⟨v', ?_, ?_⟩
        · simp (disch := omega) only [inb_t, gd_t, rd_nI, r4, nI_leI, if_neg, lit, if_true, nI_mul, nI_add, e4, eg1, q, bnd_s]
          exact e1
        · rcases e2 with ⟨e2, e3, e4⟩ | e2
          · refine Or.inl ⟨e2, rfl, fun j h1 h2 => ?_⟩
            rcases Nat.eq_or_lt_of_le h1 with rfl | h1
            · exact q
            · exact e4 j h1 h2
          · exact Or.inr e2
      · obtain ⟨v', e1, e2⟩ := ih (i + 1) N 1 (by omega) (by omega) (Or.inr rfl)
        refine ⟨v', ?_, ?_⟩
        · simp (disch := omega) only [inb_t, gd_t, rd_nI, r4, nI_leI, if_neg, lit, if_true, nI_mul, nI_add, e4, eg1, nI_eq, q, if_false, bnd_s]
          exact e1
        · rcases e2 with ⟨_, e3, _⟩ | e2
          · cases e3
          · exact Or.inr e2
    · obtain ⟨v', e1, e2⟩ := ih (i + 1) N 1 (by omega) (by omega) (Or.inr rfl)
      refine ⟨v', ?_, ?_⟩
      · simp (disch := omega) only [inb_t, gd_t, rd_nI, r4, nI_leI, if_neg, lit, nI_eq, nI_add, bnd_s]
        exact e1
      · rcases e2 with ⟨_, e3, _⟩ | e2
        · cases e3
        · exact Or.inr e2
theorem ask_loop (hW : WT T0) (hu : u < T0.length) {g : Nat → Nat} {k126 : fS → Option (Int32 × fS)} : ∀ (d i N : Nat) (z : fS), i + d = sz T0 u → d < N → z 3 u = nI (sz T0 u) → (∀ i, i < sz T0 u → z 4 (3 * u + i) = nI (pt T0 u i)) → (∀ j, j < sz T0 u → z 25 (pt T0 u j) = nI (g (pt T0 u j))) → (∀ j, j < i → z 19 j = nI (g (pt T0 u j))) → ∃ z', lX9_rebuilt_89 k126 (nI u) N (nI i) z = k126 z' ∧ (∀ j, j < sz T0 u → z' 19 j = nI (g (pt T0 u j))) ∧ (∀ j, j ≠ 19 → z' j = z j) := by
  have hs := hW.2 u hu
  have hn := hW.1
  intro d
  induction d with
  | zero =>
    intro i N z hi hN h3 h4 h25 h19
    obtain ⟨N, rfl⟩ : ∃ M, N = M + 1 := ⟨N - 1, by omega⟩
    refine ⟨z, ?_, fun j hj => h19 j (by omega), fun _ _ => rfl⟩
    rw [lX9_rebuilt_89.eq_2]
    simp (disch := omega) only [inb_t, gd_t, rd_nI, h3, nI_leI, if_pos]
  | succ d ih =>
    intro i N z hi hN h3 h4 h25 h19
    obtain ⟨N, rfl⟩ : ∃ M, N = M + 1 := ⟨N - 1, by omega⟩
    have e4 := h4 i (by omega)
    have hp := hs.2.1 i (by omega)
    have e25 := h25 i (by omega)
    obtain ⟨z', e1, e2, e3⟩ := ih (i + 1) N (wrr z 19 (upd (z 19) i (nI (g (pt T0 u i))))) (by omega) (by omega) (by rw [wrr_n (by omega)]; exact h3) (by rw [wrr_n (by omega)]; exact h4) (by rw [wrr_n (by omega)]; exact h25) (fun j hj => by
      rw [wrr_e]
      by_cases q : j = i
      · rw [q, upd_e]
      · rw [upd_n q]; exact h19 j (by omega))
    refine ⟨z', ?_, e2, fun j hj => (e3 j hj).trans (wrr_n hj)⟩
    rw [lX9_rebuilt_89.eq_2]
    simp (disch := omega) only [inb_t, gd_t, rd_nI, h3, nI_leI, if_neg, lit, nI_mul, nI_add, e4, e25, wr_nI, bnd_s]
    exact e1
theorem rebuilt_ok (h : MJ T0 f T z) (hW : WT T0) (hf : ∀ h, h < 3 → f h < T0.length) (hu : u < T0.length) (hk : ∀ j, j < sz T0 u → z 25 (pt T0 u j) ≠ -(nI 1)) : (In T0 f u T = none ∧ ∃ z', fX9_rebuilt z (nI u) = some (-(nI 1), z') ∧ MT T z' ∧ (∀ j, 4 < j → j ≠ 19 → z' j = z j) ∧ ∀ f, f ≠ 4 → f ≠ 30 → z' 0 f = z 0 f) ∨ ∃ r T' z', In T0 f u T = some (r, T') ∧ fX9_rebuilt z (nI u) = some (nI r, z') ∧ MT T' z' ∧ (∀ j, 4 < j → j ≠ 19 → z' j = z j) ∧ (∀ f, f ≠ 4 → f ≠ 30 → z' 0 f = z 0 f) ∧ Fz T z T' z' := by
  obtain ⟨r1, r2, r3, r4, r5⟩ := h.rd hu
  have hs := hW.2 u hu
  have hh := isHoleM_v (z := z) (tm := gT T0 u) r1 r2 r3
  obtain ⟨h1, h2, h3, h4⟩ := h
  have hl := h1.le
  have h120 := h1.2.1.1
  unfold fX9_rebuilt
  by_cases q : hbit (gT T0 u) = 0
  · have eb : hoB (gT T0 u) = false := by unfold hoB; rw [q]; rfl
    rw [eb, bI_f] at hh
    have hg : ∀ j, j < sz T0 u → z 25 (pt T0 u j) = nI (gI T0 f T (pt T0 u j)) ∧ In T0 f (pt T0 u j) T = some (gI T0 f T (pt T0 u j), T) := fun j hj => by
      have := hs.2.1 j hj
      rcases h4 (pt T0 u j) (by omega) with e | ⟨r, e1, e2⟩
      · exact absurd e (hk j hj)
      · rw [gI_of e2]; exact ⟨e1, e2⟩
    have hgm : ∀ p, p ∈ pts T0 u → In T0 f p T = some (gI T0 f T p, T) := fun p hp => by
      obtain ⟨j, j1, j2⟩ := mem_gD hp
      rw [← j2]
      exact (hg j j1).2
    have hgl : ∀ p, p ∈ pts T0 u → gI T0 f T p < T.length := fun p hp => gI_lt hW hf h1 (by have := pts_lt hW hu hp; omega) (hgm p hp)
    have hgj : ∀ j, j < sz T0 u → gI T0 f T (pt T0 u j) < 120 := fun j hj => by
      have := hgl (pt T0 u j) (gD_mem hj)
      omega
    have hlen : ((pts T0 u).map (gI T0 f T)).length = (pts T0 u).length := by simp
    have hml : ∀ p, p ∈ (pts T0 u).map (gI T0 f T) → p < T.length := fun p hp => by
      obtain ⟨q, q1, q2⟩ := List.mem_map.mp hp
      rw [← q2]; exact hgl q q1
    have hin := In_all (f := f) (T := T) hW hu q hgm
    have ho : OkT T.length (kd T0 u, sh T0 u, (pts T0 u).map (gI T0 f T)) := okT_map hW hu hlen hml
    obtain ⟨v', w1, w2⟩ := other_loop ⟨h1, h2, h3, h4⟩ hW hu (g := gI T0 f T) (fun j hj => ⟨(hg j hj).1, hgj j hj⟩) (k81 := jX9_rebuilt_81 z (nI u)) (sz T0 u) 0 FU 0 (by omega) (by have := FU_ge; omega) (Or.inl rfl)
    simp only [lit, hh, bp_s, if_true, w1]
    unfold jX9_rebuilt_81
    rcases w2 with ⟨rfl, _, w3⟩ | rfl
    · have em : (pts T0 u).map (gI T0 f T) = pts T0 u := by
        refine (List.map_congr_left fun p hp => ?_).trans (List.map_id' (pts T0 u))
        obtain ⟨j, j1, j2⟩ := mem_gD hp
        rw [← j2]
        exact w3 j (by omega) j1
      rw [em] at hin
      have hin2 := hin.trans (mkT_old h1.2.2 (show u < T.length by omega) (h1.gt hu))
      refine Or.inr ⟨u, T, z, hin2, ?_, h2, fun _ _ _ => rfl, fun _ _ _ => rfl, Or.inl ⟨rfl, rfl⟩⟩
      simp only [lit, if_true]
    · obtain ⟨z1, a1, a2, a3⟩ := ask_loop hW hu (g := gI T0 f T) (k126 := jX9_rebuilt_126 (nI u)) (sz T0 u) 0 FU z (by omega) (by have := FU_ge; omega) r4 r5 (fun j hj => (hg j hj).1) (fun j hj => by omega)
      have hT1 : MT T z1 := h2.fr (by rw [a3 0 (by omega)]) fun j g1 g2 => a3 j (by omega)
      have es : z1 3 u = nI ((pts T0 u).map (gI T0 f T)).length := by rw [a3 3 (by omega), r4, hlen]; rfl
      simp (disch := omega) only [lit, nI_eq, if_neg, a1]
      unfold jX9_rebuilt_126
      have e1 : z1 1 u = kd T0 u := by rw [a3 1 (by omega)]; exact r2
      have e2 : z1 2 u = sh T0 u := by rw [a3 2 (by omega)]; exact r3
      simp (disch := omega) only [inb_t, gd_t, rd_nI, e1, e2, es]
      have md := made_ok hT1 h1.2.1 h1.2.2 ho (fun j hj => by
        have hj' : j < (pts T0 u).length := by rw [← hlen]; exact hj
        rw [show ((kd T0 u, sh T0 u, (pts T0 u).map (gI T0 f T)) : Tm).2.2 = (pts T0 u).map (gI T0 f T) from rfl, map_gD hj']
        exact a2 j hj')
      rcases md with ⟨t, x1, x2, x3⟩ | ⟨x1, x3⟩ | ⟨x1, x2, zz, x3, x4, x5, x6, x7⟩
      · have x3' : fX9_made z1 (kd T0 u) (sh T0 u) (nI ((pts T0 u).map (gI T0 f T)).length) = some (nI t, z1) := x3
        refine Or.inr ⟨t, T, z1, hin.trans x1, by rw [x3', bd_s], hT1, fun j g1 g2 => a3 j g2, fun g _ _ => by rw [a3 0 (by omega)], Or.inl ⟨rfl, by rw [a3 0 (by omega)]⟩⟩
      · have x3' : fX9_made z1 (kd T0 u) (sh T0 u) (nI ((pts T0 u).map (gI T0 f T)).length) = some (-(nI 1), z1) := x3
        exact Or.inl ⟨hin.trans x1, z1, by rw [x3', bd_s], hT1, fun j g1 g2 => a3 j g2, fun g _ _ => by rw [a3 0 (by omega)]⟩
      · have x3' : fX9_made z1 (kd T0 u) (sh T0 u) (nI ((pts T0 u).map (gI T0 f T)).length) = some (nI T.length, zz) := x3
        exact Or.inr ⟨T.length, _, zz, hin.trans x1, by rw [x3', bd_s], x4, fun j g1 g2 => by rw [x5 j g1, a3 j g2], fun g g1 g2 => by rw [x6 g g1 g2, a3 0 (by omega)], Or.inr x7⟩
  · have eb : hoB (gT T0 u) = true := by unfold hoB; simp [q]
    rw [eb, bI_t] at hh
    have hlt := hix_lt (gT T0 u)
    have es : sh T0 u - nI 90 = nI (hix (gT T0 u)) := hix_sub q
    refine Or.inr ⟨f (hix (gT T0 u)), T, z, In_hole q T, ?_, h2, fun _ _ _ => rfl, fun _ _ _ => rfl, Or.inl ⟨rfl, rfl⟩⟩
    simp (disch := omega) only [lit, hh, bp_s, nI_eq, if_neg, inb_t, gd_t, rd_nI, r3, es]
    rw [h3 _ hlt]
end MIN
