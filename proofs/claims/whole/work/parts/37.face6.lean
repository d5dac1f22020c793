/-! the face: uses, laws, steps -/
theorem idx {x : Int32} {n : Nat} (hn : n < 2 ^ 31) : x < nI 0 ∨ (¬ x < nI 0 ∧ nI n ≤ x) ∨ ∃ m, m < n ∧ x = nI m := by
  by_cases q1 : x < nI 0
  · exact Or.inl q1
  · by_cases q2 : nI n ≤ x
    · exact Or.inr (Or.inl ⟨q1, q2⟩)
    · have q2' := nle_lt.mp q2
      obtain ⟨k, _, k2, rfl⟩ := rng (x := x) (a := 0) (b := n) (by omega) hn q1 (by
        intro hh
        rw [Int32.lt_iff_toInt_lt] at hh q2'
        omega)
      exact Or.inr (Or.inr ⟨k, (nI_ltI (by omega) (by omega)).mp q2', rfl⟩)
section USES
variable {T : List Tm} {ps : Nat} {zX zM : fS} {on : Nat → Nat}
def UsP (T : List Tm) (on : Nat → Nat) (m u i : Nat) : Prop := ∃ j, i ≤ j ∧ j < sz T u ∧ on (pt T u j) = on m
theorem UsP.s {m u i : Nat} : UsP T on m u i ↔ ((i < sz T u ∧ on (pt T u i) = on m) ∨ UsP T on m u (i + 1)) := by
  constructor
  · rintro ⟨j, j1, j2, j3⟩
    rcases Nat.eq_or_lt_of_le j1 with rfl | j1
    · exact Or.inl ⟨j2, j3⟩
    · exact Or.inr ⟨j, j1, j2, j3⟩
  · rintro (⟨h1, h2⟩ | ⟨j, j1, j2, j3⟩)
    · exact ⟨i, Nat.le_refl _, h1, h2⟩
    · exact ⟨j, by omega, j2, j3⟩
theorem usesX_in (hT : HT T zX) (hW : WT T) {m u : Nat} (hm : m < T.length) (hu : u < T.length) (ho : ∀ a b, a < T.length → b < T.length → fX4_isOne ps zX (nI a) (nI b) = some (if on a = on b then nI 1 else nI 0)) : ∀ (d i N : Nat), i + d = sz T u → d < N → ∃ r, lX4_hasPartLike_2 ps zX (nI u) (nI m) N (nI i) = some (nI r) ∧ ((r = 1 ∧ UsP T on m u i) ∨ (r = 0 ∧ ¬ UsP T on m u i)) := by
  have hT1 := hW.1
  have w := hW.2 u hu
  have e4 := (hT.2 u hu).2.2.1
  intro d
  induction d with
  | zero =>
    intro i N hi hN
    obtain ⟨N, rfl⟩ : ∃ M, N = M + 1 := ⟨N - 1, by omega⟩
    refine ⟨0, ?_, Or.inr ⟨rfl, fun ⟨j, j1, j2, _⟩ => by omega⟩⟩
    rw [lX4_hasPartLike_2.eq_2]
    unfold fX7_sizeOf
    simp (disch := omega) only [inb_t, gd_t, rd_nI, e4, bp_s, nI_leI, if_pos, lit]
  | succ d ih =>
    intro i N hi hN
    obtain ⟨N, rfl⟩ : ∃ M, N = M + 1 := ⟨N - 1, by omega⟩
    have hi' : i < sz T u := by omega
    have ep := hT.part hu hi' (by omega)
    have pl := w.2.1 i hi'
    have o := ho (pt T u i) m (by omega) hm
    obtain ⟨r, e1, e2⟩ := ih (i + 1) N (by omega) (by omega)
    rw [lX4_hasPartLike_2.eq_2]
    unfold fX7_sizeOf fX7_partOf
    by_cases q : on (pt T u i) = on m
    · rw [if_pos q] at o
      refine ⟨1, ?_, Or.inl ⟨rfl, UsP.s.mpr (Or.inl ⟨hi', q⟩)⟩⟩
      simp (disch := omega) only [inb_t, gd_t, rd_nI, e4, bp_s, nI_leI, if_neg, lit, nI_mul, nI_add, ep, o, nI_eq]
    · rw [if_neg q] at o
      refine ⟨r, ?_, ?_⟩
      · simp (disch := omega) only [inb_t, gd_t, rd_nI, e4, bp_s, nI_leI, if_neg, lit, nI_mul, nI_add, ep, o, if_true, bnd_s]
        exact e1
      · rw [UsP.s]
        rcases e2 with ⟨e2, e3⟩ | ⟨e2, e3⟩
        · exact Or.inl ⟨e2, Or.inr e3⟩
        · refine Or.inr ⟨e2, ?_⟩
          rintro (h | h)
          · exact q h.2
          · exact e3 h
theorem usesM_in (hT : MT T zM) (hW : WT T) (hO : MO T.length on zM) {m u : Nat} (hm : m < T.length) (hu : u < T.length) : ∀ (d i N fl : Nat), i + d = sz T u → d < N → (fl = 0 ∨ fl = 1) → ∃ r, lX9_usesOne_5 zM (nI u) (nI m) N (nI fl) (nI i) = some (nI r) ∧ ((r = 1 ∧ (fl = 1 ∨ UsP T on m u i)) ∨ (r = 0 ∧ fl = 0 ∧ ¬ UsP T on m u i)) := by
  have hT1 := hW.1
  have w := hW.2 u hu
  have e3' := (hT.2 u hu).2.2.1
  have om := hO m hm
  intro d
  induction d with
  | zero =>
    intro i N fl hi hN hf
    obtain ⟨N, rfl⟩ : ∃ M, N = M + 1 := ⟨N - 1, by omega⟩
    refine ⟨fl, ?_, ?_⟩
    · rw [lX9_usesOne_5.eq_2]
      have hb : isb (nI fl) = true := by rcases hf with rfl | rfl; exact isb_0; exact isb_1
      simp (disch := omega) only [inb_t, gd_t, rd_nI, e3', nI_leI, if_pos, hb]
    · rcases hf with rfl | rfl
      · exact Or.inr ⟨rfl, rfl, fun ⟨j, j1, j2, _⟩ => by omega⟩
      · exact Or.inl ⟨rfl, Or.inl rfl⟩
  | succ d ih =>
    intro i N fl hi hN hf
    obtain ⟨N, rfl⟩ : ∃ M, N = M + 1 := ⟨N - 1, by omega⟩
    have hi' : i < sz T u := by omega
    have ep := (hT.2 u hu).2.2.2 i hi'
    have pl := w.2.1 i hi'
    have op := hO (pt T u i) (by omega)
    rw [lX9_usesOne_5.eq_2]
    rcases hf with rfl | rfl
    · by_cases q : on (pt T u i) = on m
      · obtain ⟨r, e1, e2⟩ := ih (i + 1) N 1 (by omega) (by omega) (Or.inr rfl)
        refine ⟨r, ?_, ?_⟩
        · simp (disch := omega) only [inb_t, gd_t, rd_nI, e3', nI_leI, if_neg, lit, if_true, nI_mul, nI_add, ep, op.1, om.1, q, bnd_s]
          exact e1
        · rcases e2 with ⟨e2, _⟩ | ⟨_, e2, _⟩
          · exact Or.inl ⟨e2, Or.inr (UsP.s.mpr (Or.inl ⟨hi', q⟩))⟩
          · omega
      · obtain ⟨r, e1, e2⟩ := ih (i + 1) N 0 (by omega) (by omega) (Or.inl rfl)
        refine ⟨r, ?_, ?_⟩
        · simp (disch := omega) only [inb_t, gd_t, rd_nI, e3', nI_leI, if_neg, lit, if_true, nI_mul, nI_add, ep, op.1, om.1, nI_eq, q, if_false, bnd_s]
          exact e1
        · rw [UsP.s]
          rcases e2 with ⟨e2, e3 | e3⟩ | ⟨e2, _, e3⟩
          · omega
          · exact Or.inl ⟨e2, Or.inr (Or.inr e3)⟩
          · refine Or.inr ⟨e2, rfl, ?_⟩
            rintro (h | h)
            · exact q h.2
            · exact e3 h
    · obtain ⟨r, e1, e2⟩ := ih (i + 1) N 1 (by omega) (by omega) (Or.inr rfl)
      refine ⟨r, ?_, ?_⟩
      · simp (disch := omega) only [inb_t, gd_t, rd_nI, e3', nI_leI, if_neg, lit, nI_eq, bnd_s, nI_add]
        exact e1
      · rcases e2 with ⟨e2, _⟩ | ⟨_, e2, _⟩
        · exact Or.inl ⟨e2, Or.inl rfl⟩
        · omega
noncomputable def usB (T : List Tm) (on : Nat → Nat) (m u : Nat) : Bool := @decide (UsP T on m u 0) (Classical.propDecidable _)
theorem usB_t {m u : Nat} (h : UsP T on m u 0) : usB T on m u = true := by unfold usB; exact @decide_eq_true _ (Classical.propDecidable _) h
theorem usB_f {m u : Nat} (h : ¬ UsP T on m u 0) : usB T on m u = false := by unfold usB; exact @decide_eq_false _ (Classical.propDecidable _) h
theorem usesX_loop (hn : T.length ≤ 120) {m : Nat} {v : Int32} {p : Nat → Bool} (h9 : zX 1 9 = nI T.length) (h17 : pcell (zX 17 3) = ps) (ho : ∀ u, u < T.length → fX4_hasPartLike ps zX (nI u) (nI m) = some (bI (p u))) : ∀ (d t c N : Nat), t + d = T.length → d < N → lX8_uses_22 zX (nI m) v N (nI c) (nI t) = some (mfn p v d t c) := by
  intro d
  induction d with
  | zero =>
    intro t c N ht hN
    obtain ⟨N, rfl⟩ : ∃ M, N = M + 1 := ⟨N - 1, by omega⟩
    rw [lX8_uses_22.eq_2]
    unfold fX7_count mfn
    simp (disch := omega) only [h9, bp_s, nI_leI, if_pos, litm]
  | succ d ih =>
    intro t c N ht hN
    obtain ⟨N, rfl⟩ : ∃ M, N = M + 1 := ⟨N - 1, by omega⟩
    rw [lX8_uses_22.eq_2]
    unfold fX7_count mfn
    rw [stn, h9]
    have o := ho t (by omega)
    cases q : p t
    · rw [q, bI_f] at o
      simp (disch := omega) only [bp_s, nI_leI, if_neg, h17, o, lit, if_true, bnd_s, nI_add, ih (t + 1) c N (by omega) (by omega)]
      rfl
    · rw [q, bI_t] at o
      simp (disch := omega) only [bp_s, nI_leI, if_neg, h17, o, lit, nI_eq, bnd_s, nI_add, ih (t + 1) (c + 1) N (by omega) (by omega), if_true]
      split <;> rfl
theorem usesM_loop (hn : T.length ≤ 120) {m : Nat} {v : Int32} {p : Nat → Bool} (h4 : zM 0 4 = nI T.length) (ho : ∀ u, u < T.length → fX9_usesOne zM (nI u) (nI m) = some (bI (p u))) : ∀ (d t c N : Nat), t + d = T.length → d < N → lX9_uses_19 zM (nI m) N (v - nI c) (nI t) = some (mfn p v d t c, zM) := by
  intro d
  induction d with
  | zero =>
    intro t c N ht hN
    obtain ⟨N, rfl⟩ : ∃ M, N = M + 1 := ⟨N - 1, by omega⟩
    rw [lX9_uses_19.eq_2]
    unfold mfn
    simp (disch := omega) only [h4, nI_leI, if_pos, litm]
  | succ d ih =>
    intro t c N ht hN
    obtain ⟨N, rfl⟩ : ∃ M, N = M + 1 := ⟨N - 1, by omega⟩
    rw [lX9_uses_19.eq_2]
    unfold mfn
    have o := ho t (by omega)
    cases q : p t
    · rw [q, bI_f] at o
      simp (disch := omega) only [h4, nI_leI, if_neg, o, bp_s, lit, if_true, bnd_s, nI_add, ih (t + 1) c N (by omega) (by omega)]
      rfl
    · rw [q, bI_t] at o
      simp (disch := omega) only [h4, nI_leI, if_neg, o, bp_s, lit, litm, nI_eq, sub_z, bnd_s, sub_s, nI_add, ih (t + 1) (c + 1) N (by omega) (by omega), if_true]
      split <;> rfl
end USES
theorem s_uses : st_uses Rel := by
  intro i zX zM a v _ hr
  obtain ⟨h0, T, S, tk, lv, rm, ps, pt, h⟩ := id hr
  have hW := h.1.1.1
  have hT1 := hW.1
  unfold fX8_uses fX9_uses
  rcases has_ok h a with ⟨x1, x2⟩ | ⟨m, m1, rfl, x1, x2⟩
  · refine ⟨-(nI 1), zM, ?_, ?_, up_ok hr⟩
    · simp only [x1, bp_s, lit, litm, if_true]
    · simp only [x2, bp_s, lit, litm, if_true]
  · obtain ⟨zM1, on, c1, c2, c3, c4, c5, c6, _⟩ := cls_ok h
    have hx : ∀ u, u < T.length → fX4_hasPartLike ps zX (nI u) (nI m) = some (bI (usB T on m u)) := by
      intro u hu
      obtain ⟨r, e1, e2⟩ := usesX_in h.1.1.2.2.1 hW m1 hu c6 (sz T u) 0 FU (by omega) (by have := FU_ge; have := (hW.2 u hu).1; omega)
      unfold fX4_hasPartLike
      simp only [lit]
      rw [e1]
      rcases e2 with ⟨rfl, e2⟩ | ⟨rfl, e2⟩
      · rw [usB_t e2]; rfl
      · rw [usB_f e2]; rfl
    have hm : ∀ u, u < T.length → fX9_usesOne zM1 (nI u) (nI m) = some (bI (usB T on m u)) := by
      intro u hu
      obtain ⟨r, e1, e2⟩ := usesM_in c2.2.1.1 hW c4 m1 hu (sz T u) 0 FU 0 (by omega) (by have := FU_ge; have := (hW.2 u hu).1; omega) (Or.inl rfl)
      unfold fX9_usesOne
      simp only [lit]
      rw [e1]
      rcases e2 with ⟨rfl, e2 | e2⟩ | ⟨rfl, _, e2⟩
      · omega
      · rw [usB_t e2]; rfl
      · rw [usB_f e2]; rfl
    have eM := usesM_loop (v := v) hT1 c2.2.1.1.1 hm T.length 0 0 FU (by omega) (by have := FU_ge; omega)
    rw [sub_0] at eM
    have eX := usesX_loop (v := v) hT1 h.1.1.2.2.1.1 h.1.2.2.1.1 hx T.length 0 0 FU (by omega) (by have := FU_ge; omega)
    refine ⟨mfn (usB T on m) v T.length 0 0, zM1, ?_, ?_, ?_, T, S, tk, lv, rm, ps, pt, c2.up⟩
    · simp (disch := omega) only [x1, bp_s, lit, nI_eq, if_neg]
      by_cases q : nI 0 ≤ v
      · rw [if_pos q]; exact eX
      · rw [if_neg q, mfn_neg (nle_lt.mp q) _ _ _ (by omega)]
    · simp (disch := omega) only [x2, bp_s, lit, nI_eq, if_neg, c1]
      exact eM
    · rw [c3.2.2 26 (by omega) (by omega)]; exact h0
