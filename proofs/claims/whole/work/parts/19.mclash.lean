section MC
variable {T : List Tm} {E U : Nat → Nat → Prop} {on : Nat → Nat} {z : fS}
theorem cl_say (hI : MI T.length E U z) (hn : T.length ≤ 120) (hO : MO T.length on z) {k73 : Int32 → Option (Int32 × fS)} : ∀ (d i N : Nat), i + d = 101 → d < N → ∃ r, lX9_clashes_8 k73 z N (nI 0) (nI i) = k73 (nI r) ∧ ((r = 1 ∧ ∃ a b, a < T.length ∧ b < T.length ∧ U a b ∧ on a = on b) ∨ (r = 0 ∧ ∀ s a b, i ≤ s → s ≤ 100 → z 21 s = nI 1 → z 7 s = nI 0 → z 5 s = nI a → z 6 s = nI b → a < T.length → b < T.length → on a ≠ on b)) := by
  intro d
  induction d with
  | zero =>
    intro i N hi hN
    obtain ⟨N, rfl⟩ : ∃ M, N = M + 1 := ⟨N - 1, by omega⟩
    refine ⟨0, ?_, Or.inr ⟨rfl, fun s a b h1 h2 => by omega⟩⟩
    rw [lX9_clashes_8.eq_2]
    simp (disch := omega) only [lit, nI_ltI, if_pos]
  | succ d ih =>
    intro i N hi hN
    obtain ⟨N, rfl⟩ : ∃ M, N = M + 1 := ⟨N - 1, by omega⟩
    rw [lX9_clashes_8.eq_2]
    obtain ⟨r, e1, e2⟩ := ih (i + 1) N (by omega) (by omega)
    have back : (¬ (z 21 i = nI 1 ∧ z 7 i = nI 0 ∧ ∃ a b, z 5 i = nI a ∧ z 6 i = nI b ∧ a < T.length ∧ b < T.length ∧ on a = on b)) → ((r = 1 ∧ ∃ a b, a < T.length ∧ b < T.length ∧ U a b ∧ on a = on b) ∨ (r = 0 ∧ ∀ s a b, i ≤ s → s ≤ 100 → z 21 s = nI 1 → z 7 s = nI 0 → z 5 s = nI a → z 6 s = nI b → a < T.length → b < T.length → on a ≠ on b)) := by
      intro hne
      rcases e2 with e2 | ⟨e2, e3⟩
      · exact Or.inl e2
      · refine Or.inr ⟨e2, fun s a b h1 h2 h3 h4 h5 h6 h7 h8 => ?_⟩
        rcases Nat.eq_or_lt_of_le h1 with rfl | h1
        · exact fun e => hne ⟨h3, h4, a, b, h5, h6, h7, h8, e⟩
        · exact e3 s a b h1 h2 h3 h4 h5 h6 h7 h8
    rcases hI.1 i (by omega) with q | ⟨q, a, b, q5, q6, ha, hb, q7⟩
    · refine ⟨r, ?_, back fun h => ?_⟩
      · simp (disch := omega) only [lit, nI_ltI, if_neg, if_true, inb_t, gd_t, rd_nI, q, bnd_s, nI_add]
        exact e1
      · have := h.1
        rw [q, nI_eq (by omega) (by omega)] at this; omega
    · rcases q7 with ⟨q7, hE⟩ | ⟨q7, hU⟩
      · refine ⟨r, ?_, back fun h => ?_⟩
        · simp (disch := omega) only [lit, nI_ltI, if_neg, if_true, inb_t, gd_t, rd_nI, q, q7, nI_eq, bnd_s, nI_add]
          exact e1
        · have := h.2.1
          rw [q7, nI_eq (by omega) (by omega)] at this; omega
      · have oa := hO a ha
        have ob := hO b hb
        by_cases hab : on a = on b
        · obtain ⟨M, rfl⟩ : ∃ M, N = M + 1 := ⟨N - 1, by omega⟩
          refine ⟨1, ?_, Or.inl ⟨rfl, a, b, ha, hb, hU, hab⟩⟩
          simp (disch := omega) only [lit, nI_ltI, if_neg, if_true, inb_t, gd_t, rd_nI, q, q7, q5, q6, oa.1, ob.1, hab, nI_eq, bnd_s, nI_add]
          rw [lX9_clashes_8.eq_2]
          simp (disch := omega) only [lit, nI_eq, if_neg, ite_self]
        · refine ⟨r, ?_, back fun h => ?_⟩
          · simp (disch := omega) only [lit, nI_ltI, if_neg, if_true, inb_t, gd_t, rd_nI, q, q7, q5, q6, oa.1, ob.1, hab, nI_eq, bnd_s, nI_add]
            exact e1
          · obtain ⟨_, _, a', b', h5, h6, h7, h8, h9⟩ := h
            rw [q5, nI_eq (by omega) (by omega)] at h5
            rw [q6, nI_eq (by omega) (by omega)] at h6
            rw [← h5, ← h6] at h9
            exact hab h9
theorem cl_in (hW : WT T) (hT : MT T z) (hO : MO T.length on z) {a : Nat} (ha : a < T.length) {k145 : Int32 → Option (Int32 × fS)} : ∀ (d b N : Nat), b + d = a → d < N → ∃ r, lX9_clashes_89 k145 z (nI a) N (nI 0) (nI b) = k145 (nI r) ∧ ((r = 1 ∧ ∃ c, c < a ∧ kd T a = nI 1 ∧ kd T c = nI 1 ∧ on a = on c) ∨ (r = 0 ∧ ∀ c, b ≤ c → c < a → kd T a = nI 1 → kd T c = nI 1 → on a ≠ on c)) := by
  have hT1 := hW.1
  intro d
  induction d with
  | zero =>
    intro i N hi hN
    obtain ⟨N, rfl⟩ : ∃ M, N = M + 1 := ⟨N - 1, by omega⟩
    refine ⟨0, ?_, Or.inr ⟨rfl, fun c h1 h2 => by omega⟩⟩
    rw [lX9_clashes_89.eq_2]
    simp (disch := omega) only [nI_leI, if_pos]
  | succ d ih =>
    intro i N hi hN
    obtain ⟨N, rfl⟩ : ∃ M, N = M + 1 := ⟨N - 1, by omega⟩
    rw [lX9_clashes_89.eq_2]
    obtain ⟨r, e1, e2⟩ := ih (i + 1) N (by omega) (by omega)
    have oa := hO a ha
    have ob := hO i (by omega)
    have a1 := (hT.2 a ha).1
    have b1 := (hT.2 i (by omega)).1
    have back : ¬ (kd T a = nI 1 ∧ kd T i = nI 1 ∧ on a = on i) → ((r = 1 ∧ ∃ c, c < a ∧ kd T a = nI 1 ∧ kd T c = nI 1 ∧ on a = on c) ∨ (r = 0 ∧ ∀ c, i ≤ c → c < a → kd T a = nI 1 → kd T c = nI 1 → on a ≠ on c)) := by
      intro hne
      rcases e2 with e2 | ⟨e2, e3⟩
      · exact Or.inl e2
      · refine Or.inr ⟨e2, fun c h1 h2 h3 h4 => ?_⟩
        rcases Nat.eq_or_lt_of_le h1 with rfl | h1
        · exact fun e => hne ⟨h3, h4, e⟩
        · exact e3 c h1 h2 h3 h4
    by_cases q1 : kd T a = nI 1
    · by_cases q2 : kd T i = nI 1
      · by_cases q3 : on a = on i
        · obtain ⟨M, rfl⟩ : ∃ M, N = M + 1 := ⟨N - 1, by omega⟩
          refine ⟨1, ?_, Or.inl ⟨rfl, i, by omega, q1, q2, q3⟩⟩
          simp (disch := omega) only [lit, nI_leI, if_neg, if_true, inb_t, gd_t, rd_nI, a1, b1, q1, q2, oa.1, ob.1, q3, bnd_s, nI_add]
          rw [lX9_clashes_89.eq_2]
          simp (disch := omega) only [lit, nI_eq, if_neg, ite_self]
        · refine ⟨r, ?_, back fun h => q3 h.2.2⟩
          simp (disch := omega) only [lit, nI_leI, if_neg, if_true, inb_t, gd_t, rd_nI, a1, b1, q1, q2, oa.1, ob.1, nI_eq, q3, bnd_s, nI_add]
          exact e1
      · refine ⟨r, ?_, back fun h => q2 h.2.1⟩
        simp (disch := omega) only [lit, nI_leI, if_neg, if_true, inb_t, gd_t, rd_nI, a1, b1, q1, q2, if_false, bnd_s, nI_add]
        exact e1
    · refine ⟨r, ?_, back fun h => q1 h.1⟩
      simp (disch := omega) only [lit, nI_leI, if_neg, if_true, inb_t, gd_t, rd_nI, a1, q1, if_false, bnd_s, nI_add]
      exact e1
theorem cl_out (hW : WT T) (hT : MT T z) (hO : MO T.length on z) : ∀ (d a N : Nat), a + d = T.length → d < N → ∃ r, lX9_clashes_75 z N (nI 0) (nI a) = some (nI r, z) ∧ ((r = 1 ∧ ∃ u v, u < T.length ∧ v < u ∧ kd T u = nI 1 ∧ kd T v = nI 1 ∧ on u = on v) ∨ (r = 0 ∧ ∀ u v, a ≤ u → u < T.length → v < u → kd T u = nI 1 → kd T v = nI 1 → on u ≠ on v)) := by
  have hT1 := hW.1
  intro d
  induction d with
  | zero =>
    intro i N hi hN
    obtain ⟨N, rfl⟩ : ∃ M, N = M + 1 := ⟨N - 1, by omega⟩
    refine ⟨0, ?_, Or.inr ⟨rfl, fun u v h1 h2 => by omega⟩⟩
    rw [lX9_clashes_75.eq_2]
    simp (disch := omega) only [hT.1, nI_leI, if_pos, isb_0, gd_t]
  | succ d ih =>
    intro i N hi hN
    obtain ⟨N, rfl⟩ : ∃ M, N = M + 1 := ⟨N - 1, by omega⟩
    rw [lX9_clashes_75.eq_2]
    obtain ⟨r, e1, e2⟩ := ih (i + 1) N (by omega) (by omega)
    obtain ⟨r0, f1, f2⟩ := cl_in hW hT hO (show i < T.length by omega) (k145 := jX9_clashes_145 (lX9_clashes_75 z N) z (nI i)) i 0 FU (by omega) (by have := FU_ge; omega)
    simp (disch := omega) only [hT.1, nI_leI, if_neg, lit, if_true, f1]
    unfold jX9_clashes_145
    simp only [lit, bnd_s, nI_add]
    rcases f2 with ⟨rfl, c, g1, g2, g3, g4⟩ | ⟨rfl, g⟩
    · obtain ⟨M, rfl⟩ : ∃ M, N = M + 1 := ⟨N - 1, by omega⟩
      refine ⟨1, ?_, Or.inl ⟨rfl, i, c, by omega, g1, g2, g3, g4⟩⟩
      rw [lX9_clashes_75.eq_2]
      simp (disch := omega) only [lit, nI_eq, if_neg, isb_1, gd_t, ite_self]
    · refine ⟨r, e1, ?_⟩
      rcases e2 with e2 | ⟨e2, e3⟩
      · exact Or.inl e2
      · refine Or.inr ⟨e2, fun u v h1 h2 h3 h4 h5 => ?_⟩
        rcases Nat.eq_or_lt_of_le h1 with rfl | h1
        · exact g v (Nat.zero_le _) h3 h4 h5
        · exact e3 u v h1 h2 h3 h4 h5
theorem clashes_ok (hW : WT T) (hT : MT T z) (hI : MI T.length E U z) : ∃ r z', fX9_clashes z = some (nI r, z') ∧ ((r = 1 ∧ Cl T T.length E U) ∨ (r = 0 ∧ ¬ Cl T T.length E U)) ∧ MF T E z' ∧ (∀ j, j ≠ 20 → j ≠ 0 → z' j = z j) ∧ z' 0 = upd (z 0) 30 (nI 0) := by
  have hT1 := hW.1
  obtain ⟨z1, a1, ⟨on, hO, hon⟩, a3, a4⟩ := findOnes_ok hW hT hI
  have hTa : MT T z1 := hT.fr (by rw [a4, upd_n (by omega)]) fun j h1 h2 => a3 j (by omega) (by omega)
  have hIa : MI T.length E U z1 := hI.fr (a3 5 (by omega) (by omega)) (a3 6 (by omega) (by omega)) (a3 7 (by omega) (by omega)) (a3 21 (by omega) (by omega))
  obtain ⟨r, b1, b2⟩ := cl_say hIa hT1 hO (k73 := jX9_clashes_73 z1) 101 0 FU (by omega) (by have := FU_ge; omega)
  have pre : fX9_clashes z = jX9_clashes_73 z1 (nI r) := by
    unfold fX9_clashes
    rw [a1, bp_s]
    simp only [lit]
    exact b1
  rw [pre]
  unfold jX9_clashes_73
  rcases b2 with ⟨rfl, a, b, h1, h2, h3, h4⟩ | ⟨rfl, h⟩
  · refine ⟨1, z1, ?_, Or.inl ⟨rfl, Or.inl ⟨a, b, h3, (hon a b h1 h2).mp h4⟩⟩, ⟨on, hO, hon⟩, a3, a4⟩
    obtain ⟨M, hM⟩ : ∃ M, FU = M + 1 := ⟨FU - 1, by have := FU_ge; omega⟩
    rw [hM, lX9_clashes_75.eq_2]
    simp (disch := omega) only [lit, nI_eq, if_neg, isb_1, gd_t, ite_self]
  · obtain ⟨r, c1, c2⟩ := cl_out hW hTa hO T.length 0 FU (by omega) (by have := FU_ge; omega)
    refine ⟨r, z1, ?_, ?_, ⟨on, hO, hon⟩, a3, a4⟩
    · simp only [lit]; exact c1
    · rcases c2 with ⟨rfl, u, v, g1, g2, g3, g4, g5⟩ | ⟨rfl, g⟩
      · exact Or.inl ⟨rfl, Or.inr ⟨u, v, g1, by omega, by omega, g3, g4, (hon u v g1 (by omega)).mp g5⟩⟩
      · refine Or.inr ⟨rfl, ?_⟩
        rintro (⟨a, b, hU, ho⟩ | ⟨u, v, g1, g2, g3, g4, g5, g6⟩)
        · obtain ⟨s, s1, s2, s3, s4, s5, s6, s7⟩ := hIa.2.2 a b hU
          exact h s a b (Nat.zero_le _) s1 s2 s5 s3 s4 s6 s7 ((hon a b s6 s7).mpr ho)
        · have := (hon u v g1 g2).mpr g6
          rcases Nat.lt_trichotomy u v with l | l | l
          · exact g v u (Nat.zero_le _) g2 l g5 g4 this.symm
          · exact g3 l
          · exact g u v (Nat.zero_le _) g1 l g4 g5 this
end MC
