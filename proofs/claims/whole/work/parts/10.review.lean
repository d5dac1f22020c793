/-! finding the place of a term anew -/
abbrev Rq (ro : Nat → Nat) : Nat → Nat → Prop := fun a b => ro a = ro b
def rp (T : List Tm) (ro : Nat → Nat) (t i : Nat) : Int32 := if i < sz T t then nI (ro (pt T t i)) else -1
def sg (T : List Tm) (ro : Nat → Nat) (t : Nat) : Int32 :=
  if kd T t = nI 4 ∧ ¬ rp T ro t 0 ≤ rp T ro t 1 then hsh (kd T t) (sh T t) (rp T ro t 1) (rp T ro t 0) (rp T ro t 2) else hsh (kd T t) (sh T t) (rp T ro t 0) (rp T ro t 1) (rp T ro t 2)
theorem sg_lt (T : List Tm) (ro : Nat → Nat) (t : Nat) : ∃ h, h < 128 ∧ sg T ro t = nI h := by
  unfold sg; split <;> exact hsh_lt _ _ _ _ _
section ALIKE
variable {T : List Tm} {pb k : Nat} {ro : Nat → Nat} {z : fS}
theorem ByP.sm {R : Nat → Nat → Prop} (hs : ∀ a b, R a b → R b a) {a b : Nat} (h : ByP T R a b) : ByP T R b a := by
  obtain ⟨h0, h1, h2, h3, h4⟩ := h
  refine ⟨by omega, h1.symm, h2.symm, h3.symm, ?_⟩
  rcases h4 with h4 | ⟨h4, h5, h6⟩
  · exact Or.inl fun i hi => hs _ _ (h4 i (by omega))
  · exact Or.inr ⟨h1 ▸ h4, hs _ _ h6, hs _ _ h5⟩
theorem ByP.tr (hW : WT T) {R : Nat → Nat → Prop} (ht : ∀ a b c, R a b → R b c → R a c) {a b c : Nat} (ha : a < T.length) (h : ByP T R a b) (g : ByP T R b c) : ByP T R a c := by
  obtain ⟨h0, h1, h2, h3, h4⟩ := h
  obtain ⟨g0, g1, g2, g3, g4⟩ := g
  refine ⟨h0, h1.trans g1, h2.trans g2, h3.trans g3, ?_⟩
  rcases h4 with h4 | ⟨h4, h5, h6⟩ <;> rcases g4 with g4 | ⟨g4, g5, g6⟩
  · exact Or.inl fun i hi => ht _ _ _ (h4 i hi) (g4 i (by omega))
  · have s2 : sz T a = 2 := (hW.2 a ha).2.2.2.1 (h1.trans g4)
    exact Or.inr ⟨h1.trans g4, ht _ _ _ (h4 0 (by omega)) g5, ht _ _ _ (h4 1 (by omega)) g6⟩
  · have s2 : sz T a = 2 := (hW.2 a ha).2.2.2.1 h4
    exact Or.inr ⟨h4, ht _ _ _ h5 (g4 1 (by omega)), ht _ _ _ h6 (g4 0 (by omega))⟩
  · have s2 : sz T a = 2 := (hW.2 a ha).2.2.2.1 h4
    refine Or.inl fun i hi => ?_
    rcases (show i = 0 ∨ i = 1 by omega) with rfl | rfl
    · exact ht _ _ _ h5 g6
    · exact ht _ _ _ h6 g5
theorem sg_alike (hW : WT T) {t u : Nat} (ht : t < T.length) (hro : ∀ i, i < sz T t → ro (pt T t i) < 120) (h : ByP T (Rq ro) t u) : sg T ro t = sg T ro u := by
  obtain ⟨h0, h1, h2, h3, h4⟩ := h
  rcases h4 with h4 | ⟨h4, h5, h6⟩
  · have hr : ∀ i, rp T ro t i = rp T ro u i := fun i => by
      unfold rp
      by_cases hi : i < sz T t
      · rw [if_pos hi, if_pos (by omega), show ro (pt T t i) = ro (pt T u i) from h4 i hi]
      · rw [if_neg hi, if_neg (by omega)]
    unfold sg
    rw [hr 0, hr 1, hr 2, h1, h2]
  · have s2 : sz T t = 2 := (hW.2 t ht).2.2.2.1 h4
    have r0 : rp T ro t 0 = rp T ro u 1 := by unfold rp; rw [if_pos (by omega), if_pos (by omega)]; exact congrArg nI h5
    have r1 : rp T ro t 1 = rp T ro u 0 := by unfold rp; rw [if_pos (by omega), if_pos (by omega)]; exact congrArg nI h6
    have r2 : rp T ro t 2 = rp T ro u 2 := by unfold rp; rw [if_neg (by omega), if_neg (by omega)]
    have v0 : rp T ro u 0 = nI (ro (pt T t 1)) := by rw [← r1]; unfold rp; rw [if_pos (by omega)]
    have v1 : rp T ro u 1 = nI (ro (pt T t 0)) := by rw [← r0]; unfold rp; rw [if_pos (by omega)]
    have b0 := hro 0 (by omega)
    have b1 := hro 1 (by omega)
    unfold sg
    rw [r0, r1, r2, ← h1, ← h2, v0, v1]
    simp (disch := omega) only [nI_leI]
    by_cases q : ro (pt T t 0) = ro (pt T t 1)
    · rw [q]
    · by_cases q2 : ro (pt T t 0) ≤ ro (pt T t 1)
      · rw [if_neg (fun x => x.2 q2), if_pos ⟨h4, by omega⟩]
      · rw [if_pos ⟨h4, q2⟩, if_neg (fun x => x.2 (by omega))]
theorem rootOfPart_ok (hT : HT T z) (hS : PS pb k ro z) (hW : WT T) {t i : Nat} (ht : t < T.length) (htk : t < k) (hi : i < 3) : fX4_rootOfPart pb z (nI t) (nI i) = some (rp T ro t i) := by
  have hT1 := hW.1
  have e4 := (hT.2 t ht).2.2.1
  have hsz := (hW.2 t ht).1
  unfold fX4_rootOfPart rp
  by_cases q : i < sz T t
  · have hp := (hW.2 t ht).2.1 i q
    have e5 := hT.part ht q hi
    have e1 := (hS.2.2.1 (pt T t i) (by omega)).1
    simp (disch := omega) only [inb_t, gd_t, rd_nI, e4, nI_leI, if_neg, if_pos, lit, nI_mul, nI_add, e5, e1]
  · simp (disch := omega) only [inb_t, gd_t, rd_nI, e4, nI_leI, if_neg, if_pos]
theorem alike_loop (hT : HT T z) (hS : PS pb k ro z) (hW : WT T) {t u : Nat} (ht : t < k) (hu : u < k) (hk : k ≤ T.length) (hs : sz T t = sz T u) {k146 : Int32 → Option Int32} : ∀ (d i N : Nat), i + d = sz T t → d < N → ∃ b, lX4_isBuiltAlike_83 pb k146 z (nI t) (nI (sz T t)) (nI (3 * t)) (nI (3 * u)) N (nI 1) (nI i) = k146 (nI b) ∧ ((b = 1 ∧ ∀ j, i ≤ j → j < sz T t → ro (pt T t j) = ro (pt T u j)) ∨ (b = 0 ∧ ¬ ∀ j, i ≤ j → j < sz T t → ro (pt T t j) = ro (pt T u j))) := by
  have hT1 := hW.1
  have hsz := (hW.2 t (by omega)).1
  intro d
  induction d with
  | zero =>
    intro i N hi hN
    obtain ⟨N, rfl⟩ : ∃ M, N = M + 1 := ⟨N - 1, by omega⟩
    refine ⟨1, ?_, Or.inl ⟨rfl, fun j h1 h2 => by omega⟩⟩
    rw [lX4_isBuiltAlike_83.eq_2]
    simp (disch := omega) only [nI_leI, if_pos]
  | succ d ih =>
    intro i N hi hN
    obtain ⟨N, rfl⟩ : ∃ M, N = M + 1 := ⟨N - 1, by omega⟩
    have p1 := hT.part (t := t) (i := i) (by omega) (by omega) (by omega)
    have p2 := hT.part (t := u) (i := i) (by omega) (by omega) (by omega)
    have q1 := (hW.2 t (by omega)).2.1 i (by omega)
    have q2 := (hW.2 u (by omega)).2.1 i (by omega)
    have r1 := hS.2.2.1 (pt T t i) (by omega)
    have r2 := hS.2.2.1 (pt T u i) (by omega)
    have hkk := hS.2.1
    rw [lX4_isBuiltAlike_83.eq_2]
    by_cases q : ro (pt T t i) = ro (pt T u i)
    · obtain ⟨b, e1, e2⟩ := ih (i + 1) N (by omega) (by omega)
      refine ⟨b, ?_, ?_⟩
      · simp (disch := omega) only [nI_leI, if_neg, lit, nI_eq, nI_add, inb_t, gd_t, rd_nI, p1, p2, r1.1, r2.1, if_pos, bnd_s]
        exact e1
      · rcases e2 with ⟨e2, e3⟩ | ⟨e2, e3⟩
        · refine Or.inl ⟨e2, fun j h1 h2 => ?_⟩
          rcases Nat.eq_or_lt_of_le h1 with rfl | h1
          · exact q
          · exact e3 j h1 h2
        · exact Or.inr ⟨e2, fun h => e3 fun j h1 h2 => h j (by omega) h2⟩
    · refine ⟨0, ?_, Or.inr ⟨rfl, fun h => q (h i (Nat.le_refl _) (by omega))⟩⟩
      obtain ⟨M, rfl⟩ : ∃ M, N = M + 1 := ⟨N - 1, by omega⟩
      simp (disch := omega) only [nI_leI, if_neg, lit, nI_eq, nI_add, inb_t, gd_t, rd_nI, p1, p2, r1.1, r2.1, if_pos, bnd_s]
      rw [lX4_isBuiltAlike_83.eq_2]
      simp only [lit, if_true, ite_self]
theorem alike_ok (hT : HT T z) (hS : PS pb k ro z) (hW : WT T) {t u : Nat} (ht : t < k) (hu : u < k) (hk : k ≤ T.length) (h0 : 0 < sz T t) : ∃ b, fX4_isBuiltAlike pb z (nI t) (nI u) = some (nI b) ∧ ((b = 1 ∧ ByP T (Rq ro) t u) ∨ (b = 0 ∧ ¬ ByP T (Rq ro) t u)) := by
  have hT1 := hW.1
  have hsz := (hW.2 t (by omega)).1
  obtain ⟨a2, a3, a4, a5⟩ := hT.2 t (by omega)
  obtain ⟨b2, b3, b4, b5⟩ := hT.2 u (by omega)
  unfold fX4_isBuiltAlike
  simp (disch := omega) only [inb_t, gd_t, rd_nI, bnd_s, a2, a3, a4, b2, b3, b4]
  by_cases q1 : kd T t = kd T u
  · rw [if_pos q1]
    by_cases q2 : sh T t = sh T u
    · rw [if_pos q2]
      have hsu := (hW.2 u (by omega)).1
      by_cases q3 : sz T t = sz T u
      · rw [if_pos (by rw [q3])]
        simp only [lit, nI_mul]
        obtain ⟨b, e1, e2⟩ := alike_loop hT hS hW ht hu hk q3 (k146 := jX4_isBuiltAlike_146 pb z (nI t) (nI (3 * t)) (nI (3 * u))) (sz T t) 0 FU (by omega) (by have := FU_ge; omega)
        rw [e1]
        rcases e2 with ⟨rfl, e2⟩ | ⟨rfl, e2⟩
        · refine ⟨1, ?_, Or.inl ⟨rfl, h0, q1, q2, q3, Or.inl fun i hi => e2 i (Nat.zero_le _) hi⟩⟩
          unfold jX4_isBuiltAlike_146
          simp (disch := omega) only [lit, nI_eq, if_neg, isb_1, gd_t]
        · unfold jX4_isBuiltAlike_146
          simp (disch := omega) only [lit, if_true, inb_t, gd_t, rd_nI, a2]
          by_cases q4 : kd T t = nI 4
          · rw [if_pos q4]
            have s2 : sz T t = 2 := (hW.2 t (by omega)).2.2.2.1 q4
            have p10 := hT.part (t := t) (i := 0) (by omega) (by omega) (by omega)
            have p11 := hT.part (t := t) (i := 1) (by omega) (by omega) (by omega)
            have p20 := hT.part (t := u) (i := 0) (by omega) (by omega) (by omega)
            have p21 := hT.part (t := u) (i := 1) (by omega) (by omega) (by omega)
            have w10 := (hW.2 t (by omega)).2.1 0 (by omega)
            have w11 := (hW.2 t (by omega)).2.1 1 (by omega)
            have w20 := (hW.2 u (by omega)).2.1 0 (by omega)
            have w21 := (hW.2 u (by omega)).2.1 1 (by omega)
            have r10 := hS.2.2.1 (pt T t 0) (by omega)
            have r11 := hS.2.2.1 (pt T t 1) (by omega)
            have r20 := hS.2.2.1 (pt T u 0) (by omega)
            have r21 := hS.2.2.1 (pt T u 1) (by omega)
            have hkk := hS.2.1
            simp only [Nat.add_zero] at p10 p20
            simp (disch := omega) only [inb_t, gd_t, rd_nI, nI_add, p10, p11, p20, p21, r10.1, r11.1, r20.1, r21.1, nI_eq]
            by_cases q5 : ro (pt T t 0) = ro (pt T u 1)
            · rw [if_pos q5]
              by_cases q6 : ro (pt T t 1) = ro (pt T u 0)
              · rw [if_pos q6]
                exact ⟨1, rfl, Or.inl ⟨rfl, h0, q1, q2, q3, Or.inr ⟨q4, q5, q6⟩⟩⟩
              · rw [if_neg q6]
                refine ⟨0, rfl, Or.inr ⟨rfl, fun h => ?_⟩⟩
                rcases h.2.2.2.2 with h | ⟨_, _, h⟩
                · exact e2 fun j _ hj => h j hj
                · exact q6 h
            · rw [if_neg q5]
              refine ⟨0, rfl, Or.inr ⟨rfl, fun h => ?_⟩⟩
              rcases h.2.2.2.2 with h | ⟨_, h, _⟩
              · exact e2 fun j _ hj => h j hj
              · exact q5 h
          · rw [if_neg q4]
            refine ⟨0, by rw [isb_0]; rfl, Or.inr ⟨rfl, fun h => ?_⟩⟩
            rcases h.2.2.2.2 with h | ⟨h, _, _⟩
            · exact e2 fun j _ hj => h j hj
            · exact q4 h
      · rw [if_neg (by rw [nI_eq (by omega) (by omega)]; exact q3)]
        exact ⟨0, rfl, Or.inr ⟨rfl, fun h => q3 h.2.2.2.1⟩⟩
    · rw [if_neg q2]
      exact ⟨0, rfl, Or.inr ⟨rfl, fun h => q2 h.2.2.1⟩⟩
  · rw [if_neg q1]
    exact ⟨0, rfl, Or.inr ⟨rfl, fun h => q1 h.2.1⟩⟩
theorem review_loop (hT : HT T z) (hS : PS pb k ro z) (hW : WT T) {t : Nat} (ht : t < k) (hk : k ≤ T.length) (h0 : 0 < sz T t) {k154 : Option fS} {v5 : Int32} : ∀ (l : List Nat) (h : Int32) (s N : Nat), Lst (z (pb + 8)) h l → (∀ x, x ∈ l → x < k) → s + l.length ≤ 120 → l.length < N → (∃ u, u ∈ l ∧ ByP T (Rq ro) t u ∧ lX4_review_105 pb k154 z (nI t) v5 N h (nI s) = bp (fX0_putPair z (nI t) (nI u)) fun z135 => some z135) ∨ ((∀ u, u ∈ l → ¬ ByP T (Rq ro) t u) ∧ lX4_review_105 pb k154 z (nI t) v5 N h (nI s) = k154)
  | [], h, s, N, hL, hb, hs, hN => by
    obtain ⟨N, rfl⟩ : ∃ M, N = M + 1 := ⟨N - 1, by omega⟩
    have hh : h = -1 := hL
    subst hh
    refine Or.inr ⟨fun u hu => by simp at hu, ?_⟩
    rw [lX4_review_105.eq_2]
    simp only [if_true, ite_self]
  | x :: l, h, s, N, hL, hb, hs, hN => by
    obtain ⟨N, rfl⟩ : ∃ M, N = M + 1 := ⟨N - 1, by omega⟩
    simp only [List.length_cons] at hs hN
    obtain ⟨rfl, hL⟩ := hL
    have hx := hb x List.mem_cons_self
    have hkk := hS.2.1
    obtain ⟨b, e1, e2⟩ := alike_ok hT hS hW ht hx hk h0
    rw [lX4_review_105.eq_2]
    rcases e2 with ⟨rfl, e2⟩ | ⟨rfl, e2⟩
    · refine Or.inl ⟨x, List.mem_cons_self, e2, ?_⟩
      simp (disch := omega) only [lit, litm, nI_leI, if_neg, nI_m1n, if_false, e1, bp_s, nI_eq]
    · have ih := review_loop hT hS hW ht hk h0 (k154 := k154) (v5 := v5) l (z (pb + 8) x) (s + 1) N hL (fun y hy => hb y (List.mem_cons_of_mem _ hy)) (by omega) (by omega)
      have step : (if (120 : Int32) ≤ nI s then k154 else if nI x = (-1 : Int32) then k154 else bp (fX4_isBuiltAlike pb z (nI t) (nI x)) fun r122 => if r122 = 0 then gd (inb (nI x) 120) <| bnd (rd z (pb + 8) (nI x)) fun x146 => bnd (nI s + (1 : Int32)) fun x148 => (lX4_review_105 pb k154 z (nI t) v5 N) x146 x148 else bp (fX0_putPair z (nI t) (nI x)) fun z135 => some z135) = lX4_review_105 pb k154 z (nI t) v5 N (z (pb + 8) x) (nI (s + 1)) := by
        simp (disch := omega) only [lit, litm, nI_leI, if_neg, nI_m1n, if_false, e1, bp_s, if_true, inb_t, gd_t, rd_nI, bnd_s, nI_add]
      rw [step]
      rcases ih with ⟨u, i1, i2, i3⟩ | ⟨i1, i2⟩
      · exact Or.inl ⟨u, List.mem_cons_of_mem _ i1, i2, i3⟩
      · refine Or.inr ⟨fun u hu => ?_, i2⟩
        rcases List.mem_cons.mp hu with rfl | hu
        · exact e2
        · exact i1 u hu
theorem rp_ne {t i : Nat} (h : i < sz T t) : rp T ro t i = nI (ro (pt T t i)) := by unfold rp; rw [if_pos h]
theorem review_calc (hT : HT T z) (hS : PS pb k ro z) (hW : WT T) {t : Nat} (ht : t < k) (hk : k ≤ T.length) (h0 : 0 < sz T t) {z2 : fS} (hz : fX4_takeOut pb z (nI t) = some z2) (hT2 : HT T z2) (hS2 : PS pb k ro z2) : fX4_review pb z (nI t) = gd (inb (sg T ro t) 128) (lX4_review_105 pb (jX4_review_154 pb z2 (nI t) (sg T ro t)) z2 (nI t) (sg T ro t) FU (rd z2 (pb + 7) (sg T ro t)) (nI 0)) := by
  have hT1 := hW.1
  have e0 := rootOfPart_ok hT2 hS2 hW (t := t) (i := 0) (by omega) ht (by omega)
  have e1 := rootOfPart_ok hT2 hS2 hW (t := t) (i := 1) (by omega) ht (by omega)
  have e2 := rootOfPart_ok hT2 hS2 hW (t := t) (i := 2) (by omega) ht (by omega)
  obtain ⟨a2, a3, a4, a5⟩ := hT2.2 t (by omega)
  unfold fX4_review
  simp (disch := omega) only [hz, bp_s, lit, e0, e1, inb_t, gd_t, rd_nI, a2]
  unfold jX4_review_42
  simp (disch := omega) only [inb_t, gd_t, rd_nI, a2, a3, lit, if_true]
  unfold jX4_review_72 jX4_review_82
  simp (disch := omega) only [lit, if_true, nI_eq, if_neg, e2, bp_s, slotFor_ok, bnd_s]
  unfold sg
  by_cases q : kd T t = nI 4
  · by_cases q2 : rp T ro t 0 ≤ rp T ro t 1
    · rw [if_pos q, if_pos q2, if_neg (fun x => x.2 q2)]
    · rw [if_pos q, if_neg q2, if_pos ⟨q, q2⟩]
  · rw [if_neg q, if_neg (fun x => q x.1)]
end ALIKE
section REV
variable {T : List Tm} {pb k : Nat} {ro : Nat → Nat} {Q : List (Nat × Nat)} {C : List Nat} {z : fS}
theorem PS.fr {z' : fS} (hS : PS pb k ro z) (e : ∀ j, pb ≤ j → j ≤ pb + 5 → z' j = z j) : PS pb k ro z' := by
  unfold PS
  rw [e pb (by omega) (by omega), e (pb + 1) (by omega) (by omega), e (pb + 2) (by omega) (by omega), e (pb + 3) (by omega) (by omega), e (pb + 4) (by omega) (by omega)]
  exact hS
theorem PN.fr {z' : fS} (hS : PN T pb k ro z) (e : ∀ j, pb ≤ j → j ≤ pb + 5 → z' j = z j) : PN T pb k ro z' := by
  unfold PN
  rw [e pb (by omega) (by omega), e (pb + 5) (by omega) (by omega)]
  exact hS
theorem HA.fr {z' : fS} (h : HA C Q z) (e : ∀ j, 23 ≤ j → j ≤ 27 → z' j = z j) : HA C Q z' := by
  unfold HA
  rw [e 23 (by omega) (by omega), e 24 (by omega) (by omega), e 25 (by omega) (by omega), e 26 (by omega) (by omega), e 27 (by omega) (by omega)]
  exact h
theorem HH.fr {z' : fS} (h : HH pb k z) (e : ∀ j, pb + 7 ≤ j → j ≤ pb + 9 → z' j = z j) : HH pb k z' := by
  unfold HH
  rw [e (pb + 7) (by omega) (by omega), e (pb + 8) (by omega) (by omega), e (pb + 9) (by omega) (by omega)]
  exact h
theorem RwI.fr {z' : fS} (h : RwI T pb k ro z) (e : z' (pb + 6) = z (pb + 6)) : RwI T pb k ro z' := by
  unfold RwI
  rw [e]
  exact h
theorem review_ok (hp : isPb pb) (hk : k ≤ T.length) (hW : WT T) (hT : HT T z) (hS : PS pb k ro z) (hH : HH pb k z) (hA : HA C Q z) (hq : Q.length < 242) {t : Nat} (ht : t < k) (h0 : 0 < sz T t) :
    ∃ z' Q', fX4_review pb z (nI t) = some z' ∧ HH pb k z' ∧ HA C Q' z' ∧ ((∃ u, u < k ∧ u ≠ t ∧ z (pb + 9) u ≠ -1 ∧ ByP T (Rq ro) t u ∧ Q' = Q ++ [(t, u)] ∧ z' (pb + 9) = upd (z (pb + 9)) t (-1)) ∨ ((∀ u, u < k → u ≠ t → z (pb + 9) u = sg T ro t → ¬ ByP T (Rq ro) t u) ∧ Q' = Q ∧ z' (pb + 9) = upd (z (pb + 9)) t (sg T ro t))) ∧ (∀ j, j ≠ 23 → j ≠ 24 → j ≠ 25 → ¬ (pb + 7 ≤ j ∧ j ≤ pb + 9) → z' j = z j) := by
  have hpn := hp.ne
  have hT1 := hW.1
  obtain ⟨z2, e1, e2, e3, e4⟩ := takeOut_ok hp (by omega) hH ht
  have hT2 : HT T z2 := hT.fr fun j hj => e4 j (by omega) (by omega) (by omega)
  have hS2 : PS pb k ro z2 := hS.fr fun j h1 h2 => e4 j (by omega) (by omega) (by omega)
  have hA2 : HA C Q z2 := hA.fr fun j h1 h2 => e4 j (by omega) (by omega) (by omega)
  obtain ⟨s, hs, es⟩ := sg_lt T ro t
  obtain ⟨l, l1, l2, l3⟩ := e2.2 s hs
  have hll : l.length ≤ 120 := nodup_lt l2 fun x hx => by have := ((l3 x).mp hx).1; omega
  have hc := review_calc hT hS hW ht hk h0 e1 hT2 hS2
  rw [es] at hc
  simp (disch := omega) only [inb_t, gd_t, rd_nI] at hc
  rcases review_loop hT2 hS2 hW ht hk h0 (k154 := jX4_review_154 pb z2 (nI t) (nI s)) (v5 := nI s) l (z2 (pb + 7) s) 0 FU l1 (fun x hx => ((l3 x).mp hx).1) (by omega) (by have := FU_ge; omega) with ⟨u, u1, u2, u3⟩ | ⟨u1, u2⟩
  · obtain ⟨hu1, hu2⟩ := (l3 u).mp u1
    have hut : u ≠ t := by
      intro e
      rw [e, e3, upd_e] at hu2
      exact nI_m1 (by omega) hu2.symm
    obtain ⟨z3, f1, f2, f3⟩ := putPair_ok (a := t) (b := u) hA2 hq
    refine ⟨z3, Q ++ [(t, u)], ?_, e2.fr fun j h1 h2 => f3 j (by omega) (by omega) (by omega), f2, Or.inl ⟨u, hu1, hut, ?_, u2, rfl, ?_⟩, fun j c1 c2 c3 c4 => (f3 j c1 c2 c3).trans (e4 j (by omega) (by omega) (by omega))⟩
    · rw [hc, u3, f1, bp_s]
    · rw [e3, upd_n hut] at hu2
      rw [hu2]
      exact nI_m1 (by omega)
    · rw [f3 _ (by omega) (by omega) (by omega)]; exact e3
  · have hsl : z2 (pb + 9) t = -1 := by rw [e3, upd_e]
    have htl : t ∉ l := fun h => by
      have := ((l3 t).mp h).2
      rw [hsl] at this
      exact nI_m1 (by omega) this.symm
    refine ⟨wrr (wrr (wrr z2 (pb + 9) (upd (z2 (pb + 9)) t (nI s))) (pb + 8) (upd (z2 (pb + 8)) t (z2 (pb + 7) s))) (pb + 7) (upd (z2 (pb + 7)) s (nI t)), Q, ?_, ⟨?_, ?_⟩, ?_, Or.inr ⟨fun u hu hut hus hby => ?_, rfl, ?_⟩, ?_⟩
    · rw [hc, u2]
      unfold jX4_review_154
      simp (disch := omega) only [inb_t, gd_t, rd_nI, bnd_s, wr_nI, wrr_n]
    · intro u hu
      simp (disch := omega) only [wrr_n, wrr_e]
      by_cases e : u = t
      · subst e; rw [upd_e]; exact Or.inr ⟨s, hs, rfl⟩
      · rw [upd_n e]; exact e2.1 u hu
    · intro s' hs'
      simp (disch := omega) only [wrr_n, wrr_e]
      by_cases e : s' = s
      · subst e
        refine ⟨t :: l, ⟨upd_e, ?_⟩, List.nodup_cons.mpr ⟨htl, l2⟩, fun u => ?_⟩
        · rw [upd_e]
          exact l1.ext fun y hy => upd_n (fun e => htl (e ▸ hy))
        · by_cases e : u = t
          · subst e; rw [upd_e]; simp [ht]
          · rw [upd_n e, ← l3 u]; simp [e]
      · obtain ⟨l', c1, c2, c3⟩ := e2.2 s' hs'
        rw [upd_n e]
        refine ⟨l', c1.ext fun y hy => ?_, c2, fun u => ?_⟩
        · have : y ≠ t := fun e => by
            have := ((c3 y).mp hy).2
            rw [e, hsl] at this
            exact nI_m1 (by omega) this.symm
          exact upd_n this
        · rw [c3 u]
          by_cases e3' : u = t
          · subst e3'
            rw [upd_e, hsl]
            constructor
            · rintro ⟨_, q⟩; exact absurd q.symm (nI_m1 (by omega))
            · rintro ⟨_, q⟩; exact absurd ((nI_eq (by omega) (by omega)).mp q).symm e
          · rw [upd_n e3']
    · refine hA2.fr fun j h1 h2 => ?_
      simp (disch := omega) only [wrr_n]
    · refine u1 u ((l3 u).mpr ⟨hu, ?_⟩) hby
      rw [e3, upd_n hut, hus, es]
    · simp (disch := omega) only [wrr_n, wrr_e]
      rw [e3, es]
      funext j
      by_cases e : j = t
      · simp [upd, e]
      · simp [upd, e]
    · intro j c1 c2 c3 c4
      simp (disch := omega) only [wrr_n]
      exact e4 j (by omega) (by omega) (by omega)
end REV
