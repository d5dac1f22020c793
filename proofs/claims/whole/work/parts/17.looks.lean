/-! one look over all pairs of terms -/
section LOOK
variable {T : List Tm} {E : Nat → Nat → Prop} {on : Nat → Nat} {z : fS}
theorem isPart_ok (hW : WT T) (hT : MT T z) (hO : MO T.length on z) {a b i j : Nat} (ha : a < T.length) (hb : b < T.length) (hi : i < sz T a) (hj : j < sz T b) : fX9_isPart z (nI a) (nI i) (nI b) (nI j) = some (if on (pt T a i) = on (pt T b j) then nI 1 else nI 0) := by
  have hT1 := hW.1
  have sa := (hW.2 a ha).1
  have sb := (hW.2 b hb).1
  have pa := (hW.2 a ha).2.1 i hi
  have pb := (hW.2 b hb).2.1 j hj
  have ea := (hT.2 a ha).2.2.2 i hi
  have eb := (hT.2 b hb).2.2.2 j hj
  have oa := hO (pt T a i) (by omega)
  have ob := hO (pt T b j) (by omega)
  unfold fX9_isPart
  simp (disch := omega) only [lit, nI_mul, nI_add, inb_t, gd_t, rd_nI, ea, eb, oa.1, ob.1, nI_eq]
  split <;> rfl
theorem byParts_loop (hW : WT T) (hT : MT T z) (hO : MO T.length on z) {a b : Nat} (ha : a < T.length) (hb : b < T.length) (hs : sz T a = sz T b) {k93 : Int32 → Option Int32} : ∀ (d i N : Nat), i + d = sz T a → d < N → ∃ r, lX9_isByParts_61 k93 z (nI a) (nI b) N (nI 1) (nI i) = k93 (nI r) ∧ ((r = 1 ∧ ∀ j, i ≤ j → j < sz T a → on (pt T a j) = on (pt T b j)) ∨ (r = 0 ∧ ¬ ∀ j, i ≤ j → j < sz T a → on (pt T a j) = on (pt T b j))) := by
  have hT1 := hW.1
  have sa := (hW.2 a ha).1
  have e3 := (hT.2 a ha).2.2.1
  intro d
  induction d with
  | zero =>
    intro i N hi hN
    obtain ⟨N, rfl⟩ : ∃ M, N = M + 1 := ⟨N - 1, by omega⟩
    refine ⟨1, ?_, Or.inl ⟨rfl, fun j h1 h2 => by omega⟩⟩
    rw [lX9_isByParts_61.eq_2]
    simp (disch := omega) only [inb_t, gd_t, rd_nI, e3, nI_leI, if_pos]
  | succ d ih =>
    intro i N hi hN
    obtain ⟨N, rfl⟩ : ∃ M, N = M + 1 := ⟨N - 1, by omega⟩
    have hp := isPart_ok hW hT hO (i := i) (j := i) ha hb (by omega) (by omega)
    rw [lX9_isByParts_61.eq_2]
    by_cases q : on (pt T a i) = on (pt T b i)
    · rw [if_pos q] at hp
      obtain ⟨r, e1, e2⟩ := ih (i + 1) N (by omega) (by omega)
      refine ⟨r, ?_, ?_⟩
      · simp (disch := omega) only [inb_t, gd_t, rd_nI, e3, nI_leI, if_neg, lit, nI_eq, hp, bp_s, bnd_s, nI_add]
        exact e1
      · rcases e2 with ⟨e2, e4⟩ | ⟨e2, e4⟩
        · refine Or.inl ⟨e2, fun j h1 h2 => ?_⟩
          rcases Nat.eq_or_lt_of_le h1 with rfl | h1
          · exact q
          · exact e4 j h1 h2
        · exact Or.inr ⟨e2, fun h => e4 fun j h1 h2 => h j (by omega) h2⟩
    · rw [if_neg q] at hp
      refine ⟨0, ?_, Or.inr ⟨rfl, fun h => q (h i (Nat.le_refl _) (by omega))⟩⟩
      obtain ⟨M, rfl⟩ : ∃ M, N = M + 1 := ⟨N - 1, by omega⟩
      simp (disch := omega) only [inb_t, gd_t, rd_nI, e3, nI_leI, if_neg, lit, nI_eq, hp, bp_s, bnd_s, nI_add]
      rw [lX9_isByParts_61.eq_2]
      simp (disch := omega) only [inb_t, gd_t, rd_nI, e3, lit, if_true, ite_self]
theorem byParts_ok (hW : WT T) (hT : MT T z) (hO : MO T.length on z) {a b : Nat} (ha : a < T.length) (hb : b < T.length) : ∃ r, fX9_isByParts z (nI a) (nI b) = some (nI r) ∧ ((r = 1 ∧ ByP T (Rq on) a b) ∨ (r = 0 ∧ ¬ ByP T (Rq on) a b)) := by
  have hT1 := hW.1
  have sa := (hW.2 a ha).1
  have sb := (hW.2 b hb).1
  obtain ⟨a1, a2, a3, a4⟩ := hT.2 a ha
  obtain ⟨b1, b2, b3, b4⟩ := hT.2 b hb
  unfold fX9_isByParts
  simp (disch := omega) only [inb_t, gd_t, rd_nI, a1, a2, a3, b1, b2, b3, lit, nI_eq]
  by_cases q0 : sz T a = 0
  · rw [if_pos q0]
    exact ⟨0, rfl, Or.inr ⟨rfl, fun h => by have := h.1; omega⟩⟩
  · rw [if_neg q0]
    by_cases q1 : kd T a = kd T b
    · rw [if_pos q1]
      by_cases q2 : sh T a = sh T b
      · rw [if_pos q2]
        by_cases q3 : sz T a = sz T b
        · rw [if_pos q3]
          obtain ⟨r, e1, e2⟩ := byParts_loop hW hT hO ha hb q3 (k93 := jX9_isByParts_93 z (nI a) (nI b)) (sz T a) 0 FU (by omega) (by have := FU_ge; omega)
          rw [e1]
          rcases e2 with ⟨rfl, e2⟩ | ⟨rfl, e2⟩
          · refine ⟨1, ?_, Or.inl ⟨rfl, by omega, q1, q2, q3, Or.inl fun i hi => e2 i (Nat.zero_le _) hi⟩⟩
            unfold jX9_isByParts_93
            simp (disch := omega) only [lit, nI_eq, if_neg]
          · unfold jX9_isByParts_93
            simp (disch := omega) only [lit, if_true, inb_t, gd_t, rd_nI, a1]
            by_cases q4 : kd T a = nI 4
            · rw [if_pos q4]
              have s2 : sz T a = 2 := (hW.2 a ha).2.2.2.1 q4
              rw [isPart_ok hW hT hO (i := 0) (j := 1) ha hb (by omega) (by omega), bp_s]
              by_cases q5 : on (pt T a 0) = on (pt T b 1)
              · simp (disch := omega) only [q5, if_true, nI_eq, if_neg]
                rw [isPart_ok hW hT hO (i := 1) (j := 0) ha hb (by omega) (by omega), bp_s]
                by_cases q6 : on (pt T a 1) = on (pt T b 0)
                · simp (disch := omega) only [q6, if_true, nI_eq, if_neg]
                  exact ⟨1, rfl, Or.inl ⟨rfl, by omega, q1, q2, q3, Or.inr ⟨q4, q5, q6⟩⟩⟩
                · simp (disch := omega) only [q6, if_false, if_true]
                  refine ⟨0, rfl, Or.inr ⟨rfl, fun h => ?_⟩⟩
                  rcases h.2.2.2.2 with h | ⟨_, _, h⟩
                  · exact e2 fun j _ hj => h j hj
                  · exact q6 h
              · simp (disch := omega) only [q5, if_false, if_true]
                refine ⟨0, rfl, Or.inr ⟨rfl, fun h => ?_⟩⟩
                rcases h.2.2.2.2 with h | ⟨_, h, _⟩
                · exact e2 fun j _ hj => h j hj
                · exact q5 h
            · rw [if_neg q4]
              refine ⟨0, rfl, Or.inr ⟨rfl, fun h => ?_⟩⟩
              rcases h.2.2.2.2 with h | ⟨h, _, _⟩
              · exact e2 fun j _ hj => h j hj
              · exact q4 h
        · rw [if_neg q3]
          exact ⟨0, rfl, Or.inr ⟨rfl, fun h => q3 h.2.2.2.1⟩⟩
      · rw [if_neg q2]
        exact ⟨0, rfl, Or.inr ⟨rfl, fun h => q2 h.2.2.1⟩⟩
    · rw [if_neg q1]
      exact ⟨0, rfl, Or.inr ⟨rfl, fun h => q1 h.2.1⟩⟩
/-- of a and b all has been drawn -/
def Chk (T : List Tm) (on : Nat → Nat) (a b : Nat) : Prop := (ByP T (Rq on) a b → on a = on b) ∧ (kd T a = nI 3 → kd T b = nI 3 → on a = on b → on (pt T a 0) = on (pt T b 0) ∧ on (pt T a 1) = on (pt T b 1))
theorem looks_rows (hW : WT T) {a b : Nat} (ha : a < T.length) (hb : b < T.length) (ka : kd T a = nI 3) (kb : kd T b = nI 3) {k142 : Int32 → fS → Option (Int32 × fS)} : ∀ (d i N fl : Nat) (on : Nat → Nat) (z : fS), i + d = 2 → d < N → MT T z → MO T.length on z → Snd T T.length E on → on a = on b → (fl = 0 ∨ fl = 1) → ∃ fl' on' z', lX9_looks_89 k142 (nI a) (nI b) N (nI fl) (nI i) z = k142 (nI fl') z' ∧ MSt T T.length E on fl z on' fl' z' ∧ (∀ j, i ≤ j → j < 2 → on' (pt T a j) = on' (pt T b j)) := by
  have hT1 := hW.1
  have sa : sz T a = 2 := (hW.2 a ha).2.2.1 ka
  have sb : sz T b = 2 := (hW.2 b hb).2.2.1 kb
  intro d
  induction d with
  | zero =>
    intro i N fl on z hi hN hT hO hs hab hf
    obtain ⟨N, rfl⟩ : ∃ M, N = M + 1 := ⟨N - 1, by omega⟩
    refine ⟨fl, on, z, ?_, MSt.rf hO hs hf, fun j h1 h2 => by omega⟩
    rw [lX9_looks_89.eq_2]
    simp (disch := omega) only [lit, nI_leI, if_pos]
  | succ d ih =>
    intro i N fl on z hi hN hT hO hs hab hf
    obtain ⟨N, rfl⟩ : ∃ M, N = M + 1 := ⟨N - 1, by omega⟩
    have hp := isPart_ok hW hT hO (i := i) (j := i) ha hb (by omega) (by omega)
    have pa := (hW.2 a ha).2.1 i (by omega)
    have pb := (hW.2 b hb).2.1 i (by omega)
    have ea := (hT.2 a ha).2.2.2 i (by omega)
    have eb := (hT.2 b hb).2.2.2 i (by omega)
    rw [lX9_looks_89.eq_2]
    by_cases q : on (pt T a i) = on (pt T b i)
    · rw [if_pos q] at hp
      obtain ⟨fl', on', z', e1, e2, e3⟩ := ih (i + 1) N fl on z (by omega) (by omega) hT hO hs hab hf
      refine ⟨fl', on', z', ?_, e2, fun j h1 h2 => ?_⟩
      · simp (disch := omega) only [lit, nI_leI, if_neg, hp, bp_s, nI_eq, bnd_s, nI_add]
        exact e1
      · rcases Nat.eq_or_lt_of_le h1 with rfl | h1
        · exact e2.2.2.2.1 _ _ q
        · exact e3 j h1 h2
    · rw [if_neg q] at hp
      have orow := One.row ha hb ka kb (hs a b ha hb hab)
      have opi : One T T.length E (pt T a i) (pt T b i) := by
        rcases (show i = 0 ∨ i = 1 by omega) with rfl | rfl
        · exact orow.1
        · exact orow.2
      obtain ⟨z1, on1, f1, f2, f3⟩ := merge_stp (fl := fl) hT1 hT.1 hO hs (show pt T a i < T.length by omega) (show pt T b i < T.length by omega) q opi
      have hT' : MT T z1 := hT.fr (by rw [f2.2.1 0 (by omega)]) fun j h1 h2 => f2.2.1 j (by omega)
      obtain ⟨fl', on', z', e1, e2, e3⟩ := ih (i + 1) N 1 on1 z1 (by omega) (by omega) hT' f2.1 f2.2.2.1 (f2.2.2.2.1 _ _ hab) (Or.inr rfl)
      refine ⟨fl', on', z', ?_, f2.tr e2, fun j h1 h2 => ?_⟩
      · simp (disch := omega) only [lit, nI_leI, if_neg, hp, bp_s, if_true, nI_mul, nI_add, inb_t, gd_t, rd_nI, ea, eb, f1, bnd_s]
        exact e1
      · rcases Nat.eq_or_lt_of_le h1 with rfl | h1
        · exact e2.2.2.2.1 _ _ f3
        · exact e3 j h1 h2
theorem looks_in (hW : WT T) {a : Nat} (ha : a < T.length) {k148 : Int32 → fS → Option (Int32 × fS)} : ∀ (d b N fl : Nat) (on : Nat → Nat) (z : fS), b + d = a → d < N → MT T z → MO T.length on z → Snd T T.length E on → (fl = 0 ∨ fl = 1) → ∃ fl' on' z', lX9_looks_14 k148 (nI a) N (nI fl) (nI b) z = k148 (nI fl') z' ∧ MSt T T.length E on fl z on' fl' z' ∧ (fl' = 0 → ∀ c, b ≤ c → c < a → Chk T on a c) := by
  have hT1 := hW.1
  intro d
  induction d with
  | zero =>
    intro b N fl on z hb hN hT hO hs hf
    obtain ⟨N, rfl⟩ : ∃ M, N = M + 1 := ⟨N - 1, by omega⟩
    refine ⟨fl, on, z, ?_, MSt.rf hO hs hf, fun _ c h1 h2 => by omega⟩
    rw [lX9_looks_14.eq_2]
    simp (disch := omega) only [nI_leI, if_pos]
  | succ d ih =>
    intro b N fl on z hb hN hT hO hs hf
    obtain ⟨N, rfl⟩ : ∃ M, N = M + 1 := ⟨N - 1, by omega⟩
    have hbl : b < T.length := by omega
    -- the second half: rows
    have half : ∀ (fl : Nat) (on : Nat → Nat) (z : fS), MT T z → MO T.length on z → Snd T T.length E on → (fl = 0 ∨ fl = 1) → ∃ fl' on' z', jX9_looks_51 (lX9_looks_14 k148 (nI a) N) k148 (nI fl) (nI a) (nI b) z = lX9_looks_14 k148 (nI a) N (nI fl') (nI (b + 1)) z' ∧ MSt T T.length E on fl z on' fl' z' ∧ (kd T a = nI 3 → kd T b = nI 3 → on a = on b → on' (pt T a 0) = on' (pt T b 0) ∧ on' (pt T a 1) = on' (pt T b 1)) := by
      intro fl on z hT hO hs hf
      have oa := hO a ha
      have ob := hO b hbl
      obtain ⟨a1, _⟩ := hT.2 a ha
      obtain ⟨b1, _⟩ := hT.2 b hbl
      unfold jX9_looks_51
      simp (disch := omega) only [inb_t, gd_t, rd_nI, oa.1, ob.1, nI_eq, a1, b1, lit]
      by_cases q1 : on a = on b
      · rw [if_pos q1]
        by_cases q2 : kd T a = nI 3
        · rw [if_pos q2]
          by_cases q3 : kd T b = nI 3
          · rw [if_pos q3]
            obtain ⟨fl', on', z', e1, e2, e3⟩ := looks_rows hW ha hbl q2 q3 (k142 := jX9_looks_142 (lX9_looks_14 k148 (nI a) N) k148 (nI a) (nI b)) 2 0 FU fl on z (by omega) (by have := FU_ge; omega) hT hO hs q1 hf
            refine ⟨fl', on', z', ?_, e2, fun _ _ _ => ⟨e3 0 (by omega) (by omega), e3 1 (by omega) (by omega)⟩⟩
            rw [e1]
            unfold jX9_looks_142
            simp only [bnd_s, lit, nI_add]
          · rw [if_neg q3]
            refine ⟨fl, on, z, ?_, MSt.rf hO hs hf, fun _ k _ => absurd k q3⟩
            unfold jX9_looks_142
            simp only [bnd_s, lit, nI_add]
        · rw [if_neg q2]
          refine ⟨fl, on, z, ?_, MSt.rf hO hs hf, fun k _ _ => absurd k q2⟩
          unfold jX9_looks_142
          simp only [bnd_s, lit, nI_add]
      · rw [if_neg q1]
        refine ⟨fl, on, z, ?_, MSt.rf hO hs hf, fun _ _ k => absurd k q1⟩
        unfold jX9_looks_142
        simp only [bnd_s, lit, nI_add]
    have oa := hO a ha
    have ob := hO b hbl
    -- behind the first half
    have fin : ∀ (fl1 : Nat) (on1 : Nat → Nat) (z1 : fS), MSt T T.length E on fl z on1 fl1 z1 → (fl1 = 0 → ByP T (Rq on) a b → on a = on b) → ∃ fl' on' z', jX9_looks_51 (lX9_looks_14 k148 (nI a) N) k148 (nI fl1) (nI a) (nI b) z1 = k148 (nI fl') z' ∧ MSt T T.length E on fl z on' fl' z' ∧ (fl' = 0 → ∀ c, b ≤ c → c < a → Chk T on a c) := by
      intro fl1 on1 z1 hst hby
      have hT' : MT T z1 := hT.fr (by rw [hst.2.1 0 (by omega)]) fun j h1 h2 => hst.2.1 j (by omega)
      have hf1 : fl1 = 0 ∨ fl1 = 1 := by
        rcases hst.2.2.2.2 with ⟨q, _⟩ | ⟨q, _⟩
        · exact Or.inl q
        · exact Or.inr q
      obtain ⟨fl2, on2, z2, g1, g2, g3⟩ := half fl1 on1 z1 hT' hst.1 hst.2.2.1 hf1
      have hT2 : MT T z2 := hT'.fr (by rw [g2.2.1 0 (by omega)]) fun j h1 h2 => g2.2.1 j (by omega)
      have hf2 : fl2 = 0 ∨ fl2 = 1 := by
        rcases g2.2.2.2.2 with ⟨q, _⟩ | ⟨q, _⟩
        · exact Or.inl q
        · exact Or.inr q
      obtain ⟨fl', on', z', i1, i2, i3⟩ := ih (b + 1) N fl2 on2 z2 (by omega) (by omega) hT2 g2.1 g2.2.2.1 hf2
      refine ⟨fl', on', z', by rw [g1]; exact i1, (hst.tr g2).tr i2, fun h0 c h1 h2 => ?_⟩
      have e2 : fl2 = 0 ∧ on' = on2 := by
        rcases i2.2.2.2.2 with ⟨_, q, q2, _⟩ | ⟨q, _⟩
        · exact ⟨q, q2⟩
        · omega
      have e1 : fl1 = 0 ∧ on2 = on1 := by
        rcases g2.2.2.2.2 with ⟨_, q, q2, _⟩ | ⟨q, _⟩
        · exact ⟨q, q2⟩
        · omega
      have e0 : on1 = on := by
        rcases hst.2.2.2.2 with ⟨_, _, q2, _⟩ | ⟨q, _⟩
        · exact q2
        · omega
      rcases Nat.eq_or_lt_of_le h1 with rfl | h1
      · refine ⟨hby e1.1, fun ka kb hab => ?_⟩
        have := g3 ka kb (by rw [e0]; exact hab)
        rw [e1.2, e0] at this
        exact this
      · have := i3 h0 c h1 h2
        rw [e1.2, e0] at this
        exact this
    rw [lX9_looks_14.eq_2]
    simp (disch := omega) only [nI_leI, if_neg, inb_t, gd_t, rd_nI, oa.1, ob.1, nI_eq]
    by_cases q : on a = on b
    · rw [if_pos q]
      exact fin fl on z (MSt.rf hO hs hf) (fun _ _ => q)
    · rw [if_neg q]
      obtain ⟨r, e1, e2⟩ := byParts_ok hW hT hO ha hbl
      rw [e1, bp_s]
      rcases e2 with ⟨rfl, e2⟩ | ⟨rfl, e2⟩
      · have hby : One T T.length E a b := by
          refine One.cong ha hbl (ByP.mono (fun x y e => hs x y e.1 e.2.1 e.2.2) (show ByP T (fun x y => x < T.length ∧ y < T.length ∧ on x = on y) a b from ?_))
          obtain ⟨g0, g1, g2, g3, g4⟩ := e2
          have wt := (hW.2 a ha).2.1
          have wu := (hW.2 b hbl).2.1
          refine ⟨g0, g1, g2, g3, ?_⟩
          rcases g4 with g4 | ⟨g4, g5, g6⟩
          · refine Or.inl fun i hi => ⟨by have := wt i hi; omega, by have := wu i (by omega); omega, g4 i hi⟩
          · have s2' : sz T a = 2 := (hW.2 a ha).2.2.2.1 g4
            have := wt 0 (by omega); have := wt 1 (by omega); have := wu 0 (by omega); have := wu 1 (by omega)
            exact Or.inr ⟨g4, ⟨by omega, by omega, g5⟩, ⟨by omega, by omega, g6⟩⟩
        obtain ⟨z1, on1, f1, f2, f3⟩ := merge_stp (fl := fl) hT1 hT.1 hO hs ha hbl q hby
        simp (disch := omega) only [lit, nI_eq, if_neg, f1, bp_s]
        exact fin 1 on1 z1 f2 (fun h => by omega)
      · simp (disch := omega) only [lit, if_true]
        exact fin fl on z (MSt.rf hO hs hf) (fun _ h => absurd h e2)
theorem looks_out (hW : WT T) : ∀ (d a N fl : Nat) (on : Nat → Nat) (z : fS), a + d = T.length → d < N → MT T z → MO T.length on z → Snd T T.length E on → (fl = 0 ∨ fl = 1) → ∃ fl' on' z', lX9_looks_4 N (nI fl) (nI a) z = some (nI fl', z') ∧ MSt T T.length E on fl z on' fl' z' ∧ (fl' = 0 → ∀ c e, a ≤ c → c < T.length → e < c → Chk T on c e) := by
  have hT1 := hW.1
  intro d
  induction d with
  | zero =>
    intro a N fl on z ha hN hT hO hs hf
    obtain ⟨N, rfl⟩ : ∃ M, N = M + 1 := ⟨N - 1, by omega⟩
    refine ⟨fl, on, z, ?_, MSt.rf hO hs hf, fun _ c e h1 h2 => by omega⟩
    rw [lX9_looks_4.eq_2]
    have hb : isb (nI fl) = true := by rcases hf with rfl | rfl; exact isb_0; exact isb_1
    simp (disch := omega) only [hT.1, nI_leI, if_pos, hb, gd_t]
  | succ d ih =>
    intro a N fl on z ha hN hT hO hs hf
    obtain ⟨N, rfl⟩ : ∃ M, N = M + 1 := ⟨N - 1, by omega⟩
    obtain ⟨fl1, on1, z1, e1, e2, e3⟩ := looks_in hW (show a < T.length by omega) (k148 := jX9_looks_148 (lX9_looks_4 N) (nI a)) a 0 FU fl on z (by omega) (by have := FU_ge; omega) hT hO hs hf
    have hT' : MT T z1 := hT.fr (by rw [e2.2.1 0 (by omega)]) fun j h1 h2 => e2.2.1 j (by omega)
    have hf1 : fl1 = 0 ∨ fl1 = 1 := by
      rcases e2.2.2.2.2 with ⟨q, _⟩ | ⟨q, _⟩
      · exact Or.inl q
      · exact Or.inr q
    obtain ⟨fl', on', z', i1, i2, i3⟩ := ih (a + 1) N fl1 on1 z1 (by omega) (by omega) hT' e2.1 e2.2.2.1 hf1
    refine ⟨fl', on', z', ?_, e2.tr i2, fun h0 c e h1 h2 h3 => ?_⟩
    · rw [lX9_looks_4.eq_2]
      simp (disch := omega) only [hT.1, nI_leI, if_neg, lit]
      rw [e1]
      unfold jX9_looks_148
      simp only [bnd_s, lit, nI_add]
      exact i1
    · have q1 : fl1 = 0 := by
        rcases i2.2.2.2.2 with ⟨_, q, _⟩ | ⟨q, _⟩
        · exact q
        · omega
      have q0 : on1 = on := by
        rcases e2.2.2.2.2 with ⟨_, _, q2, _⟩ | ⟨q, _⟩
        · exact q2
        · omega
      rcases Nat.eq_or_lt_of_le h1 with rfl | h1
      · exact e3 q1 e (Nat.zero_le _) h3
      · have := i3 h0 c e h1 h2 h3
        rw [q0] at this
        exact this
end LOOK
