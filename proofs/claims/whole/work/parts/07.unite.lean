/-! the class's terms, as its arrays hold them -/
def HT (T : List Tm) (z : fS) : Prop :=
  z 1 9 = nI T.length ∧ ∀ t, t < T.length → z 2 t = kd T t ∧ z 3 t = sh T t ∧ z 4 t = nI (sz T t) ∧ ∀ i, i < 3 → z 5 (3 * t + i) = if i < sz T t then nI (pt T t i) else -1
/-- the places at which a term stands as a part -/
def HPl (T : List Tm) (z : fS) : Prop :=
  ∀ t, t < T.length → ∃ pl : List Nat, Lst (z 10) (z 9 t) pl ∧ pl.length ≤ 360 ∧ ∀ p, p ∈ pl ↔ p / 3 < T.length ∧ p % 3 < sz T (p / 3) ∧ pt T (p / 3) (p % 3) = t
theorem HT.fr {T : List Tm} {z z' : fS} (h : HT T z) (e : ∀ j, j < 11 → z' j = z j) : HT T z' := by
  unfold HT
  rw [e 1 (by omega), e 2 (by omega), e 3 (by omega), e 4 (by omega), e 5 (by omega)]
  exact h
theorem HPl.fr {T : List Tm} {z z' : fS} (h : HPl T z) (e : ∀ j, j < 11 → z' j = z j) : HPl T z' := by
  unfold HPl
  rw [e 9 (by omega), e 10 (by omega)]
  exact h
theorem m1_eq : ((-1 : Int32) = -1) ↔ True := ⟨fun _ => trivial, fun _ => rfl⟩
theorem nI_div {a : Nat} (h : a < 2 ^ 31) : nI a / nI 3 = nI (a / 3) := pk_div h (by omega) (by omega)
theorem places_loop {pb k : Nat} (hp : isPb pb) (hk : k ≤ 120) {Q : List (Nat × Nat)} {k91 : fS → Option fS} {v1 v2 v3 v4 : Int32} : ∀ (pl : List Nat) (z : fS) (C : List Nat) (h : Int32) (s N : Nat), Lst (z 10) h pl → (∀ p, p ∈ pl → p < 360) → s + pl.length ≤ 360 → pl.length < N → HA C Q z → z pb 11 = nI k →
    ∃ z' C', lX4_unite_37 pb k91 v1 v2 v3 v4 N h (nI s) z = k91 z' ∧ HA C' Q z' ∧ (∀ u, u ∈ C' ↔ u ∈ C ∨ (u < k ∧ ∃ p, p ∈ pl ∧ p / 3 = u)) ∧ (∀ j, j ≠ 23 → j ≠ 26 → j ≠ 27 → z' j = z j)
  | [], z, C, h, s, N, hL, hb, hs, hN, hA, hk1 => by
    obtain ⟨N, rfl⟩ : ∃ M, N = M + 1 := ⟨N - 1, by omega⟩
    have hh : h = -1 := hL
    subst hh
    refine ⟨z, C, ?_, hA, by simp, fun _ _ _ _ => rfl⟩
    rw [lX4_unite_37.eq_2]
    by_cases q : 360 ≤ s
    · simp (disch := omega) only [lit, nI_leI, if_pos]
    · simp (disch := omega) only [lit, nI_leI, if_neg, if_true]
  | x :: pl, z, C, h, s, N, hL, hb, hs, hN, hA, hk1 => by
    obtain ⟨N, rfl⟩ : ∃ M, N = M + 1 := ⟨N - 1, by omega⟩
    simp only [List.length_cons] at hs hN
    obtain ⟨rfl, hL⟩ := hL
    have hx := hb x List.mem_cons_self
    have hb' : ∀ p, p ∈ pl → p < 360 := fun p hp => hb p (List.mem_cons_of_mem _ hp)
    rw [lX4_unite_37.eq_2]
    by_cases q : k ≤ x / 3
    · obtain ⟨z', C', e1, e2, e3, e4⟩ := places_loop hp hk (k91 := k91) (v1 := v1) (v2 := v2) (v3 := v3) (v4 := v4) pl z C (z 10 x) (s + 1) N hL hb' (by omega) (by omega) hA hk1
      refine ⟨z', C', ?_, e2, fun u => ?_, e4⟩
      · simp (disch := omega) only [lit, litm, nI_leI, if_neg, nI_m1n, not_false_eq_true, nI_div, hk1, if_pos, inb_t, gd_t, rd_nI, bnd_s, nI_add, if_false, if_true]
        exact e1
      · rw [e3 u]
        constructor
        · rintro (h | ⟨h1, p, h2, h3⟩)
          · exact Or.inl h
          · exact Or.inr ⟨h1, p, List.mem_cons_of_mem _ h2, h3⟩
        · rintro (h | ⟨h1, p, h2, h3⟩)
          · exact Or.inl h
          · rcases List.mem_cons.mp h2 with rfl | h2
            · omega
            · exact Or.inr ⟨h1, p, h2, h3⟩
    · obtain ⟨z1, f1, f2, f3⟩ := putChanged_ok (u := x / 3) hA (by omega)
      have g10 : z1 10 = z 10 := f3 10 (by omega) (by omega) (by omega)
      have gpb : z1 pb = z pb := f3 pb (by rcases hp with rfl | rfl | rfl <;> omega) (by rcases hp with rfl | rfl | rfl <;> omega) (by rcases hp with rfl | rfl | rfl <;> omega)
      obtain ⟨z', C', e1, e2, e3, e4⟩ := places_loop hp hk (k91 := k91) (v1 := v1) (v2 := v2) (v3 := v3) (v4 := v4) pl z1 (addC C (x / 3)) (z1 10 x) (s + 1) N (by rw [g10]; exact hL) hb' (by omega) (by omega) f2 (by rw [gpb]; exact hk1)
      refine ⟨z', C', ?_, e2, fun u => ?_, fun j a b c => (e4 j a b c).trans (f3 j a b c)⟩
      · simp (disch := omega) only [lit, litm, nI_leI, if_neg, nI_m1n, not_false_eq_true, nI_div, hk1, f1, bp_s, inb_t, gd_t, rd_nI, bnd_s, nI_add, if_false, if_true]
        exact e1
      · rw [e3 u]
        have ha : u ∈ addC C (x / 3) ↔ u ∈ C ∨ u = x / 3 := by
          unfold addC
          split
          · constructor
            · exact Or.inl
            · rintro (h | rfl)
              · exact h
              · assumption
          · simp
        rw [ha]
        constructor
        · rintro ((h | h) | ⟨h1, p, h2, h3⟩)
          · exact Or.inl h
          · exact Or.inr ⟨by omega, x, List.mem_cons_self, h.symm⟩
          · exact Or.inr ⟨h1, p, List.mem_cons_of_mem _ h2, h3⟩
        · rintro (h | ⟨h1, p, h2, h3⟩)
          · exact Or.inl (Or.inl h)
          · rcases List.mem_cons.mp h2 with rfl | h2
            · exact Or.inl (Or.inr h3.symm)
            · exact Or.inr ⟨h1, p, h2, h3⟩
theorem isPb.ne {pb : Nat} (h : isPb pb) : pb ≠ 23 ∧ pb ≠ 26 ∧ pb ≠ 27 ∧ 28 ≤ pb := by rcases h with rfl | rfl | rfl <;> omega
theorem unite_loop {pb k keep lose s : Nat} {T : List Tm} (hp : isPb pb) (hk : k ≤ T.length) (hW : WT T) (hl : lose < 120) {Q : List (Nat × Nat)} {k104 : fS → Option fS} : ∀ (l : List Nat) (t i : Nat) (z : fS) (C : List Nat) (N : Nat), Pth (z (pb + 2)) t l lose → (∀ x, x ∈ t :: l → x < k) → i + l.length + 1 = s → s ≤ 120 → z (pb + 3) lose = nI s → HPl T z → HA C Q z → z pb 11 = nI k → l.length + 1 < N →
    ∃ z' C', lX4_unite_5 pb k104 (nI keep) (nI lose) N (nI t) (nI i) z = k104 z' ∧ z' (pb + 1) = (fun j => if j ∈ t :: l then nI keep else z (pb + 1) j) ∧ HA C' Q z' ∧ (∀ u, u ∈ C' ↔ u ∈ C ∨ (u < k ∧ ∃ i, i < sz T u ∧ pt T u i ∈ t :: l)) ∧ (∀ j, j ≠ 23 → j ≠ 26 → j ≠ 27 → j ≠ pb + 1 → z' j = z j) := by
  have hpn := hp.ne
  have hT := hW.1
  have main : ∀ (t i : Nat) (z : fS) (C : List Nat) (N : Nat), t < k → i < s → s ≤ 120 → z (pb + 3) lose = nI s → HPl T z → HA C Q z → z pb 11 = nI k → 
      ∃ z1 C1, lX4_unite_5 pb k104 (nI keep) (nI lose) (N + 1) (nI t) (nI i) z = jX4_unite_91 pb (lX4_unite_5 pb k104 (nI keep) (nI lose) N) k104 (nI keep) (nI lose) (nI t) (nI i) z1 ∧ z1 (pb + 1) = (fun j => if j = t then nI keep else z (pb + 1) j) ∧ HA C1 Q z1 ∧ (∀ u, u ∈ C1 ↔ u ∈ C ∨ (u < k ∧ ∃ i, i < sz T u ∧ pt T u i = t)) ∧ (∀ j, j ≠ 23 → j ≠ 26 → j ≠ 27 → j ≠ pb + 1 → z1 j = z j) := by
    intro t i z C N ht hi hs hs3 hPl hA hk1
    obtain ⟨pl, p1, p2, p3⟩ := hPl t (by omega)
    have hb : ∀ p, p ∈ pl → p < 360 := fun p hp => by
      have := ((p3 p).mp hp).1
      omega
    have hA' : HA C Q (wrr z (pb + 1) (upd (z (pb + 1)) t (nI keep))) := by
      unfold HA
      simp (disch := omega) only [wrr_n]
      exact hA
    obtain ⟨z1, C1, e1, e2, e3, e4⟩ := places_loop hp (show k ≤ 120 by omega) (k91 := jX4_unite_91 pb (lX4_unite_5 pb k104 (nI keep) (nI lose) N) k104 (nI keep) (nI lose) (nI t) (nI i)) (v1 := nI keep) (v2 := nI lose) (v3 := nI t) (v4 := nI i) pl (wrr z (pb + 1) (upd (z (pb + 1)) t (nI keep))) C (z 9 t) 0 FU (by rw [wrr_n (by omega)]; exact p1) hb (by omega) (by have := FU_ge; omega) hA' (by rw [wrr_n (by omega)]; exact hk1)
    refine ⟨z1, C1, ?_, ?_, e2, ?_, ?_⟩
    · rw [lX4_unite_5.eq_2]
      simp (disch := omega) only [inb_t, gd_t, rd_nI, hs3, nI_leI, if_neg, wr_nI, bnd_s, wrr_n]
      exact e1
    · rw [e4 (pb + 1) (by omega) (by omega) (by omega), wrr_e]
      funext j
      by_cases h : j = t
      · simp [upd, h]
      · simp [upd, h]
    · intro u
      rw [e3 u]
      constructor
      · rintro (h | ⟨h1, p, h2, h3⟩)
        · exact Or.inl h
        · obtain ⟨g1, g2, g3⟩ := (p3 p).mp h2
          rw [h3] at g2 g3
          exact Or.inr ⟨h1, p % 3, g2, g3⟩
      · rintro (h | ⟨h1, i, h2, h3⟩)
        · exact Or.inl h
        · have h4 := (hW.2 u (by omega)).1
          refine Or.inr ⟨h1, 3 * u + i, (p3 _).mpr ⟨?_, ?_, ?_⟩, by omega⟩
          · omega
          · rw [show (3 * u + i) / 3 = u by omega, show (3 * u + i) % 3 = i by omega]; exact h2
          · rw [show (3 * u + i) / 3 = u by omega, show (3 * u + i) % 3 = i by omega]; exact h3
    · intro j a b c d
      rw [e4 j a b c, wrr_n d]
  intro l
  induction l with
  | nil =>
    intro t i z C N hP hx hi hs hs3 hPl hA hk1 hN
    obtain ⟨N, rfl⟩ : ∃ M, N = M + 2 := ⟨N - 2, by simp at hN; omega⟩
    simp only [List.length_nil] at hi
    have ht := hx t List.mem_cons_self
    obtain ⟨z1, C1, e1, e2, e3, e4, e5⟩ := main t i z C (N + 1) ht (by omega) hs hs3 hPl hA hk1
    refine ⟨z1, C1, ?_, ?_, e3, ?_, e5⟩
    · rw [e1]
      unfold jX4_unite_91
      have hn : z1 (pb + 2) t = nI lose := by rw [e5 _ (by omega) (by omega) (by omega) (by omega)]; exact hP
      have h3 : z1 (pb + 3) lose = nI s := by rw [e5 _ (by omega) (by omega) (by omega) (by omega)]; exact hs3
      simp (disch := omega) only [inb_t, gd_t, rd_nI, bnd_s, hn, lit, nI_add]
      rw [lX4_unite_5.eq_2]
      simp (disch := omega) only [inb_t, gd_t, rd_nI, h3, nI_leI, if_pos]
    · rw [e2]
      funext j
      simp
    · intro u
      rw [e4 u]
      simp
  | cons x l ih =>
    intro t i z C N hP hx hi hs hs3 hPl hA hk1 hN
    obtain ⟨N, rfl⟩ : ∃ M, N = M + 1 := ⟨N - 1, by omega⟩
    simp only [List.length_cons] at hi hN
    have ht := hx t List.mem_cons_self
    obtain ⟨z1, C1, e1, e2, e3, e4, e5⟩ := main t i z C N ht (by omega) hs hs3 hPl hA hk1
    have f2 : z1 (pb + 2) = z (pb + 2) := e5 _ (by omega) (by omega) (by omega) (by omega)
    obtain ⟨z', C', g1, g2, g3, g4, g5⟩ := ih x (i + 1) z1 C1 N (by rw [f2]; exact hP.2) (fun y hy => hx y (List.mem_cons_of_mem _ hy)) (by omega) hs (by rw [e5 _ (by omega) (by omega) (by omega) (by omega)]; exact hs3) (hPl.fr fun j hj => e5 j (by omega) (by omega) (by omega) (by omega)) e3 (by rw [e5 _ (by omega) (by omega) (by omega) (by omega)]; exact hk1) (by omega)
    refine ⟨z', C', ?_, ?_, g3, ?_, fun j a b c d => (g5 j a b c d).trans (e5 j a b c d)⟩
    · rw [e1]
      unfold jX4_unite_91
      have hn : z1 (pb + 2) t = nI x := by rw [f2]; exact hP.1
      have hxk := hx x (List.mem_cons_of_mem _ List.mem_cons_self)
      simp (disch := omega) only [inb_t, gd_t, rd_nI, bnd_s, hn, lit, nI_add]
      exact g1
    · rw [g2]
      funext j
      by_cases h1 : j ∈ x :: l
      · rw [if_pos h1, if_pos (List.mem_cons_of_mem _ h1)]
      · rw [if_neg h1, e2]
        by_cases h2 : j = t
        · subst h2; simp
        · simp [h2, h1]
    · intro u
      rw [g4 u, e4 u]
      constructor
      · rintro ((h | ⟨h1, i, h2, h3⟩) | ⟨h1, i, h2, h3⟩)
        · exact Or.inl h
        · exact Or.inr ⟨h1, i, h2, by rw [h3]; exact List.mem_cons_self⟩
        · exact Or.inr ⟨h1, i, h2, List.mem_cons_of_mem _ h3⟩
      · rintro (h | ⟨h1, i, h2, h3⟩)
        · exact Or.inl (Or.inl h)
        · rcases List.mem_cons.mp h3 with h3 | h3
          · exact Or.inl (Or.inr ⟨h1, i, h2, h3⟩)
          · exact Or.inr ⟨h1, i, h2, h3⟩
