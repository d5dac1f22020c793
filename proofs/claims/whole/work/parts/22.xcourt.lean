/-! the class's court -/
theorem JI.fr2 {T : List Tm} {E : Nat → Nat → Prop} {pb k : Nat} {ro : Nat → Nat} {z z' : fS} (h : JI T E pb k ro [] [] z) (hA : HA [] [] z') (e : ∀ j, j < 11 ∨ (pb ≤ j ∧ j ≤ pb + 9) → z' j = z j) : JI T E pb k ro [] [] z' := by
  obtain ⟨⟨hT, hPl, hS, hN0, hR, hH, _⟩, s1, s2, s3, s4, s5, s6, s7, s8⟩ := h
  refine ⟨⟨hT.fr fun j hj => e j (by omega), hPl.fr fun j hj => e j (by omega), hS.fr fun j h1 h2 => e j (by omega), hN0.fr fun j h1 h2 => e j (by omega), hR.fr (e _ (by omega)), hH.fr fun j h1 h2 => e j (by omega), hA⟩, s1, s2, s3, s4, ?_, ?_, ?_, ?_⟩
  · rw [e (pb + 6) (by omega)]; exact s5
  · rw [e (pb + 9) (by omega)]; exact s6
  · rw [e (pb + 9) (by omega)]; exact s7
  · rw [e (pb + 9) (by omega)]; exact s8
theorem JI.agenda {T : List Tm} {E : Nat → Nat → Prop} {pb k : Nat} {ro : Nat → Nat} {z : fS} (h : JI T E pb k ro [] [] z) : HA [] [] z := h.1.2.2.2.2.2.2
def XSy (S : List Sy) (tk : Nat → Bool) (z : fS) : Prop := z 11 5 = nI S.length ∧ z 11 6 = nI (cnt tk S.length) ∧ (∀ s, s < S.length → z 12 s = bI (sm S s) ∧ z 13 s = nI (sa S s) ∧ z 14 s = nI (sb S s)) ∧ ∀ s, s < 100 → z 15 s = bI (tk s)
/-- which partition stands, which one is for trials -/
def Pq (ps pt : Nat) (z : fS) : Prop := pcell (z 17 3) = ps ∧ pcell (z 17 4) = pt ∧ ((ps = 38 ∧ pt = 48) ∨ (ps = 48 ∧ pt = 38))
section XCO
variable {T : List Tm} {S : List Sy} {tk : Nat → Bool} {x : Option Sy} {z z' : fS} {E : Nat → Nat → Prop} {pb k ps pt : Nat} {ro : Nat → Nat}
theorem Pq.isS (h : Pq ps pt z) : isPb ps := by rcases h.2.2 with h | h; exact Or.inr (Or.inl h.1); exact Or.inr (Or.inr h.1)
theorem Pq.isT (h : Pq ps pt z) : isPb pt := by rcases h.2.2 with h | h; exact Or.inr (Or.inr h.2); exact Or.inr (Or.inl h.2)
theorem Pq.num (h : Pq ps pt z) : (ps = 38 ∧ pt = 48) ∨ (ps = 48 ∧ pt = 38) := h.2.2
theorem Pq.fr (h : Pq ps pt z) (e : z' 17 = z 17) : Pq ps pt z' := by
  unfold Pq; rw [e]; exact h
theorem XSy.fr (h : XSy S tk z) (e : ∀ j, 11 ≤ j → j ≤ 15 → z' j = z j) : XSy S tk z' := by
  unfold XSy
  rw [e 11 (by omega) (by omega), e 12 (by omega) (by omega), e 13 (by omega) (by omega), e 14 (by omega) (by omega), e 15 (by omega) (by omega)]
  exact h
theorem scount_ok (h : XSy S tk z) : fX5_count z = some (nI S.length) := by unfold fX5_count; rw [h.1]
theorem isTaken_ok (h : XSy S tk z) {s : Nat} (hs : s < 100) : fX5_isTaken z (nI s) = some (bI (tk s)) := by
  unfold fX5_isTaken
  have := h.2.2.2 s hs
  cases q : tk s
  · rw [q, bI_f] at this
    simp (disch := omega) only [inb_t, gd_t, rd_nI, this, lit, nI_eq, if_neg, bI_f]
  · rw [q, bI_t] at this
    simp (disch := omega) only [inb_t, gd_t, rd_nI, this, lit, if_true, bI_t]
theorem isb_bI (b : Bool) : isb (bI b) = true := by cases b; exact isb_0; exact isb_1
theorem isSame_ok (h : XSy S tk z) (hS : S.length ≤ 100) {s : Nat} (hs : s < S.length) : fX5_isSame z (nI s) = some (bI (sm S s)) := by
  unfold fX5_isSame
  have := (h.2.2.1 s hs).1
  simp (disch := omega) only [inb_t, gd_t, rd_nI, this, isb_bI]
theorem left_ok (h : XSy S tk z) (hS : S.length ≤ 100) {s : Nat} (hs : s < S.length) : fX5_left z (nI s) = some (nI (sa S s)) := by
  unfold fX5_left
  have := (h.2.2.1 s hs).2.1
  simp (disch := omega) only [inb_t, gd_t, rd_nI, this]
theorem right_ok (h : XSy S tk z) (hS : S.length ≤ 100) {s : Nat} (hs : s < S.length) : fX5_right z (nI s) = some (nI (sb S s)) := by
  unfold fX5_right
  have := (h.2.2.1 s hs).2.2
  simp (disch := omega) only [inb_t, gd_t, rd_nI, this]
theorem isOne_ok (hW : WT T) (h : JI T E pb T.length ro [] [] z) {a b : Nat} (ha : a < T.length) (hb : b < T.length) : ∃ r, fX4_isOne pb z (nI a) (nI b) = some (nI r) ∧ ((r = 1 ∧ One T T.length E a b) ∨ (r = 0 ∧ ¬ One T T.length E a b)) := by
  have hT1 := hW.1
  have hc := h.closed hW (Nat.le_refl _) a b ha hb
  have ra := h.1.2.2.1.2.2.1 a ha
  have rb := h.1.2.2.1.2.2.1 b hb
  unfold fX4_isOne
  simp (disch := omega) only [inb_t, gd_t, rd_nI, ra.1, rb.1, nI_eq, lit]
  by_cases q : ro a = ro b
  · rw [if_pos q]; exact ⟨1, rfl, Or.inl ⟨rfl, hc.mp q⟩⟩
  · rw [if_neg q]; exact ⟨0, rfl, Or.inr ⟨rfl, fun h => q (hc.mpr h)⟩⟩
theorem isTorn_ok (h : JI T E pb k ro [] [] z) : fX4_isTorn pb z = some (nI 0) := by
  unfold fX4_isTorn
  rw [h.1.2.2.2.1.1, isb_0, gd_t]
theorem isTorn_1 (h : z pb 13 = nI 1) : fX4_isTorn pb z = some (nI 1) := by
  unfold fX4_isTorn
  rw [h, isb_1, gd_t]
/-- not torn: no two numbers are one -/
theorem JI.nums (hW : WT T) (h : JI T E pb T.length ro [] [] z) {u v : Nat} (hu : u < T.length) (hv : v < T.length) (ku : kd T u = nI 1) (kv : kd T v = nI 1) (ho : One T T.length E u v) : u = v := by
  have e := (h.closed hW (Nat.le_refl _) u v hu hv).mpr ho
  have ru := h.1.2.2.1.2.2.1 u hu
  rcases h.1.2.2.2.1.2 (ro u) ru.2.1 ru.2.2 with ⟨_, q⟩ | ⟨w, _, _, _, _, q⟩
  · exact absurd ku (q u hu rfl)
  · rw [q u hu rfl ku, q v hv e.symm kv]
theorem EX_some {I : Nat → Prop} {a b : Nat} : (fun x y => EX S I none x y ∨ (x = a ∧ y = b)) = EX S I (some (true, a, b)) := by
  funext x y
  refine propext ⟨?_, ?_⟩
  · rintro ((h | h) | ⟨rfl, rfl⟩)
    · exact Or.inl h
    · cases h
    · exact Or.inr rfl
  · rintro (h | h)
    · exact Or.inl (Or.inl h)
    · cases h; exact Or.inr ⟨rfl, rfl⟩
theorem UX_some {I : Nat → Prop} {a b : Nat} : UX S I (some (true, a, b)) = UX S I none := by
  funext x y
  refine propext ⟨?_, ?_⟩
  · rintro (h | h)
    · exact Or.inl h
    · cases h
  · rintro (h | h)
    · exact Or.inl h
    · cases h
theorem EX_step {J : Nat → Prop} {i : Nat} (hi : i < S.length) (hs : sm S i = true) : (fun u v => EX S J x u v ∨ (u = sa S i ∧ v = sb S i)) = EX S (fun t => J t ∨ t = i) x := by
  funext u v
  refine propext ⟨?_, ?_⟩
  · rintro ((⟨s, h1, h2, h3⟩ | h) | ⟨rfl, rfl⟩)
    · exact Or.inl ⟨s, h1, Or.inl h2, h3⟩
    · exact Or.inr h
    · exact Or.inl ⟨i, hi, Or.inr rfl, hs, rfl, rfl⟩
  · rintro (⟨s, h1, h2, h3, h4, h5⟩ | h)
    · rcases h2 with h2 | rfl
      · exact Or.inl (Or.inl ⟨s, h1, h2, h3, h4, h5⟩)
      · exact Or.inr ⟨h4.symm, h5.symm⟩
    · exact Or.inl (Or.inr h)
theorem EX_skip {J : Nat → Prop} {i : Nat} (hs : sm S i = false) : EX S (fun t => J t ∨ t = i) x = EX S J x := by
  funext u v
  refine propext ⟨?_, ?_⟩
  · rintro (⟨s, h1, h2, h3, h4⟩ | h)
    · rcases h2 with h2 | rfl
      · exact Or.inl ⟨s, h1, h2, h3, h4⟩
      · rw [hs] at h3; cases h3
    · exact Or.inr h
  · rintro (⟨s, h1, h2, h3, h4⟩ | h)
    · exact Or.inl ⟨s, h1, Or.inl h2, h3, h4⟩
    · exact Or.inr h
theorem UX_skip {J : Nat → Prop} {i : Nat} (hs : sm S i = true) : UX S (fun t => J t ∨ t = i) x = UX S J x := by
  funext u v
  refine propext ⟨?_, ?_⟩
  · rintro (⟨s, h1, h2, h3, h4⟩ | h)
    · rcases h2 with h2 | rfl
      · exact Or.inl ⟨s, h1, h2, h3, h4⟩
      · rw [hs] at h3; cases h3
    · exact Or.inr h
  · rintro (⟨s, h1, h2, h3, h4⟩ | h)
    · exact Or.inl ⟨s, h1, Or.inl h2, h3, h4⟩
    · exact Or.inr h
theorem EX_mono {J J' : Nat → Prop} (h : ∀ s, J s → J' s) {a b : Nat} (e : EX S J x a b) : EX S J' x a b := by
  rcases e with ⟨s, h1, h2, h3⟩ | e
  · exact Or.inl ⟨s, h1, h s h2, h3⟩
  · exact Or.inr e
theorem UX_mono {J J' : Nat → Prop} (h : ∀ s, J s → J' s) {a b : Nat} (e : UX S J x a b) : UX S J' x a b := by
  rcases e with ⟨s, h1, h2, h3⟩ | e
  · exact Or.inl ⟨s, h1, h s h2, h3⟩
  · exact Or.inr e
theorem Cl.mono {n : Nat} {E E' U U' : Nat → Nat → Prop} (h1 : ∀ a b, E a b → E' a b) (h2 : ∀ a b, U a b → U' a b) (h : Cl T n E U) : Cl T n E' U' := by
  rcases h with ⟨a, b, h, g⟩ | ⟨u, v, a1, a2, a3, a4, a5, a6⟩
  · exact Or.inl ⟨a, b, h2 a b h, g.mono h1⟩
  · exact Or.inr ⟨u, v, a1, a2, a3, a4, a5, a6.mono h1⟩
theorem wc_loop (hW : WT T) (hS : WS T.length S) (ht : ∀ s, tk s = true → s < S.length) (hq : Pq ps pt z) (hx : XSy S tk z) (h : JI T E pt T.length ro [] [] z) : ∀ (d i N : Nat), i + d = S.length → d < N → ∃ r, lX2_wouldClash_34 z N (nI i) = some (nI r, z) ∧ ((r = 1 ∧ ∃ s, s < S.length ∧ tk s = true ∧ sm S s = false ∧ One T T.length E (sa S s) (sb S s)) ∨ (r = 0 ∧ ∀ s, i ≤ s → s < S.length → tk s = true → sm S s = false → ¬ One T T.length E (sa S s) (sb S s))) := by
  have hl := hS.1
  have hc := scount_ok hx
  intro d
  induction d with
  | zero =>
    intro i N hi hN
    obtain ⟨N, rfl⟩ : ∃ M, N = M + 1 := ⟨N - 1, by omega⟩
    refine ⟨0, ?_, Or.inr ⟨rfl, fun s h1 h2 => by omega⟩⟩
    rw [lX2_wouldClash_34.eq_2]
    simp (disch := omega) only [hc, bp_s, nI_leI, if_pos, lit]
  | succ d ih =>
    intro i N hi hN
    obtain ⟨N, rfl⟩ : ∃ M, N = M + 1 := ⟨N - 1, by omega⟩
    rw [lX2_wouldClash_34.eq_2]
    obtain ⟨r, e1, e2⟩ := ih (i + 1) N (by omega) (by omega)
    have i1 := isTaken_ok hx (show i < 100 by omega)
    have i2 := isSame_ok hx hl (show i < S.length by omega)
    have i3 := left_ok hx hl (show i < S.length by omega)
    have i4 := right_ok hx hl (show i < S.length by omega)
    have back : (¬ (tk i = true ∧ sm S i = false ∧ One T T.length E (sa S i) (sb S i))) → ((r = 1 ∧ ∃ s, s < S.length ∧ tk s = true ∧ sm S s = false ∧ One T T.length E (sa S s) (sb S s)) ∨ (r = 0 ∧ ∀ s, i ≤ s → s < S.length → tk s = true → sm S s = false → ¬ One T T.length E (sa S s) (sb S s))) := by
      intro hne
      rcases e2 with e2 | ⟨e2, e3⟩
      · exact Or.inl e2
      · refine Or.inr ⟨e2, fun s h1 h2 h3 h4 => ?_⟩
        rcases Nat.eq_or_lt_of_le h1 with rfl | h1
        · exact fun e => hne ⟨h3, h4, e⟩
        · exact e3 s h1 h2 h3 h4
    cases q1 : tk i
    · rw [q1, bI_f] at i1
      refine ⟨r, ?_, back fun h => by rw [q1] at h; exact absurd h.1 (by simp)⟩
      simp (disch := omega) only [hc, bp_s, nI_leI, if_neg, lit, i1, if_true, bnd_s, nI_add]
      exact e1
    · rw [q1, bI_t] at i1
      cases q2 : sm S i
      · rw [q2, bI_f] at i2
        obtain ⟨r0, f1, f2⟩ := isOne_ok hW h (hS.2 i (by omega)).1 (hS.2 i (by omega)).2
        rcases f2 with ⟨rfl, f2⟩ | ⟨rfl, f2⟩
        · refine ⟨1, ?_, Or.inl ⟨rfl, i, by omega, q1, q2, f2⟩⟩
          simp (disch := omega) only [hc, bp_s, nI_leI, if_neg, lit, i1, i2, i3, i4, hq.2.1, f1, nI_eq, if_true]
        · refine ⟨r, ?_, back fun h => f2 h.2.2⟩
          simp (disch := omega) only [hc, bp_s, nI_leI, if_neg, lit, i1, i2, i3, i4, hq.2.1, f1, nI_eq, if_true, bnd_s, nI_add]
          exact e1
      · rw [q2, bI_t] at i2
        refine ⟨r, ?_, back fun h => by rw [q2] at h; exact absurd h.2.1 (by simp)⟩
        simp (disch := omega) only [hc, bp_s, nI_leI, if_neg, lit, i1, i2, nI_eq, bnd_s, nI_add]
        exact e1
theorem wouldClashX_ok (hW : WT T) (hS : WS T.length S) (ht : ∀ s, tk s = true → s < S.length) (hq : Pq ps pt z) (hx : XSy S tk z) (h : JI T (EX S (TK tk) none) ps T.length ro [] [] z) {a b : Nat} (ha : a < T.length) (hb : b < T.length) : ∃ r z', fX2_wouldClash z (nI a) (nI b) = some (nI r, z') ∧ HA [] [] z' ∧ (∀ j, ¬ (23 ≤ j ∧ j ≤ 27) → ¬ (pt ≤ j ∧ j ≤ pt + 9) → z' j = z j) ∧ ((r = 1 ∧ Cl T T.length (EX S (TK tk) (some (true, a, b))) (UX S (TK tk) (some (true, a, b)))) ∨ (r = 0 ∧ ¬ Cl T T.length (EX S (TK tk) (some (true, a, b))) (UX S (TK tk) (some (true, a, b))) ∧ ∃ ro', JI T (EX S (TK tk) (some (true, a, b))) pt T.length ro' [] [] z')) := by
  have hn := hq.num
  obtain ⟨z1, a1, a2, a3⟩ := copyFrom_ok hq.isT hq.isS (by omega) h
  have hq1 : Pq ps pt z1 := hq.fr (a3 17 (by omega))
  obtain ⟨z2, b1, b2, b3⟩ := join_ok hq.isT (Nat.le_refl _) hW a2 ha hb
  rw [EX_some] at b2
  have hq2 : Pq ps pt z2 := hq1.fr (b3 17 (by omega) (by omega))
  have hx2 : XSy S tk z2 := hx.fr fun j h1 h2 => by rw [b3 j (by omega) (by omega), a3 j (by omega)]
  have fr : ∀ j, ¬ (23 ≤ j ∧ j ≤ 27) → ¬ (pt ≤ j ∧ j ≤ pt + 9) → z2 j = z j := fun j h1 h2 => by rw [b3 j h1 h2, a3 j h2]
  unfold fX2_wouldClash
  simp only [hq.1, hq.2.1, a1, bp_s, hq1.2.1, b1, hq2.2.1]
  rcases b2 with ⟨b4, ⟨ro', b5⟩ | ⟨b5, u, v, b6⟩⟩
  · rw [isTorn_ok b5, bp_s]
    obtain ⟨r, c1, c2⟩ := wc_loop hW hS ht hq2 hx2 b5 S.length 0 FU (by omega) (by have := FU_ge; have := hS.1; omega)
    refine ⟨r, z2, ?_, b4, fr, ?_⟩
    · simp (disch := omega) only [lit, if_true]; exact c1
    · rcases c2 with ⟨rfl, s, s1, s2, s3, s4⟩ | ⟨rfl, c2⟩
      · exact Or.inl ⟨rfl, Or.inl ⟨_, _, Or.inl ⟨s, s1, s2, s3, rfl, rfl⟩, s4⟩⟩
      · refine Or.inr ⟨rfl, ?_, ro', b5⟩
        rintro (⟨c, d, (⟨s, s1, s2, s3, rfl, rfl⟩ | e), ho⟩ | ⟨u, v, u1, u2, u3, u4, u5, u6⟩)
        · exact c2 s (Nat.zero_le _) s1 s2 s3 ho
        · cases e
        · exact u3 (b5.nums hW u1 u2 u4 u5 u6)
  · rw [isTorn_1 b5, bp_s]
    refine ⟨1, z2, ?_, b4, fr, Or.inl ⟨rfl, Or.inr ⟨u, v, b6⟩⟩⟩
    simp (disch := omega) only [lit, nI_eq, if_neg]
theorem ja_loop (hW : WT T) (hS : WS T.length S) (ht : ∀ s, tk s = true → s < S.length) (hcon : ¬ Cl T T.length (EX S (TK tk) none) (UX S (TK tk) none)) : ∀ (d i N : Nat) (ro : Nat → Nat) (z : fS), i + d = S.length → d < N → Pq ps pt z → XSy S tk z → JI T (EX S (fun s => tk s = true ∧ s < i) none) ps T.length ro [] [] z → ∃ z' ro', lX2_judgeAnew_13 N (nI i) z = some z' ∧ JI T (EX S (TK tk) none) ps T.length ro' [] [] z' ∧ (∀ j, ¬ (23 ≤ j ∧ j ≤ 27) → ¬ (ps ≤ j ∧ j ≤ ps + 9) → z' j = z j) := by
  have hl := hS.1
  intro d
  induction d with
  | zero =>
    intro i N ro z hi hN hq hx h
    obtain ⟨N, rfl⟩ : ∃ M, N = M + 1 := ⟨N - 1, by omega⟩
    have e : (fun s => tk s = true ∧ s < i) = TK tk := by
      funext s
      exact propext ⟨fun h => h.1, fun h => ⟨h, by have := ht s h; omega⟩⟩
    rw [e] at h
    refine ⟨z, ro, ?_, h, fun _ _ _ => rfl⟩
    rw [lX2_judgeAnew_13.eq_2]
    simp (disch := omega) only [scount_ok hx, bp_s, nI_leI, if_pos]
  | succ d ih =>
    intro i N ro z hi hN hq hx h
    have hn := hq.num
    obtain ⟨N, rfl⟩ : ∃ M, N = M + 1 := ⟨N - 1, by omega⟩
    rw [lX2_judgeAnew_13.eq_2]
    have hc := scount_ok hx
    have i1 := isTaken_ok hx (show i < 100 by omega)
    have i2 := isSame_ok hx hl (show i < S.length by omega)
    have i3 := left_ok hx hl (show i < S.length by omega)
    have i4 := right_ok hx hl (show i < S.length by omega)
    have eqs : ∀ s, (tk s = true ∧ s < i + 1) ↔ ((tk s = true ∧ s < i) ∨ (s = i ∧ tk i = true)) := by
      intro s
      constructor
      · rintro ⟨h1, h2⟩
        rcases Nat.eq_or_lt_of_le (Nat.le_of_lt_succ h2) with rfl | h2
        · exact Or.inr ⟨rfl, h1⟩
        · exact Or.inl ⟨h1, h2⟩
      · rintro (⟨h1, h2⟩ | ⟨rfl, h1⟩)
        · exact ⟨h1, by omega⟩
        · exact ⟨h1, by omega⟩
    cases q1 : tk i
    · rw [q1, bI_f] at i1
      have e : (fun s => tk s = true ∧ s < i) = (fun s => tk s = true ∧ s < i + 1) := by
        funext s
        refine propext ?_
        rw [eqs s, q1]
        simp
      rw [e] at h
      obtain ⟨z', ro', e1, e2⟩ := ih (i + 1) N ro z (by omega) (by omega) hq hx h
      refine ⟨z', ro', ?_, e2⟩
      simp (disch := omega) only [hc, bp_s, nI_leI, if_neg, lit, i1, if_true, bnd_s, nI_add]
      exact e1
    · rw [q1, bI_t] at i1
      have e : (fun s => tk s = true ∧ s < i + 1) = (fun s => (tk s = true ∧ s < i) ∨ s = i) := by
        funext s
        refine propext ?_
        rw [eqs s, q1]
        simp
      cases q2 : sm S i
      · rw [q2, bI_f] at i2
        have e' := EX_skip (S := S) (x := none) (J := fun s => tk s = true ∧ s < i) q2
        rw [← e', ← e] at h
        obtain ⟨z', ro', e1, e2⟩ := ih (i + 1) N ro z (by omega) (by omega) hq hx h
        refine ⟨z', ro', ?_, e2⟩
        simp (disch := omega) only [hc, bp_s, nI_leI, if_neg, lit, i1, i2, nI_eq, if_true, bnd_s, nI_add]
        exact e1
      · rw [q2, bI_t] at i2
        obtain ⟨z1, b1, ⟨b4, b5⟩, b3⟩ := join_ok hq.isS (Nat.le_refl _) hW h (hS.2 i (by omega)).1 (hS.2 i (by omega)).2
        have e' := EX_step (S := S) (x := none) (J := fun s => tk s = true ∧ s < i) (show i < S.length by omega) q2
        rw [e', ← e] at b5
        rcases b5 with ⟨ro1, b5⟩ | ⟨_, u, v, u1, u2, u3, u4, u5, u6⟩
        · obtain ⟨z', ro', e1, e2, e3⟩ := ih (i + 1) N ro1 z1 (by omega) (by omega) (hq.fr (b3 17 (by omega) (by omega))) (hx.fr fun j h1 h2 => b3 j (by omega) (by omega)) b5
          refine ⟨z', ro', ?_, e2, fun j h1 h2 => (e3 j h1 h2).trans (b3 j h1 h2)⟩
          simp (disch := omega) only [hc, bp_s, nI_leI, if_neg, lit, i1, i2, i3, i4, hq.1, b1, nI_eq, bnd_s, nI_add]
          exact e1
        · exact absurd (Or.inr ⟨u, v, u1, u2, u3, u4, u5, u6.mono fun _ _ q => EX_mono (fun s hs => hs.1) q⟩) hcon
/-- what stands is found anew -/
theorem judgeAnew_ok (hW : WT T) (hS : WS T.length S) (ht : ∀ s, tk s = true → s < S.length) (hcon : ¬ Cl T T.length (EX S (TK tk) none) (UX S (TK tk) none)) (hq : Pq ps pt z) (hx : XSy S tk z) (h : JI T (fun _ _ => False) 28 T.length ro [] [] z) : ∃ z' ro', fX2_judgeAnew z = some z' ∧ JI T (EX S (TK tk) none) ps T.length ro' [] [] z' ∧ (∀ j, ¬ (23 ≤ j ∧ j ≤ 27) → ¬ (ps ≤ j ∧ j ≤ ps + 9) → z' j = z j) := by
  have hn := hq.num
  obtain ⟨z1, a1, a2, a3⟩ := copyFrom_ok hq.isS (Or.inl rfl) (by omega) h
  have e : (fun _ _ => False) = EX S (fun s => tk s = true ∧ s < 0) none := by
    funext u v
    refine propext ⟨False.elim, ?_⟩
    rintro (⟨s, _, h, _⟩ | h)
    · omega
    · cases h
  rw [e] at a2
  obtain ⟨z', ro', e1, e2, e3⟩ := ja_loop hW hS ht hcon S.length 0 FU ro z1 (by omega) (by have := FU_ge; have := hS.1; omega) (hq.fr (a3 17 (by omega))) (hx.fr fun j h1 h2 => a3 j (by omega)) a2
  refine ⟨z', ro', ?_, e2, fun j h1 h2 => (e3 j h1 h2).trans (a3 j h2)⟩
  unfold fX2_judgeAnew
  simp only [hq.1, a1, bp_s, lit]
  exact e1
theorem acceptTrial_ok (hq : Pq ps pt z) : ∃ z', fX2_acceptTrial z = some z' ∧ Pq pt ps z' ∧ (∀ j, j ≠ 17 → z' j = z j) := by
  refine ⟨wrr z 17 (upd (upd (z 17) 3 (z 17 4)) 4 (z 17 3)), ?_, ⟨?_, ?_, ?_⟩, fun j hj => wrr_n hj⟩
  · unfold fX2_acceptTrial
    simp only [wf_w, bnd_s, wrr_wrr, wrr_e]
  · rw [wrr_e, upd_n (by omega), upd_e]; exact hq.2.1
  · rw [wrr_e, upd_e]; exact hq.1
  · have := hq.num; omega
end XCO
