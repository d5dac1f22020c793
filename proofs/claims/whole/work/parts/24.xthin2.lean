section XT2
variable {T : List Tm} {S : List Sy} {tk : Nat → Bool} {x : Option Sy} {z z' : fS} {ps pt : Nat} {P : (Nat → Prop) → Prop} {v1 : Int32} {a b cell : Nat}
noncomputable def thGo (cell : Nat) (rc : Int32 → fS → Option fS) (v1 v2 v3 v5 : Int32) (z : fS) : Option fS :=
  bp (fX4_copyFrom (pcell (z 17 4)) z 28) fun z23 =>
  bp (fX1_clear 18 z23) fun z30 =>
  if v1 = 0 then
    bp (fX4_join (pcell (z30 17 4)) z30 v2 v3) fun z43 =>
    jX2_thin_46 cell rc v1 v2 v3 v5 z43
  else
    jX2_thin_46 cell rc v1 v2 v3 v5 z30
def ThS (T : List Tm) (S : List Sy) (tk : Nat → Bool) (x : Option Sy) (v1 : Int32) (a b ps pt cell : Nat) : Prop := ∀ (rc : Int32 → fS → Option fS) (v5 : Int32) (z : fS), XTk T S tk ps pt z → ∃ z', thGo cell rc v1 (nI a) (nI b) v5 z = jX2_thin_46 cell rc v1 (nI a) (nI b) v5 z' ∧ TrS T S x pt (fun _ => False) z' ∧ XFr pt 18 19 z z'
def ThV (S : List Sy) (tk : Nat → Bool) (P : (Nat → Prop) → Prop) (C : List Nat) (lo : Nat) : Prop := C.Pairwise (· < ·) ∧ (∀ s, s ∈ C → tk s = true ∧ s < lo) ∧ ((lo = 0 ∧ C = []) ∨ ∃ C0, 0 < lo ∧ C = C0 ++ [lo - 1]) ∧ (∀ s, s < lo → tk s = true → (s ∈ C ↔ ¬ P (fun t => (t ∈ C ∧ t < s) ∨ (tk t = true ∧ s < t)))) ∧ P (fun t => t ∈ C ∨ (tk t = true ∧ lo ≤ t)) ∧ lo ≤ S.length
theorem thin_loop (hW : WT T) (hS : WS T.length S) (ht : ∀ s, tk s = true → s < S.length) (hx : ∀ c a b, x = some (c, a, b) → a < T.length ∧ b < T.length) (hg : ThG T S tk x P v1 a b ps pt) (hst : ThS T S tk x v1 a b ps pt cell) (hc : cell = 69 ∨ cell = 71) : ∀ (d N lo : Nat) (C : List Nat) (z : fS), C.length + d = 100 → d < N → XTk T S tk ps pt z → XCr cell C z → HA [] [] z → ThV S tk P C lo → ∃ K z', lX2_thin_8 cell v1 (nI a) (nI b) N (nI C.length) z = some z' ∧ ThI P (TK tk) K ∧ XCr cell K z' ∧ HA [] [] z' ∧ XFr pt cell (cell + 1) z z' := by
  have hl := hS.1
  intro d
  induction d with
  | zero =>
    intro N lo C z hd hN hk hcr hA ⟨c1, c2, c3, c4, c5, c6⟩
    obtain ⟨N, rfl⟩ : ∃ M, N = M + 1 := ⟨N - 1, by omega⟩
    have hlo : C.length ≤ lo := nodup_lt (c1.imp fun h e => by omega) fun s hs => (c2 s hs).2
    refine ⟨C, z, ?_, ⟨c1, fun s hs => (c2 s hs).1, fun s hs => c4 s (by have := ht s hs; omega) hs⟩, hcr, hA, fun _ _ _ _ _ _ _ => rfl⟩
    rw [lX2_thin_8.eq_2]
    simp (disch := omega) only [lit, nI_leI, if_pos]
  | succ d ih =>
    intro N lo C z hd hN hk hcr hA ⟨c1, c2, c3, c4, c5, c6⟩
    have hn := hk.1.num
    obtain ⟨N, rfl⟩ : ∃ M, N = M + 1 := ⟨N - 1, by omega⟩
    have hCn : C.Nodup := c1.imp fun h e => by omega
    obtain ⟨z1, a1, a2, a3⟩ := hst (lX2_thin_8 cell v1 (nI a) (nI b) N) (nI C.length) z hk
    have hk1 := hk.fr a2.1 a3 (Or.inl rfl) (Or.inl rfl)
    have hcr1 : XCr cell C z1 := hcr.fr (a3 cell (by omega) (by omega) (by omega) (by omega) (by omega) (by omega)) (a3 (cell + 1) (by omega) (by omega) (by omega) (by omega) (by omega) (by omega))
    have e0 : (fun _ : Nat => False) = (fun t => t ∈ ([] : List Nat)) := by funext t; simp
    rw [e0] at a2
    obtain ⟨z2, b1, b2, b3⟩ := th_core hW hS hx hc (v1 := v1) (v2 := nI a) (v3 := nI b) (v5 := nI C.length) (C := C) (fun s hs => ht s (c2 s hs).1) hCn (k77 := jX2_thin_77 cell (lX2_thin_8 cell v1 (nI a) (nI b) N) v1 (nI a) (nI b) (nI C.length)) C [] FU z1 rfl (by have := FU_ge; omega) hk1 hcr1 a2
    have hk2 := hk1.fr b2.1 b3 (Or.inl rfl) (Or.inl rfl)
    have hcr2 : XCr cell C z2 := hcr1.fr (b3 cell (by omega) (by omega) (by omega) (by omega) (by omega) (by omega)) (b3 (cell + 1) (by omega) (by omega) (by omega) (by omega) (by omega) (by omega))
    obtain ⟨r, g1, g2⟩ := hg.1 (fun t => t ∈ C) z2 (fun s hs => (c2 s hs).1) hk2 b2
    have pre : lX2_thin_8 cell v1 (nI a) (nI b) (N + 1) (nI C.length) z = jX2_thin_77 cell (lX2_thin_8 cell v1 (nI a) (nI b) N) v1 (nI a) (nI b) (nI C.length) z2 := by
      rw [lX2_thin_8.eq_2]
      rw [if_neg (show ¬ ((100 : Int32) ≤ nI C.length) by simp (disch := omega) only [lit, nI_leI]; omega)]
      refine Eq.trans (show _ = thGo cell (lX2_thin_8 cell v1 (nI a) (nI b) N) v1 (nI a) (nI b) (nI C.length) z from id rfl) ?_
      rw [a1]
      unfold jX2_thin_46
      simp only [lit]
      exact b1
    rw [pre]
    unfold jX2_thin_77
    rw [g1, bp_s]
    rcases g2 with ⟨rfl, g2⟩ | ⟨rfl, g2⟩
    · refine ⟨C, z2, ?_, ⟨c1, fun s hs => (c2 s hs).1, fun s hs => ?_⟩, hcr2, b2.1, (a3.tr b3).up⟩
      · simp (disch := omega) only [lit, nI_eq, if_neg]
      · by_cases q : s < lo
        · exact c4 s q hs
        · refine ⟨fun h => by have := (c2 s h).2; omega, fun h => absurd (hg.2.1 _ _ (fun t ht => Or.inl ⟨ht, by have := (c2 t ht).2; omega⟩) g2) h⟩
    · have hlast : fX1_at cell z2 (nI C.length - nI 1) = some (pI lo) := by
        rcases c3 with ⟨l1, l2⟩ | ⟨C0, l1, l2⟩
        · have e : C.length = 0 := by rw [l2]; rfl
          rw [l1, pI_0, e, z_dec]
          unfold fX1_at
          simp (disch := omega) only [lit, litm, m1_lt0, if_true]
        · have e : C.length = C0.length + 1 := by rw [l2]; simp
          rw [nI_sub (by omega), cat_ok hcr2 (by omega), pI_s l1]
          congr 2
          rw [e, l2]
          exact gD_r
      have hS1 : nI S.length - nI 1 = pI S.length := by
        by_cases q : S.length = 0
        · rw [q, z_dec, pI_0]
        · rw [nI_sub (by omega), pI_s (by omega)]
      have eJ : (fun t => t ∈ C) = (fun t => t ∈ C ∨ (tk t = true ∧ S.length ≤ t)) := by
        funext t
        refine propext ⟨Or.inl, ?_⟩
        rintro (h | h)
        · exact h
        · have := ht t h.1; omega
      have g2 : ¬ P (fun t => t ∈ C) := g2
      rw [eJ] at b2 g2
      obtain ⟨s, z3, w1, w2, w3, w4, w5, w6, w7, w8⟩ := th_while (cell := cell) hW hS ht hx hg (k157 := jX2_thin_157 cell (lX2_thin_8 cell v1 (nI a) (nI b) N) v1 (nI a) (nI b) (nI C.length) (pI lo)) (v5 := nI C.length) c2 c5 (S.length - lo) S.length FU z2 (by omega) (Nat.le_refl _) (by have := FU_ge; omega) hk2 b2 g2
      have hk3 := hk2.fr w7 w8 (Or.inl rfl) (Or.inl rfl)
      have hcr3 : XCr cell C z3 := hcr2.fr (w8 cell (by omega) (by omega) (by omega) (by omega) (by omega) (by omega)) (w8 (cell + 1) (by omega) (by omega) (by omega) (by omega) (by omega) (by omega))
      obtain ⟨z4, d1, d2, d3⟩ := cadd_ok (s := s) hcr3 (by omega)
      have f4 : XFr pt cell (cell + 1) z3 z4 := fun j _ _ _ _ h1 h2 => d3 j h1 h2
      have hA4 : HA [] [] z4 := w7.fr fun j h1 h2 => d3 j (by omega) (by omega)
      have hk4 := hk3.fr hA4 f4 (by omega) (by omega)
      have hni : ∀ t, t ∈ C ++ [s] ↔ t ∈ C ∨ t = s := fun t => by simp
      obtain ⟨K, z', i1, i2, i3, i4, i5⟩ := ih N (s + 1) (C ++ [s]) z4 (by simp; omega) (by omega) hk4 d2 hA4 ⟨List.pairwise_append.mpr ⟨c1, by simp, fun p hp q hq => by
          have := (c2 p hp).2; simp at hq; omega⟩, fun t htm => by
          rcases (hni t).mp htm with h | h
          · exact ⟨(c2 t h).1, by have := (c2 t h).2; omega⟩
          · subst h; exact ⟨w4, by omega⟩, Or.inr ⟨C, by omega, rfl⟩, fun t h1 h2 => by
          have eQ : ∀ s', s' ≤ s → (fun t => (t ∈ C ++ [s] ∧ t < s') ∨ (tk t = true ∧ s' < t)) = (fun t => (t ∈ C ∧ t < s') ∨ (tk t = true ∧ s' < t)) := by
            intro s' hs'
            funext t
            refine propext ⟨?_, ?_⟩
            · rintro (⟨h, h'⟩ | h)
              · rcases (hni t).mp h with h | h
                · exact Or.inl ⟨h, h'⟩
                · omega
              · exact Or.inr h
            · rintro (⟨h, h'⟩ | h)
              · exact Or.inl ⟨(hni t).mpr (Or.inl h), h'⟩
              · exact Or.inr h
          rw [eQ t (by omega)]
          by_cases q1 : t = s
          · subst q1
            refine ⟨fun _ hp => w5 (hg.2.1 _ _ (fun u hu => ?_) hp), fun _ => (hni t).mpr (Or.inr rfl)⟩
            rcases hu with hu | hu
            · exact Or.inl hu.1
            · exact Or.inr hu
          · by_cases q2 : t < lo
            · rw [← c4 t q2 h2, hni t]
              exact ⟨fun h => by
                rcases h with h | h
                · exact h
                · exact absurd h q1, Or.inl⟩
            · refine ⟨fun h => ?_, fun h => absurd (hg.2.1 _ _ (fun u hu => ?_) w6) h⟩
              · rcases (hni t).mp h with h | h
                · have := (c2 t h).2; omega
                · exact absurd h q1
              · rcases hu with hu | hu
                · exact Or.inl ⟨hu, by have := (c2 u hu).2; omega⟩
                · exact Or.inr ⟨hu.1, by omega⟩, by
          refine hg.2.1 _ _ (fun u hu => ?_) w6
          rcases hu with hu | hu
          · exact Or.inl ((hni u).mpr (Or.inl hu))
          · rcases Nat.eq_or_lt_of_le hu.2 with rfl | h2
            · exact Or.inl ((hni _).mpr (Or.inr rfl))
            · exact Or.inr ⟨hu.1, h2⟩, by have := ht s w4; omega⟩
      refine ⟨K, z', ?_, i2, i3, i4, ((a3.tr b3).tr w8).up.tr (f4.tr i5)⟩
      have lenC : (C ++ [s]).length = C.length + 1 := by simp
      rw [lenC] at i1
      have hlt : (pI lo < nI s) ↔ True := by
        by_cases q : lo = 0
        · rw [q, pI_0]; exact m1_lt (by omega)
        · rw [pI_s (by omega), nI_ltI (by omega) (by omega)]
          exact ⟨fun _ => trivial, fun _ => by omega⟩
      simp (disch := omega) only [lit, if_true, ccount_ok hcr2, bp_s, hlast, scount_ok hk2.2.1, hS1, bnd_s]
      rw [w1]
      unfold jX2_thin_157
      simp only [hlt, if_true, d1, bp_s, bnd_s, lit, nI_add]
      exact i1
/-- the class's thinning -/
theorem thin_ok (hW : WT T) (hS : WS T.length S) (ht : ∀ s, tk s = true → s < S.length) (hx : ∀ c a b, x = some (c, a, b) → a < T.length ∧ b < T.length) (hg : ThG T S tk x P v1 a b ps pt) (hst : ThS T S tk x v1 a b ps pt cell) (hc : cell = 69 ∨ cell = 71) (hk : XTk T S tk ps pt z) (hP : P (TK tk)) : ∃ K z', fX2_thin z v1 (nI a) (nI b) cell = some z' ∧ ThI P (TK tk) K ∧ XCr cell K z' ∧ HA [] [] z' ∧ XFr pt cell (cell + 1) z z' := by
  have hn := hk.1.num
  obtain ⟨z1, a1, a2, a3⟩ := cclear_ok z cell
  obtain ⟨ro, hb⟩ := hk.2.2
  have hA1 : HA [] [] z1 := hb.agenda.fr fun j h1 h2 => a3 j (by omega)
  have f1 : XFr pt cell (cell + 1) z z1 := fun j _ _ _ _ h _ => a3 j h
  have hk1 := hk.fr hA1 f1 (by omega) (by omega)
  have e0 : (fun t => t ∈ ([] : List Nat) ∨ (tk t = true ∧ 0 ≤ t)) = TK tk := by funext t; simp [TK]
  obtain ⟨K, z', i1, i2, i3, i4, i5⟩ := thin_loop hW hS ht hx hg hst hc 100 FU 0 [] z1 (by simp) (by have := FU_ge; omega) hk1 a2 hA1 ⟨by simp, by simp, Or.inl ⟨rfl, rfl⟩, fun s h => by omega, by rw [e0]; exact hP, Nat.zero_le _⟩
  refine ⟨K, z', ?_, i2, i3, i4, f1.tr i5⟩
  unfold fX2_thin
  rw [a1, bp_s]
  simp only [lit]
  exact i1
theorem EX_no {J : Nat → Prop} (h : ∀ s, ¬ J s) : EX S J none = (fun _ _ => False) := by
  funext u v
  refine propext ⟨?_, False.elim⟩
  rintro (⟨s, _, h1, _⟩ | h)
  · exact h s h1
  · cases h
theorem thS_pre (hk : XTk T S tk ps pt z) : ∃ z1 z2, fX4_copyFrom (pcell (z 17 4)) z 28 = some z1 ∧ fX1_clear 18 z1 = some z2 ∧ Pq ps pt z2 ∧ HA [] [] z2 ∧ XCr 18 [] z2 ∧ (∃ ro, JI T (fun _ _ => False) pt T.length ro [] [] z2) ∧ XFr pt 18 19 z z2 := by
  obtain ⟨hq, hX, ro, hb⟩ := hk
  have hn := hq.num
  obtain ⟨z1, a1, a2, a3⟩ := copyFrom_ok hq.isT (Or.inl rfl) (by omega) hb
  obtain ⟨z2, b1, b2, b3⟩ := cclear_ok z1 18
  rw [← hq.2.1] at a1
  refine ⟨z1, z2, a1, b1, hq.fr (by rw [b3 17 (by omega), a3 17 (by omega)]), a2.agenda.fr fun j h1 h2 => b3 j (by omega), b2, ⟨ro, a2.fr fun j hj => b3 j (by omega)⟩, fun j h1 _ _ h2 _ _ => by rw [b3 j h1, a3 j h2]⟩
theorem thS_one : ThS T S tk none (nI 1) a b ps pt cell := by
  intro rc v5 z hk
  obtain ⟨z1, z2, a1, a2, a3, a4, a5, ⟨ro, a6⟩, a7⟩ := thS_pre hk
  refine ⟨z2, ?_, ⟨a4, ⟨[], a5, by simp, fun s => by simp⟩, Or.inl ⟨ro, ?_⟩⟩, a7⟩
  · unfold thGo
    rw [a1, bp_s, a2, bp_s]
    simp (disch := omega) only [lit, nI_eq, if_neg]
  · rw [EX_no (fun s h => h)]; exact a6
theorem thS_clash (hW : WT T) (ha : a < T.length) (hb : b < T.length) : ThS T S tk (some (true, a, b)) (nI 0) a b ps pt cell := by
  intro rc v5 z hk
  obtain ⟨z1, z2, a1, a2, a3, a4, a5, ⟨ro, a6⟩, a7⟩ := thS_pre hk
  have hn := a3.num
  obtain ⟨z3, b1, b2, b3⟩ := join_ok a3.isT (Nat.le_refl _) hW a6 ha hb
  have e : (fun u v => (fun _ _ => False) u v ∨ (u = a ∧ v = b)) = EX S (fun _ => False) (some (true, a, b)) := by
    rw [← EX_some, EX_no (fun s h => h)]
  rw [e] at b2
  refine ⟨z3, ?_, ⟨b2.1, ⟨[], a5.fr (b3 18 (by omega) (by omega)) (b3 19 (by omega) (by omega)), by simp, fun s => by simp⟩, b2.2⟩, fun j h1 h2 h3 h4 h5 h6 => (b3 j h3 h4).trans (a7 j h1 h2 h3 h4 h5 h6)⟩
  unfold thGo
  rw [a1, bp_s, a2, bp_s]
  simp (disch := omega) only [lit, if_true, a3.2.1, b1, bp_s]
theorem One.step {J : Nat → Prop} {s u v : Nat} (ho : One T T.length (EX S J x) (sa S s) (sb S s)) (h : One T T.length (EX S (fun t => J t ∨ t = s) x) u v) : One T T.length (EX S J x) u v := by
  refine h.le fun p q e => ?_
  rcases e with ⟨t, t1, t2, t3, rfl, rfl⟩ | e
  · rcases t2 with t2 | rfl
    · exact One.of (Or.inl ⟨t, t1, t2, t3, rfl, rfl⟩)
    · exact ho
  · exact One.of (Or.inr e)
theorem thG_one (hW : WT T) (hcon : ¬ Cl T T.length (EX S (TK tk) none) (UX S (TK tk) none)) (ha : a < T.length) (hb : b < T.length) : ThG T S tk none (fun J => One T T.length (EX S J none) a b) (nI 1) a b ps pt := by
  have hnc : ∀ J : Nat → Prop, (∀ s, J s → tk s = true) → ¬ Nc T (EX S J none) := by
    rintro J hJ ⟨u, v, u1, u2, u3, u4, u5, u6⟩
    exact hcon (Or.inr ⟨u, v, u1, u2, u3, u4, u5, u6.mono fun _ _ e => EX_mono hJ e⟩)
  refine ⟨fun J z hJ hk h => ?_, fun J J' h hp => hp.mono fun _ _ e => EX_mono h e, fun J hJ h => absurd h (hnc J hJ), fun J s _ _ ho hp => One.step ho hp⟩
  obtain ⟨hA, _, h3⟩ := h
  rcases h3 with ⟨ro, h3⟩ | ⟨_, h3⟩
  · obtain ⟨r, e1, e2⟩ := isOne_ok hW h3 ha hb
    refine ⟨r, ?_, e2⟩
    have hb : isb (nI r) = true := by rcases e2 with ⟨rfl, _⟩ | ⟨rfl, _⟩; exact isb_1; exact isb_0
    unfold fX2_isReached
    simp (disch := omega) only [lit, nI_eq, if_neg, hk.1.2.1, e1, bp_s, hb, gd_t]
  · exact absurd h3 (hnc J hJ)
theorem reach_loop (hW : WT T) (hS : WS T.length S) {E : Nat → Nat → Prop} {ro : Nat → Nat} (hk : XTk T S tk ps pt z) (h : JI T E pt T.length ro [] [] z) {L : List Nat} (hL : XCr 18 L z) (hLs : ∀ s, s ∈ L → s < S.length) : ∀ (d i N : Nat), i + d = L.length → d < N → ∃ r, lX2_isReached_29 z N (nI i) = some (nI r) ∧ ((r = 1 ∧ ∃ s, s ∈ L ∧ One T T.length E (sa S s) (sb S s)) ∨ (r = 0 ∧ ∀ j, i ≤ j → j < L.length → ¬ One T T.length E (sa S (L.getD j 0)) (sb S (L.getD j 0)))) := by
  have hl := hS.1
  have hLl := hL.2.1
  intro d
  induction d with
  | zero =>
    intro i N hi hN
    obtain ⟨N, rfl⟩ : ∃ M, N = M + 1 := ⟨N - 1, by omega⟩
    refine ⟨0, ?_, Or.inr ⟨rfl, fun j h1 h2 => by omega⟩⟩
    rw [lX2_isReached_29.eq_2]
    simp (disch := omega) only [ccount_ok hL, bp_s, nI_leI, if_pos, lit]
  | succ d ih =>
    intro i N hi hN
    obtain ⟨N, rfl⟩ : ∃ M, N = M + 1 := ⟨N - 1, by omega⟩
    rw [lX2_isReached_29.eq_2]
    obtain ⟨r, e1, e2⟩ := ih (i + 1) N (by omega) (by omega)
    have hm : L.getD i 0 ∈ L := gD_mem (by omega)
    have hs := hLs _ hm
    have i0 := cat_ok hL (show i < L.length by omega)
    have i3 := left_ok hk.2.1 hl hs
    have i4 := right_ok hk.2.1 hl hs
    obtain ⟨r0, f1, f2⟩ := isOne_ok hW h (hS.2 _ hs).1 (hS.2 _ hs).2
    rcases f2 with ⟨rfl, f2⟩ | ⟨rfl, f2⟩
    · refine ⟨1, ?_, Or.inl ⟨rfl, _, hm, f2⟩⟩
      simp (disch := omega) only [ccount_ok hL, bp_s, nI_leI, if_neg, i0, i3, i4, hk.1.2.1, f1, lit, nI_eq]
    · refine ⟨r, ?_, ?_⟩
      · simp (disch := omega) only [ccount_ok hL, bp_s, nI_leI, if_neg, i0, i3, i4, hk.1.2.1, f1, lit, if_true, bnd_s, nI_add]
        exact e1
      · rcases e2 with e2 | ⟨e2, e3⟩
        · exact Or.inl e2
        · refine Or.inr ⟨e2, fun j h1 h2 => ?_⟩
          rcases Nat.eq_or_lt_of_le h1 with rfl | h1
          · exact f2
          · exact e3 j h1 h2
theorem mem_gD {L : List Nat} {s : Nat} (h : s ∈ L) : ∃ j, j < L.length ∧ L.getD j 0 = s := by
  obtain ⟨j, hj, e⟩ := List.mem_iff_getElem.mp h
  exact ⟨j, hj, by rw [List.getD_eq_getElem?_getD, List.getElem?_eq_getElem hj]; exact e⟩
theorem thG_clash (hW : WT T) (hS : WS T.length S) (ht : ∀ s, tk s = true → s < S.length) : ThG T S tk (some (true, a, b)) (fun J => Cl T T.length (EX S J (some (true, a, b))) (UX S J (some (true, a, b)))) (nI 0) a b ps pt := by
  refine ⟨fun J z hJ hk h => ?_, fun J J' h hp => hp.mono (fun _ _ e => EX_mono h e) (fun _ _ e => UX_mono h e), fun J hJ h => Or.inr h, fun J s _ hs ho hp => ?_⟩
  · obtain ⟨hA, ⟨L, l1, l2, l3⟩, h3⟩ := h
    unfold fX2_isReached
    rcases h3 with ⟨ro, h3⟩ | ⟨h3, h4⟩
    · obtain ⟨r, e1, e2⟩ := reach_loop hW hS hk h3 l1 (fun s hs => ((l3 s).mp hs).1) L.length 0 FU (by omega) (by have := FU_ge; have := l1.2.1; omega)
      refine ⟨r, ?_, ?_⟩
      · simp (disch := omega) only [lit, if_true, hk.1.2.1, isTorn_ok h3, bp_s]
        exact e1
      · rcases e2 with ⟨e2, s, s1, s2⟩ | ⟨e2, e3⟩
        · have := (l3 s).mp s1
          exact Or.inl ⟨e2, Or.inl ⟨_, _, Or.inl ⟨s, this.1, this.2.1, this.2.2, rfl, rfl⟩, s2⟩⟩
        · refine Or.inr ⟨e2, ?_⟩
          rintro (⟨c, d, (⟨s, s1, s2, s3, rfl, rfl⟩ | e), ho⟩ | ⟨u, v, u1, u2, u3, u4, u5, u6⟩)
          · obtain ⟨j, j1, j2⟩ := mem_gD ((l3 s).mpr ⟨s1, s2, s3⟩)
            have := e3 j (Nat.zero_le _) j1
            rw [j2] at this
            exact this ho
          · cases e
          · exact u3 (h3.nums hW u1 u2 u4 u5 u6)
    · refine ⟨1, ?_, Or.inl ⟨rfl, Or.inr h4⟩⟩
      simp (disch := omega) only [lit, if_true, hk.1.2.1, isTorn_1 h3, bp_s, nI_eq, if_neg]
  · rcases hp with ⟨c, d, hU, ho'⟩ | ⟨u, v, u1, u2, u3, u4, u5, u6⟩
    · rw [UX_skip hs] at hU
      exact Or.inl ⟨c, d, hU, One.step ho ho'⟩
    · exact Or.inr ⟨u, v, u1, u2, u3, u4, u5, One.step ho u6⟩
end XT2
