/-! the class thins -/
def XCr (cell : Nat) (C : List Nat) (z : fS) : Prop := z cell 1 = nI C.length ∧ C.length ≤ 100 ∧ ∀ j, j < C.length → z (cell + 1) j = nI (C.getD j 0)
section COR
variable {cell : Nat} {C : List Nat} {z z' : fS}
theorem XCr.fr (h : XCr cell C z) (e1 : z' cell = z cell) (e2 : z' (cell + 1) = z (cell + 1)) : XCr cell C z' := by
  unfold XCr; rw [e1, e2]; exact h
theorem ccount_ok (h : XCr cell C z) : fX1_count cell z = some (nI C.length) := by unfold fX1_count; rw [h.1]
theorem cat_ok (h : XCr cell C z) {j : Nat} (hj : j < C.length) : fX1_at cell z (nI j) = some (nI (C.getD j 0)) := by
  have := h.2.1
  unfold fX1_at
  simp (disch := omega) only [lit, nI_ltI, if_neg, h.1, nI_leI, inb_t, gd_t, rd_nI, h.2.2 j hj]
theorem cadd_ok (h : XCr cell C z) (hl : C.length < 100) {s : Nat} : ∃ z', fX1_add cell z (nI s) = some z' ∧ XCr cell (C ++ [s]) z' ∧ (∀ j, j ≠ cell → j ≠ cell + 1 → z' j = z j) := by
  refine ⟨wrr (wrr z (cell + 1) (upd (z (cell + 1)) C.length (nI s))) cell (upd (z cell) 1 (nI (C.length + 1))), ?_, ⟨?_, ?_, ?_⟩, ?_⟩
  · unfold fX1_add
    simp (disch := omega) only [lit, h.1, nI_leI, if_neg, inb_t, gd_t, wr_nI, bnd_s, wf_w, wrr_n, nI_add]
  · rw [wrr_e, upd_e]; simp
  · simp; omega
  · intro j hj
    rw [wrr_n (by omega), wrr_e]
    by_cases e : j = C.length
    · subst e; rw [upd_e, gD_r]
    · have : j < C.length := by simp at hj; omega
      rw [upd_n e, gD_l this]; exact h.2.2 j this
  · intro j h1 h2
    rw [wrr_n h1, wrr_n h2]
theorem cclear_ok (z : fS) (cell : Nat) : ∃ z', fX1_clear cell z = some z' ∧ XCr cell [] z' ∧ (∀ j, j ≠ cell → z' j = z j) := by
  refine ⟨wrr z cell (upd (z cell) 1 (nI 0)), ?_, ⟨by rw [wrr_e, upd_e]; rfl, by simp, fun j hj => by simp at hj⟩, fun j hj => wrr_n hj⟩
  unfold fX1_clear
  simp only [lit, wf_w, bnd_s]
end COR
def Nc (T : List Tm) (E : Nat → Nat → Prop) : Prop := ∃ u v, u < T.length ∧ v < T.length ∧ u ≠ v ∧ kd T u = nI 1 ∧ kd T v = nI 1 ∧ One T T.length E u v
/-- a trial into which the sayings of J have gone -/
def TrS (T : List Tm) (S : List Sy) (x : Option Sy) (pt : Nat) (J : Nat → Prop) (z : fS) : Prop :=
  HA [] [] z ∧ (∃ L, XCr 18 L z ∧ L.Nodup ∧ ∀ s, s ∈ L ↔ (s < S.length ∧ J s ∧ sm S s = false)) ∧ ((∃ ro, JI T (EX S J x) pt T.length ro [] [] z) ∨ (z pt 13 = nI 1 ∧ Nc T (EX S J x)))
def pI (i : Nat) : Int32 := if i = 0 then -(nI 1) else nI (i - 1)
theorem pI_0 : pI 0 = -(nI 1) := id rfl
theorem pI_s {i : Nat} (h : 0 < i) : pI i = nI (i - 1) := by unfold pI; rw [if_neg (by omega)]
section XTH
variable {T : List Tm} {S : List Sy} {tk : Nat → Bool} {x : Option Sy} {z z' : fS} {E E' : Nat → Nat → Prop} {pb k ps pt : Nat} {ro : Nat → Nat} {J : Nat → Prop} {P : (Nat → Prop) → Prop} {v1 : Int32} {a b cell : Nat}
theorem JI.more (hW : WT T) (h : JI T E pb T.length ro [] [] z) (h1 : ∀ a b, E a b → E' a b) (h2 : ∀ a b, E' a b → a < T.length ∧ b < T.length ∧ One T T.length E a b) : JI T E' pb T.length ro [] [] z := by
  have hc := h.closed hW (Nat.le_refl _)
  obtain ⟨hh, s1, s2, s3, s4, s5⟩ := h
  refine ⟨hh, fun a b ha hb e => (s1 a b ha hb e).mono h1, fun q hq => by simp at hq, s3, fun a b e => ?_, s5⟩
  obtain ⟨g1, g2, g3⟩ := h2 a b e
  exact Eqv.fb ((hc a b g1 g2).mpr g3)
def XTk (T : List Tm) (S : List Sy) (tk : Nat → Bool) (ps pt : Nat) (z : fS) : Prop := Pq ps pt z ∧ XSy S tk z ∧ ∃ ro, JI T (fun _ _ => False) 28 T.length ro [] [] z
/-- cells that a trial may change -/
def XFr (pt c1 c2 : Nat) (z z' : fS) : Prop := ∀ j, j ≠ 18 → j ≠ 19 → ¬ (23 ≤ j ∧ j ≤ 27) → ¬ (pt ≤ j ∧ j ≤ pt + 9) → j ≠ c1 → j ≠ c2 → z' j = z j
theorem XFr.tr {c1 c2 : Nat} {z1 z2 : fS} (h : XFr pt c1 c2 z z1) (g : XFr pt c1 c2 z1 z2) : XFr pt c1 c2 z z2 := fun j a b c d e f => (g j a b c d e f).trans (h j a b c d e f)
theorem XFr.up {c1 c2 : Nat} (h : XFr pt 18 19 z z') : XFr pt c1 c2 z z' := fun j a b c d _ _ => h j a b c d a b
theorem XTk.fr {c1 c2 : Nat} (h : XTk T S tk ps pt z) (hA : HA [] [] z') (e : XFr pt c1 c2 z z') (h1 : c1 = 18 ∨ 58 ≤ c1) (h2 : c2 = 19 ∨ 58 ≤ c2) : XTk T S tk ps pt z' := by
  obtain ⟨a1, a2, ro, a3⟩ := h
  have hn := a1.num
  exact ⟨a1.fr (e 17 (by omega) (by omega) (by omega) (by omega) (by omega) (by omega)), a2.fr fun j h1 h2 => e j (by omega) (by omega) (by omega) (by omega) (by omega) (by omega), ro, a3.fr2 hA fun j hj => e j (by omega) (by omega) (by omega) (by omega) (by omega) (by omega)⟩
theorem addTo_ok (hW : WT T) (hS : WS T.length S) (hx : ∀ c a b, x = some (c, a, b) → a < T.length ∧ b < T.length) (hk : XTk T S tk ps pt z) (h : TrS T S x pt J z) {s : Nat} (hs : s < S.length) (hJ : ¬ J s) : ∃ r z', fX2_addToTrial z (nI s) = some (nI r, z') ∧ (r = 0 ∨ r = 1) ∧ TrS T S x pt (fun t => J t ∨ t = s) z' ∧ (r = 0 → sm S s = true ∧ (Nc T (EX S J x) ∨ One T T.length (EX S J x) (sa S s) (sb S s))) ∧ XFr pt 18 19 z z' := by
  have hl := hS.1
  obtain ⟨hq, hX, ro0, hb⟩ := hk
  have hn := hq.num
  obtain ⟨hA, ⟨L, l1, l2, l3⟩, h3⟩ := h
  have i2 := isSame_ok hX hl hs
  have i3 := left_ok hX hl hs
  have i4 := right_ok hX hl hs
  have w := hS.2 s hs
  unfold fX2_addToTrial
  cases q : sm S s
  · rw [q, bI_f] at i2
    have hsL : s ∉ L := fun h => hJ ((l3 s).mp h).2.1
    have hLl : L.length < 100 := by
      have : (s :: L).Nodup := List.nodup_cons.mpr ⟨hsL, l2⟩
      have := nodup_lt this (n := S.length) (fun y hy => by
        rcases List.mem_cons.mp hy with rfl | hy
        · exact hs
        · exact ((l3 y).mp hy).1)
      simp at this
      omega
    obtain ⟨z1, e1, e2, e3⟩ := cadd_ok (s := s) l1 hLl
    refine ⟨1, z1, ?_, Or.inr rfl, ⟨?_, ⟨L ++ [s], e2, ?_, fun t => ?_⟩, ?_⟩, fun h => by omega, fun j h1 h2 _ _ _ _ => e3 j h1 h2⟩
    · simp (disch := omega) only [i2, bp_s, lit, if_true, e1]
    · exact hA.fr fun j h1 h2 => e3 j (by omega) (by omega)
    · exact List.nodup_append.mpr ⟨l2, by simp, fun y hy t ht => by simp at ht; subst ht; exact fun e => hsL (e ▸ hy)⟩
    · rw [List.mem_append, l3 t]
      constructor
      · rintro (⟨g1, g2, g3⟩ | g)
        · exact ⟨g1, Or.inl g2, g3⟩
        · have : t = s := by simpa using g
          subst this
          exact ⟨hs, Or.inr rfl, q⟩
      · rintro ⟨g1, g2 | g2, g3⟩
        · exact Or.inl ⟨g1, g2, g3⟩
        · exact Or.inr (by simp [g2])
    · rw [EX_skip q]
      rcases h3 with ⟨ro, h3⟩ | ⟨h3, h4⟩
      · exact Or.inl ⟨ro, h3.fr2 (hA.fr fun j h1 h2 => e3 j (by omega) (by omega)) fun j hj => e3 j (by omega) (by omega)⟩
      · exact Or.inr ⟨by rw [e3 pt (by omega) (by omega)]; exact h3, h4⟩
  · rw [q, bI_t] at i2
    have lset : ∀ t, t ∈ L ↔ (t < S.length ∧ (J t ∨ t = s) ∧ sm S t = false) := fun t => by
      rw [l3 t]
      constructor
      · rintro ⟨g1, g2, g3⟩; exact ⟨g1, Or.inl g2, g3⟩
      · rintro ⟨g1, g2 | g2, g3⟩
        · exact ⟨g1, g2, g3⟩
        · subst g2; rw [q] at g3; cases g3
    rcases h3 with ⟨ro, h3⟩ | ⟨h3, h4⟩
    · have it := isTorn_ok h3
      obtain ⟨r, o1, o2⟩ := isOne_ok hW h3 w.1 w.2
      rcases o2 with ⟨rfl, o2⟩ | ⟨rfl, o2⟩
      · refine ⟨0, z, ?_, Or.inl rfl, ⟨hA, ⟨L, l1, l2, lset⟩, Or.inl ⟨ro, h3.more hW (fun u v e => EX_mono (fun _ => Or.inl) e) fun u v e => ?_⟩⟩, fun _ => ⟨rfl, Or.inr o2⟩, fun _ _ _ _ _ _ _ => rfl⟩
        · simp (disch := omega) only [i2, bp_s, lit, nI_eq, if_neg, hq.2.1, it, if_true, i3, i4, o1]
        · rcases e with ⟨t, t1, t2, t3, rfl, rfl⟩ | e
          · have wt := hS.2 t t1
            rcases t2 with t2 | rfl
            · exact ⟨wt.1, wt.2, One.of (Or.inl ⟨t, t1, t2, t3, rfl, rfl⟩)⟩
            · exact ⟨wt.1, wt.2, o2⟩
          · have := hx _ _ _ e
            exact ⟨this.1, this.2, One.of (Or.inr e)⟩
      · obtain ⟨z1, b1, ⟨b4, b5⟩, b3⟩ := join_ok hq.isT (Nat.le_refl _) hW h3 w.1 w.2
        rw [EX_step hs q] at b5
        refine ⟨1, z1, ?_, Or.inr rfl, ⟨b4, ⟨L, l1.fr (b3 18 (by omega) (by omega)) (b3 19 (by omega) (by omega)), l2, lset⟩, b5⟩, fun h => by omega, fun j _ _ h1 h2 _ _ => b3 j h1 h2⟩
        simp (disch := omega) only [i2, bp_s, lit, nI_eq, if_neg, hq.2.1, it, if_true, i3, i4, o1, b1]
    · have it := isTorn_1 h3
      have h4' := h4
      obtain ⟨u, v, u1, u2, u3, u4, u5, u6⟩ := h4'
      refine ⟨0, z, ?_, Or.inl rfl, ⟨hA, ⟨L, l1, l2, lset⟩, Or.inr ⟨h3, u, v, u1, u2, u3, u4, u5, u6.mono fun _ _ e => EX_mono (fun _ => Or.inl) e⟩⟩, fun _ => ⟨rfl, Or.inl h4⟩, fun _ _ _ _ _ _ _ => rfl⟩
      simp (disch := omega) only [i2, bp_s, lit, nI_eq, if_neg, hq.2.1, it]
/-- what thinning needs of the thing thinned for -/
def ThG (T : List Tm) (S : List Sy) (tk : Nat → Bool) (x : Option Sy) (P : (Nat → Prop) → Prop) (v1 : Int32) (a b ps pt : Nat) : Prop :=
  (∀ J z, (∀ s, J s → tk s = true) → XTk T S tk ps pt z → TrS T S x pt J z → ∃ r, fX2_isReached z v1 (nI a) (nI b) = some (nI r) ∧ ((r = 1 ∧ P J) ∨ (r = 0 ∧ ¬ P J))) ∧
  (∀ J J' : Nat → Prop, (∀ s, J s → J' s) → P J → P J') ∧
  (∀ J : Nat → Prop, (∀ s, J s → tk s = true) → Nc T (EX S J x) → P J) ∧
  (∀ (J : Nat → Prop) s, s < S.length → sm S s = true → One T T.length (EX S J x) (sa S s) (sb S s) → P (fun t => J t ∨ t = s) → P J)
theorem th_core (hW : WT T) (hS : WS T.length S) (hx : ∀ c a b, x = some (c, a, b) → a < T.length ∧ b < T.length) (hc : cell = 69 ∨ cell = 71) {k77 : fS → Option fS} {v2 v3 v5 : Int32} {C : List Nat} (hCs : ∀ s, s ∈ C → s < S.length) (hCn : C.Nodup) : ∀ (B A : List Nat) (N : Nat) (z : fS), C = A ++ B → B.length < N → XTk T S tk ps pt z → XCr cell C z → TrS T S x pt (fun t => t ∈ A) z → ∃ z', lX2_thin_49 cell k77 v1 v2 v3 v5 N (nI A.length) z = k77 z' ∧ TrS T S x pt (fun t => t ∈ C) z' ∧ XFr pt 18 19 z z' := by
  intro B
  induction B with
  | nil =>
    intro A N z hC hN hk hcr h
    obtain ⟨N, rfl⟩ : ∃ M, N = M + 1 := ⟨N - 1, by omega⟩
    rw [List.append_nil] at hC
    subst hC
    have := hcr.2.1
    refine ⟨z, ?_, h, fun _ _ _ _ _ _ _ => rfl⟩
    rw [lX2_thin_49.eq_2]
    simp (disch := omega) only [ccount_ok hcr, bp_s, nI_leI, if_pos]
  | cons s B ih =>
    intro A N z hC hN hk hcr h
    obtain ⟨N, rfl⟩ : ∃ M, N = M + 1 := ⟨N - 1, by omega⟩
    have hlen : C.length = A.length + B.length + 1 := by rw [hC]; simp; omega
    have hcl := hcr.2.1
    have hg : C.getD A.length 0 = s := by rw [hC]; simp [List.getD_eq_getElem?_getD]
    have hsC : s ∈ C := by rw [hC]; simp
    have hsA : s ∉ A := by
      rw [hC] at hCn
      have := (List.nodup_append.mp hCn).2.2
      exact fun hm => this s hm s List.mem_cons_self rfl
    have hat := cat_ok hcr (show A.length < C.length by omega)
    rw [hg] at hat
    obtain ⟨r, z1, e1, _, e2, _, e4⟩ := addTo_ok hW hS hx hk h (hCs s hsC) hsA
    have eJ : (fun t => t ∈ A ∨ t = s) = (fun t => t ∈ A ++ [s]) := by funext t; simp
    rw [eJ] at e2
    have hn := hk.1.num
    obtain ⟨z', g1, g2, g3⟩ := ih (A ++ [s]) N z1 (by rw [hC]; simp) (by simp at hN; omega) (hk.fr e2.1 e4 (Or.inl rfl) (Or.inl rfl)) (hcr.fr (e4 cell (by omega) (by omega) (by omega) (by omega) (by omega) (by omega)) (e4 (cell + 1) (by omega) (by omega) (by omega) (by omega) (by omega) (by omega))) e2
    refine ⟨z', ?_, g2, e4.tr g3⟩
    have lenA : (A ++ [s]).length = A.length + 1 := by simp
    rw [lenA] at g1
    rw [lX2_thin_49.eq_2]
    simp (disch := omega) only [ccount_ok hcr, bp_s, nI_leI, if_neg, hat, e1, bd_s, bnd_s, lit, nI_add]
    exact g1
theorem th_while (hW : WT T) (hS : WS T.length S) (ht : ∀ s, tk s = true → s < S.length) (hx : ∀ c a b, x = some (c, a, b) → a < T.length ∧ b < T.length) (hg : ThG T S tk x P v1 a b ps pt) {k157 : Int32 → fS → Option fS} {v5 : Int32} {C : List Nat} {lo : Nat} (hC : ∀ s, s ∈ C → tk s = true ∧ s < lo) (hP : P (fun t => t ∈ C ∨ (tk t = true ∧ lo ≤ t))) : ∀ (d i N : Nat) (z : fS), i = lo + d → i ≤ S.length → d < N → XTk T S tk ps pt z → TrS T S x pt (fun t => t ∈ C ∨ (tk t = true ∧ i ≤ t)) z → ¬ P (fun t => t ∈ C ∨ (tk t = true ∧ i ≤ t)) → ∃ s z', lX2_thin_113 cell k157 v1 (nI a) (nI b) v5 (pI lo) N (pI i) z = k157 (nI s) z' ∧ lo ≤ s ∧ s < i ∧ tk s = true ∧ ¬ P (fun t => t ∈ C ∨ (tk t = true ∧ s < t)) ∧ P (fun t => t ∈ C ∨ (tk t = true ∧ s ≤ t)) ∧ HA [] [] z' ∧ XFr pt 18 19 z z' := by
  have hl := hS.1
  intro d
  induction d with
  | zero =>
    intro i N z hi hiS hN hk h hnP
    rw [hi] at hnP
    exact absurd hP hnP
  | succ d ih =>
    intro i N z hi hiS hN hk h hnP
    obtain ⟨N, rfl⟩ : ∃ M, N = M + 1 := ⟨N - 1, by omega⟩
    obtain ⟨s, rfl⟩ : ∃ s, i = s + 1 := ⟨i - 1, by omega⟩
    have p1 : pI (s + 1) = nI s := by rw [pI_s (by omega)]; rfl
    have p2 : nI s + -(nI 1) = pI s := by
      by_cases q : s = 0
      · subst q; rw [z_decA, pI_0]
      · rw [nI_dec (by omega), pI_s (by omega)]
    have p3 : (nI s ≤ pI lo) ↔ False := by
      by_cases q : lo = 0
      · rw [q, pI_0]; exact m1_le (by omega)
      · rw [pI_s (by omega), nI_leI (by omega) (by omega)]
        exact ⟨fun h => by omega, False.elim⟩
    have hX := hk.2.1
    have i1 := isTaken_ok hX (show s < 100 by omega)
    have hsC : s ∉ C := fun hm => by have := (hC s hm).2; omega
    rw [lX2_thin_113.eq_2, p1]
    cases q1 : tk s
    · rw [q1, bI_f] at i1
      have e : (fun t => t ∈ C ∨ (tk t = true ∧ s + 1 ≤ t)) = (fun t => t ∈ C ∨ (tk t = true ∧ s ≤ t)) := by
        funext t
        refine propext ⟨?_, ?_⟩
        · rintro (h | h)
          · exact Or.inl h
          · exact Or.inr ⟨h.1, by omega⟩
        · rintro (h | h)
          · exact Or.inl h
          · rcases Nat.eq_or_lt_of_le h.2 with rfl | h2
            · rw [q1] at h; exact absurd h.1 (by simp)
            · exact Or.inr ⟨h.1, h2⟩
      rw [e] at h hnP
      obtain ⟨s', z', g1, g2, g3, g4⟩ := ih s N z (by omega) (by omega) (by omega) hk h hnP
      refine ⟨s', z', ?_, g2, by omega, g4⟩
      simp (disch := omega) only [p3, if_false, i1, bp_s, lit, litm, if_true, bnd_s, p2]
      exact g1
    · rw [q1, bI_t] at i1
      have hJ : ¬ (s ∈ C ∨ (tk s = true ∧ s + 1 ≤ s)) := by
        rintro (h | h)
        · exact hsC h
        · omega
      obtain ⟨r, z1, e1, e0, e2, e3, e4⟩ := addTo_ok hW hS hx hk h (ht s q1) hJ
      have e : (fun t => (t ∈ C ∨ (tk t = true ∧ s + 1 ≤ t)) ∨ t = s) = (fun t => t ∈ C ∨ (tk t = true ∧ s ≤ t)) := by
        funext t
        refine propext ⟨?_, ?_⟩
        · rintro ((h | h) | rfl)
          · exact Or.inl h
          · exact Or.inr ⟨h.1, by omega⟩
          · exact Or.inr ⟨q1, Nat.le_refl _⟩
        · rintro (h | h)
          · exact Or.inl (Or.inl h)
          · rcases Nat.eq_or_lt_of_le h.2 with rfl | h2
            · exact Or.inr rfl
            · exact Or.inl (Or.inr ⟨h.1, h2⟩)
      rw [e] at e2
      have hk1 := hk.fr e2.1 e4 (Or.inl rfl) (Or.inl rfl)
      have hsub : ∀ t, (t ∈ C ∨ (tk t = true ∧ s ≤ t)) → tk t = true := by
        rintro t (h | h)
        · exact (hC t h).1
        · exact h.1
      have hsub0 : ∀ t, (t ∈ C ∨ (tk t = true ∧ s + 1 ≤ t)) → tk t = true := by
        rintro t (h | h)
        · exact (hC t h).1
        · exact h.1
      have go : ¬ P (fun t => t ∈ C ∨ (tk t = true ∧ s ≤ t)) → ∃ s' z', lX2_thin_113 cell k157 v1 (nI a) (nI b) v5 (pI lo) N (pI s) z1 = k157 (nI s') z' ∧ lo ≤ s' ∧ s' < s + 1 ∧ tk s' = true ∧ ¬ P (fun t => t ∈ C ∨ (tk t = true ∧ s' < t)) ∧ P (fun t => t ∈ C ∨ (tk t = true ∧ s' ≤ t)) ∧ HA [] [] z' ∧ XFr pt 18 19 z z' := by
        intro hn
        obtain ⟨s', z', g1, g2, g3, g4, g5, g6, g7, g8⟩ := ih s N z1 (by omega) (by omega) (by omega) hk1 e2 hn
        exact ⟨s', z', g1, g2, by omega, g4, g5, g6, g7, e4.tr g8⟩
      rcases e0 with rfl | rfl
      · obtain ⟨f1, f2⟩ := e3 rfl
        have hn : ¬ P (fun t => t ∈ C ∨ (tk t = true ∧ s ≤ t)) := by
          rcases f2 with f2 | f2
          · exact absurd (hg.2.2.1 _ hsub0 f2) hnP
          · intro hp
            rw [← e] at hp
            exact hnP (hg.2.2.2 _ s (ht s q1) f1 f2 hp)
        obtain ⟨s', z', g1, g2⟩ := go hn
        refine ⟨s', z', ?_, g2⟩
        simp (disch := omega) only [p3, if_false, i1, bp_s, lit, litm, nI_eq, if_neg, e1, bd_s, if_true, bnd_s, p2]
        exact g1
      · obtain ⟨r2, f1, f2⟩ := hg.1 _ z1 hsub hk1 e2
        rcases f2 with ⟨rfl, f2⟩ | ⟨rfl, f2⟩
        · refine ⟨s, z1, ?_, by omega, by omega, q1, hnP, f2, e2.1, e4⟩
          simp (disch := omega) only [p3, if_false, i1, bp_s, lit, nI_eq, if_neg, e1, bd_s, f1]
        · obtain ⟨s', z', g1, g2⟩ := go f2
          refine ⟨s', z', ?_, g2⟩
          simp (disch := omega) only [p3, if_false, i1, bp_s, lit, litm, nI_eq, if_neg, e1, bd_s, f1, if_true, bnd_s, p2]
          exact g1
end XTH
