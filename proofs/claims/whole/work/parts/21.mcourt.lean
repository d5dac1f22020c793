/-! the reference's court -/
def TK (tk : Nat → Bool) : Nat → Prop := fun s => tk s = true
def RM (T : List Tm) (S : List Sy) (tk : Nat → Bool) (z : fS) : Prop := MT T z ∧ MSy S tk z ∧ (z 0 30 = nI 0 ∨ (z 0 30 = nI 1 ∧ MF T (EX S (TK tk) none) z))
def MFr (c f : Nat) (z z' : fS) : Prop := (∀ j, j ≠ 0 → ¬ (5 ≤ j ∧ j ≤ 7) → j ≠ 20 → j ≠ 21 → j ≠ c → z' j = z j) ∧ (∀ j s, (5 ≤ j ∧ j ≤ 7) → s ≠ 100 → z' j s = z j s) ∧ (∀ g, g ≠ 30 → g ≠ f → z' 0 g = z 0 g)
theorem MFr.rf {c f : Nat} {z : fS} : MFr c f z z := ⟨fun _ _ _ _ _ _ => rfl, fun _ _ _ _ => rfl, fun _ _ _ => rfl⟩
theorem MFr.tr {c f : Nat} {z z1 z2 : fS} (h : MFr c f z z1) (g : MFr c f z1 z2) : MFr c f z z2 :=
  ⟨fun j a b d e i => (g.1 j a b d e i).trans (h.1 j a b d e i), fun j s a b => (g.2.1 j s a b).trans (h.2.1 j s a b), fun k a b => (g.2.2 k a b).trans (h.2.2 k a b)⟩
theorem MFr.up {c f : Nat} {z z' : fS} (h : MFr 0 30 z z') : MFr c f z z' :=
  ⟨fun j a b d e _ => h.1 j a b d e a, h.2.1, fun g a _ => h.2.2 g a a⟩
section MCO
variable {T : List Tm} {S : List Sy} {tk : Nat → Bool} {x : Option Sy} {z z' : fS} {c f : Nat}
theorem MFr.mt (h : MT T z) (e : MFr c f z z') (hc : c = 0 ∨ 8 < c) (hf : f ≠ 4) : MT T z' := h.fr (e.2.2 4 (by omega) (by omega)) fun j h1 h2 => e.1 j (by omega) (by omega) (by omega) (by omega) (by omega)
theorem MFr.msy (hS : S.length ≤ 100) (h : MSy S tk z) (e : MFr c f z z') (hc : c = 0 ∨ 8 < c) (hf : f ≠ 9) : MSy S tk z' := h.fr (e.2.2 9 (by omega) (by omega)) (fun j h1 h2 s hs => by
    by_cases q : j = 8
    · subst q; rw [e.1 8 (by omega) (by omega) (by omega) (by omega) (by omega)]
    · exact e.2.1 j s ⟨h1, by omega⟩ (by omega)) hS
theorem court_ok (hW : WT T) (hS : WS T.length S) (ht : ∀ s, tk s = true → s < S.length) (h : RM T S tk z) : ∃ z', fX9_court z = some z' ∧ MF T (EX S (TK tk) none) z' ∧ RM T S tk z' ∧ MFr 0 30 z z' := by
  obtain ⟨h1, h2, h3⟩ := h
  unfold fX9_court
  rcases h3 with h3 | ⟨h3, h4⟩
  · obtain ⟨z1, a1, a2, a3⟩ := takeCourt_ok hS.1 ht h2
    have f1 : MFr 0 30 z z1 := ⟨fun j _ _ _ h _ => a3 j h, fun j s _ _ => by rw [a3 j (by omega)], fun g _ _ => by rw [a3 0 (by omega)]⟩
    have hT1 := f1.mt h1 (Or.inl rfl) (by omega)
    have hM1 := f1.msy hS.1 h2 (Or.inl rfl) (by omega)
    obtain ⟨z2, b1, b2, b3, b4⟩ := findOnes_ok hW hT1 (MI_of hS (fun _ _ _ e => by cases e) hM1 a2)
    refine ⟨wrr z2 0 (upd (z2 0) 30 (nI 1)), ?_, ?_, ?_, ?_⟩
    · simp (disch := omega) only [h3, lit, if_true, a1, bp_s, b1, wf_w, bnd_s]
    · obtain ⟨on, o1, o2⟩ := b2
      exact ⟨on, fun t ht => by rw [wrr_n (by omega)]; exact o1 t ht, o2⟩
    · have f2 : MFr 0 30 z1 (wrr z2 0 (upd (z2 0) 30 (nI 1))) := ⟨fun j h0 _ h _ _ => by rw [wrr_n h0]; exact b3 j h h0, fun j s h _ => by rw [wrr_n (by omega), b3 j (by omega) (by omega)], fun g h _ => by rw [wrr_e, upd_n h, b4, upd_n h]⟩
      refine ⟨f2.mt hT1 (Or.inl rfl) (by omega), f2.msy hS.1 hM1 (Or.inl rfl) (by omega), Or.inr ⟨by rw [wrr_e, upd_e], ?_⟩⟩
      obtain ⟨on, o1, o2⟩ := b2
      exact ⟨on, fun t ht => by rw [wrr_n (by omega)]; exact o1 t ht, o2⟩
    · exact f1.tr ⟨fun j h0 _ h _ _ => by rw [wrr_n h0]; exact b3 j h h0, fun j s h _ => by rw [wrr_n (by omega), b3 j (by omega) (by omega)], fun g h _ => by rw [wrr_e, upd_n h, b4, upd_n h]⟩
  · refine ⟨z, ?_, h4, ⟨h1, h2, Or.inr ⟨h3, h4⟩⟩, MFr.rf⟩
    simp (disch := omega) only [h3, lit, nI_eq, if_neg]
theorem areOne_ok (hW : WT T) (hS : WS T.length S) (ht : ∀ s, tk s = true → s < S.length) (h : RM T S tk z) {a b : Nat} (ha : a < T.length) (hb : b < T.length) : ∃ r z', fX9_areOne z (nI a) (nI b) = some (nI r, z') ∧ ((r = 1 ∧ One T T.length (EX S (TK tk) none) a b) ∨ (r = 0 ∧ ¬ One T T.length (EX S (TK tk) none) a b)) ∧ RM T S tk z' ∧ MFr 0 30 z z' := by
  obtain ⟨z1, a1, ⟨on, o1, o2⟩, a3, a4⟩ := court_ok hW hS ht h
  have hT1 := hW.1
  have oa := o1 a ha
  have ob := o1 b hb
  unfold fX9_areOne
  rw [a1, bp_s]
  simp (disch := omega) only [inb_t, gd_t, rd_nI, oa.1, ob.1, nI_eq, lit]
  by_cases q : on a = on b
  · rw [if_pos q]
    exact ⟨1, z1, rfl, Or.inl ⟨rfl, (o2 a b ha hb).mp q⟩, a3, a4⟩
  · rw [if_neg q]
    exact ⟨0, z1, rfl, Or.inr ⟨rfl, fun h => q ((o2 a b ha hb).mpr h)⟩, a3, a4⟩
theorem does_one (hW : WT T) (hS : WS T.length S) {a b : Nat} (ha : a < T.length) (hb : b < T.length) : DoesOK T S tk none (fun I => One T T.length (EX S I none) a b) (nI a) (nI b) := by
  intro I z h1 h2 h3
  have hT1 := hW.1
  obtain ⟨z2, b1, ⟨on, o1, o2⟩, b3, b4⟩ := findOnes_ok hW h1 (MI_of hS (fun _ _ _ e => by cases e) h2 h3)
  have oa := o1 a ha
  have ob := o1 b hb
  unfold fX9_does
  simp (disch := omega) only [lit, nI_leI, if_pos, b1, bp_s, inb_t, gd_t, rd_nI, oa.1, ob.1, nI_eq]
  by_cases q : on a = on b
  · rw [if_pos q]
    exact ⟨1, z2, rfl, Or.inl ⟨rfl, (o2 a b ha hb).mp q⟩, b3, b4⟩
  · rw [if_neg q]
    exact ⟨0, z2, rfl, Or.inr ⟨rfl, fun h => q ((o2 a b ha hb).mpr h)⟩, b3, b4⟩
theorem does_clash (hW : WT T) (hS : WS T.length S) (hx : ∀ c a b, x = some (c, a, b) → a < T.length ∧ b < T.length) : DoesOK T S tk x (fun I => Cl T T.length (EX S I x) (UX S I x)) (-1) (-1) := by
  intro I z h1 h2 h3
  obtain ⟨r, z2, b1, b2, b3, b4, b5⟩ := clashes_ok hW h1 (MI_of hS hx h2 h3)
  refine ⟨r, z2, ?_, b2, b4, b5⟩
  unfold fX9_does
  have hb : isb (nI r) = true := by rcases b2 with ⟨rfl, _⟩ | ⟨rfl, _⟩; exact isb_1; exact isb_0
  simp (disch := omega) only [lit, litm, m1_le0, if_false, b1, bd_s, hb, gd_t]
/-- thinning, from what is taken -/
theorem mthin_ok {P : (Nat → Prop) → Prop} {v1 v2 : Int32} {cell : Nat} (hc : cell = 17 ∨ cell = 18) (hS : S.length ≤ 100) (ht : ∀ s, tk s = true → s < S.length) (hd : DoesOK T S tk x P v1 v2) (hT : MT T z) (hM : MSy S tk z) (hX : MX S (TK tk) x z) : ∃ K z', fX9_thin z v1 v2 cell = some (nI K.length, z') ∧ ThI P (TK tk) K ∧ K.length ≤ 100 ∧ (∀ j, j < K.length → z' cell j = nI (K.getD j 0)) ∧ (∀ j, j ≠ 0 → j ≠ 20 → j ≠ 21 → j ≠ cell → z' j = z j) ∧ (∀ f, f ≠ 30 → z' 0 f = z 0 f) ∧ (z' 0 30 = nI 0 ∨ (z' 20 = z 20 ∧ z' 0 30 = z 0 30)) := by
  have eX : TK tk = (fun t => t ∈ ([] : List Nat) ∨ (tk t = true ∧ 0 ≤ t)) := by
    funext t; simp [TK]
  rw [eX] at hX
  obtain ⟨K, z', e1, e2, e3, e4⟩ := mthin_loop hc hS hd S.length 0 FU [] z (by omega) (by have := FU_ge; omega) hT hM hX ht (by simp) (by simp) (fun s _ h => by omega) (fun j h => by simp at h)
  refine ⟨K, z', ?_, e2, ?_, e3, e4⟩
  · unfold fX9_thin; simp only [lit]; exact e1
  · have := ThI.len e2 (n := S.length) ht
    omega
/-- a core, as the reference holds it -/
def MCr (cell fld : Nat) (K : List Nat) (z : fS) : Prop := z 0 fld = nI K.length ∧ K.length ≤ 100 ∧ ∀ j, j < K.length → z cell j = nI (K.getD j 0)
theorem wouldClashM_ok (hW : WT T) (hS : WS T.length S) (ht : ∀ s, tk s = true → s < S.length) (h : RM T S tk z) {a b : Nat} (ha : a < T.length) (hb : b < T.length) {c : Bool} : ∃ r z', fX9_wouldClash z (nI a) (nI b) (bI c) = some (nI r, z') ∧ RM T S tk z' ∧ MFr 17 22 z z' ∧ ((r = 0 ∧ ¬ Cl T T.length (EX S (TK tk) (some (c, a, b))) (UX S (TK tk) (some (c, a, b))) ∧ MFr 0 30 z z') ∨ (r = 1 ∧ Cl T T.length (EX S (TK tk) (some (c, a, b))) (UX S (TK tk) (some (c, a, b))) ∧ ∃ K, ThI (fun I => Cl T T.length (EX S I (some (c, a, b))) (UX S I (some (c, a, b)))) (TK tk) K ∧ MCr 17 22 K z')) := by
  obtain ⟨h1, h2, h3⟩ := h
  have hx : ∀ c' a' b', some (c, a, b) = some (c', a', b') → a' < T.length ∧ b' < T.length := fun c' a' b' e => by cases e; exact ⟨ha, hb⟩
  obtain ⟨z1, a1, a2, a3⟩ := takeCourt_ok hS.1 ht h2
  obtain ⟨z2, b1, b2, b3, b4⟩ := add_ok (c := c) (a := a) (b := b) a2
  have f2 : MFr 0 30 z z2 := ⟨fun j h0 h5 _ h21 _ => by rw [b3 j (by omega) (by omega) (by omega) h21, a3 j h21], fun j s h5 hs => by rw [b4 j s hs, a3 j (by omega)], fun g _ _ => by rw [b3 0 (by omega) (by omega) (by omega) (by omega), a3 0 (by omega)]⟩
  have hT2 := f2.mt h1 (Or.inl rfl) (by omega)
  have hM2 := f2.msy hS.1 h2 (Or.inl rfl) (by omega)
  obtain ⟨r, z3, c1, c2, c3, c4, c5⟩ := clashes_ok hW hT2 (MI_of hS hx hM2 b2)
  have f3 : MFr 0 30 z2 z3 := ⟨fun j h0 _ h20 _ _ => c4 j h20 h0, fun j s h5 _ => by rw [c4 j (by omega) (by omega)], fun g hg _ => by rw [c5, upd_n hg]⟩
  have hT3 := f3.mt hT2 (Or.inl rfl) (by omega)
  have hM3 := f3.msy hS.1 hM2 (Or.inl rfl) (by omega)
  have h30 : z3 0 30 = nI 0 := by rw [c5, upd_e]
  unfold fX9_wouldClash
  rw [a1, bp_s, b1, bp_s, c1, bd_s]
  rcases c2 with ⟨rfl, c2⟩ | ⟨rfl, c2⟩
  · obtain ⟨K, z4, d1, d2, d3, d4, d5, d6, d7⟩ := mthin_ok (cell := 17) (Or.inl rfl) hS.1 ht (does_clash hW hS hx) hT3 hM3 (b2.fr (c4 5 (by omega) (by omega)) (c4 6 (by omega) (by omega)) (c4 7 (by omega) (by omega)) (c4 21 (by omega) (by omega)))
    have f4 : MFr 17 22 z3 (wrr z4 0 (upd (z4 0) 22 (nI K.length))) := ⟨fun j h0 h5 h20 h21 hc => by rw [wrr_n h0, d5 j h0 h20 h21 hc], fun j s h5 hs => by rw [wrr_n (by omega), d5 j (by omega) (by omega) (by omega) (by omega)], fun g hg hf => by rw [wrr_e, upd_n hf, d6 g hg]⟩
    refine ⟨1, wrr z4 0 (upd (z4 0) 22 (nI K.length)), ?_, ⟨f4.mt hT3 (by omega) (by omega), f4.msy hS.1 hM3 (by omega) (by omega), Or.inl ?_⟩, (f2.tr f3).up.tr f4, Or.inr ⟨rfl, c2, K, d2, ⟨by rw [wrr_e, upd_e], d3, fun j hj => by rw [wrr_n (by omega)]; exact d4 j hj⟩⟩⟩
    · simp (disch := omega) only [lit, litm, nI_eq, if_neg] at d1 ⊢
      simp only [d1, bd_s, wf_w, bnd_s]
    · rw [wrr_e, upd_n (by omega)]
      rcases d7 with d7 | ⟨_, d7⟩
      · exact d7
      · exact d7.trans h30
  · refine ⟨0, z3, ?_, ⟨hT3, hM3, Or.inl h30⟩, (f2.tr f3).up, Or.inl ⟨rfl, c2, f2.tr f3⟩⟩
    simp (disch := omega) only [lit, if_true]
end MCO
