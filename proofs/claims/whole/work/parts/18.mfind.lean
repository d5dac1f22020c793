/-! the reference finds what is one by what is in, and whether it clashes -/
/-- two unlike numbers one, or an unlike pair one -/
def Cl (T : List Tm) (n : Nat) (E U : Nat → Nat → Prop) : Prop := (∃ a b, U a b ∧ One T n E a b) ∨ (∃ u v, u < n ∧ v < n ∧ u ≠ v ∧ kd T u = nI 1 ∧ kd T v = nI 1 ∧ One T n E u v)
def MI (n : Nat) (E U : Nat → Nat → Prop) (z : fS) : Prop :=
  (∀ s, s ≤ 100 → z 21 s = nI 0 ∨ (z 21 s = nI 1 ∧ ∃ a b, z 5 s = nI a ∧ z 6 s = nI b ∧ a < n ∧ b < n ∧ ((z 7 s = nI 1 ∧ E a b) ∨ (z 7 s = nI 0 ∧ U a b)))) ∧
  (∀ a b, E a b → ∃ s, s ≤ 100 ∧ z 21 s = nI 1 ∧ z 5 s = nI a ∧ z 6 s = nI b ∧ z 7 s = nI 1 ∧ a < n ∧ b < n) ∧
  (∀ a b, U a b → ∃ s, s ≤ 100 ∧ z 21 s = nI 1 ∧ z 5 s = nI a ∧ z 6 s = nI b ∧ z 7 s = nI 0 ∧ a < n ∧ b < n)
theorem MI.fr {n : Nat} {E U : Nat → Nat → Prop} {z z' : fS} (h : MI n E U z) (e5 : z' 5 = z 5) (e6 : z' 6 = z 6) (e7 : z' 7 = z 7) (e21 : z' 21 = z 21) : MI n E U z' := by
  unfold MI
  rw [e5, e6, e7, e21]
  exact h
/-- what the reference holds once it has found what is one -/
def MF (T : List Tm) (E : Nat → Nat → Prop) (z : fS) : Prop := ∃ on, MO T.length on z ∧ ∀ a b, a < T.length → b < T.length → (on a = on b ↔ One T T.length E a b)
section FO
variable {T : List Tm} {E U : Nat → Nat → Prop} {on : Nat → Nat} {z : fS}
theorem fo_init {k23 : fS → Option fS} {n : Nat} (hn : n ≤ 120) : ∀ (d i N : Nat) (z : fS), i + d = n → d < N → z 0 4 = nI n → (∀ t, t < i → z 20 t = nI t) → ∃ z', lX9_findOnes_2 k23 N (nI i) z = k23 z' ∧ (∀ t, t < n → z' 20 t = nI t) ∧ (∀ j, j ≠ 20 → z' j = z j) := by
  intro d
  induction d with
  | zero =>
    intro i N z hi hN h4 hz
    obtain ⟨N, rfl⟩ : ∃ M, N = M + 1 := ⟨N - 1, by omega⟩
    refine ⟨z, ?_, fun t ht => hz t (by omega), fun _ _ => rfl⟩
    rw [lX9_findOnes_2.eq_2]
    simp (disch := omega) only [h4, nI_leI, if_pos]
  | succ d ih =>
    intro i N z hi hN h4 hz
    obtain ⟨N, rfl⟩ : ∃ M, N = M + 1 := ⟨N - 1, by omega⟩
    obtain ⟨z', e1, e2, e3⟩ := ih (i + 1) N (wrr z 20 (upd (z 20) i (nI i))) (by omega) (by omega) (by rw [wrr_n (by omega)]; exact h4) (fun t ht => by
      rw [wrr_e]
      by_cases e : t = i
      · subst e; rw [upd_e]
      · rw [upd_n e]; exact hz t (by omega))
    refine ⟨z', ?_, e2, fun j hj => (e3 j hj).trans (wrr_n hj)⟩
    rw [lX9_findOnes_2.eq_2]
    simp (disch := omega) only [h4, nI_leI, if_neg, inb_t, gd_t, wr_nI, bnd_s, lit, nI_add]
    exact e1
theorem fo_say (hW : WT T) {k96 : fS → Option fS} : ∀ (d i N : Nat) (on : Nat → Nat) (z : fS), i + d = 101 → d < N → MT T z → MI T.length E U z → MO T.length on z → Snd T T.length E on → (∀ s a b, s < i → z 21 s = nI 1 → z 7 s = nI 1 → z 5 s = nI a → z 6 s = nI b → a < T.length → b < T.length → on a = on b) → ∃ z' on', lX9_findOnes_25 k96 N (nI i) z = k96 z' ∧ MO T.length on' z' ∧ Snd T T.length E on' ∧ (∀ s a b, s ≤ 100 → z 21 s = nI 1 → z 7 s = nI 1 → z 5 s = nI a → z 6 s = nI b → a < T.length → b < T.length → on' a = on' b) ∧ (∀ j, j ≠ 20 → z' j = z j) := by
  have hT1 := hW.1
  intro d
  induction d with
  | zero =>
    intro i N on z hi hN hT hI hO hs hd
    obtain ⟨N, rfl⟩ : ∃ M, N = M + 1 := ⟨N - 1, by omega⟩
    refine ⟨z, on, ?_, hO, hs, fun s a b h1 => hd s a b (by omega), fun _ _ => rfl⟩
    rw [lX9_findOnes_25.eq_2]
    simp (disch := omega) only [lit, nI_ltI, if_pos]
  | succ d ih =>
    intro i N on z hi hN hT hI hO hs hd
    obtain ⟨N, rfl⟩ : ∃ M, N = M + 1 := ⟨N - 1, by omega⟩
    rw [lX9_findOnes_25.eq_2]
    rcases hI.1 i (by omega) with q | ⟨q, a, b, q5, q6, ha, hb, q7⟩
    · obtain ⟨z', on', e1, e2⟩ := ih (i + 1) N on z (by omega) (by omega) hT hI hO hs (fun s a b h1 h2 => by
        rcases Nat.eq_or_lt_of_le (Nat.le_of_lt_succ h1) with rfl | h1
        · rw [q, nI_eq (by omega) (by omega)] at h2; omega
        · exact hd s a b h1 h2)
      refine ⟨z', on', ?_, e2⟩
      simp (disch := omega) only [lit, nI_ltI, if_neg, inb_t, gd_t, rd_nI, q, if_true, bnd_s, nI_add]
      exact e1
    · rcases q7 with ⟨q7, hE⟩ | ⟨q7, hU⟩
      · have oa := hO a ha
        have ob := hO b hb
        by_cases hab : on a = on b
        · obtain ⟨z', on', e1, e2⟩ := ih (i + 1) N on z (by omega) (by omega) hT hI hO hs (fun s a' b' h1 h2 h3 h4 h5 h6 h7 => by
            rcases Nat.eq_or_lt_of_le (Nat.le_of_lt_succ h1) with rfl | h1
            · rw [q5, nI_eq (by omega) (by omega)] at h4
              rw [q6, nI_eq (by omega) (by omega)] at h5
              rw [← h4, ← h5]; exact hab
            · exact hd s a' b' h1 h2 h3 h4 h5 h6 h7)
          refine ⟨z', on', ?_, e2⟩
          simp (disch := omega) only [lit, nI_ltI, if_neg, inb_t, gd_t, rd_nI, q, q7, q5, q6, oa.1, ob.1, hab, nI_eq, if_true, bnd_s, nI_add]
          exact e1
        · obtain ⟨z1, on1, f1, f2, f3⟩ := merge_stp (fl := 0) hT1 hT.1 hO hs ha hb hab (One.of hE)
          have hT' : MT T z1 := hT.fr (by rw [f2.2.1 0 (by omega)]) fun j h1 h2 => f2.2.1 j (by omega)
          have hI' : MI T.length E U z1 := hI.fr (f2.2.1 5 (by omega)) (f2.2.1 6 (by omega)) (f2.2.1 7 (by omega)) (f2.2.1 21 (by omega))
          obtain ⟨z', on', e1, e2, e3, e4, e5⟩ := ih (i + 1) N on1 z1 (by omega) (by omega) hT' hI' f2.1 f2.2.2.1 (fun s a' b' h1 h2 h3 h4 h5 h6 h7 => by
            rw [f2.2.1 21 (by omega)] at h2
            rw [f2.2.1 7 (by omega)] at h3
            rw [f2.2.1 5 (by omega)] at h4
            rw [f2.2.1 6 (by omega)] at h5
            rcases Nat.eq_or_lt_of_le (Nat.le_of_lt_succ h1) with rfl | h1
            · rw [q5, nI_eq (by omega) (by omega)] at h4
              rw [q6, nI_eq (by omega) (by omega)] at h5
              rw [← h4, ← h5]; exact f3
            · exact f2.2.2.2.1 _ _ (hd s a' b' h1 h2 h3 h4 h5 h6 h7))
          refine ⟨z', on', ?_, e2, e3, ?_, fun j hj => (e5 j hj).trans (f2.2.1 j hj)⟩
          · simp (disch := omega) only [lit, nI_ltI, if_neg, inb_t, gd_t, rd_nI, q, q7, q5, q6, oa.1, ob.1, hab, nI_eq, bnd_s, nI_add, f1, bp_s]
            exact e1
          · intro s a' b' h1 h2 h3 h4 h5
            exact e4 s a' b' h1 (by rw [f2.2.1 21 (by omega)]; exact h2) (by rw [f2.2.1 7 (by omega)]; exact h3) (by rw [f2.2.1 5 (by omega)]; exact h4) (by rw [f2.2.1 6 (by omega)]; exact h5)
      · obtain ⟨z', on', e1, e2⟩ := ih (i + 1) N on z (by omega) (by omega) hT hI hO hs (fun s a b h1 h2 h3 => by
          rcases Nat.eq_or_lt_of_le (Nat.le_of_lt_succ h1) with rfl | h1
          · rw [q7, nI_eq (by omega) (by omega)] at h3; omega
          · exact hd s a b h1 h2 h3)
        refine ⟨z', on', ?_, e2⟩
        simp (disch := omega) only [lit, nI_ltI, if_neg, inb_t, gd_t, rd_nI, q, q7, if_true, nI_eq, bnd_s, nI_add]
        exact e1
/-- all pairs checked: closed -/
theorem chk_closed (hW : WT T) (hO : MO T.length on z) (hs : Snd T T.length E on) (hE : ∀ a b, E a b → a < T.length ∧ b < T.length ∧ on a = on b) (hc : ∀ c e, c < T.length → e < c → Chk T on c e) : ∀ a b, a < T.length → b < T.length → (on a = on b ↔ One T T.length E a b) := by
  intro a b ha hb
  refine ⟨hs a b ha hb, fun h => ?_⟩
  have key := h (fun x y => (x < T.length ∧ y < T.length ∧ on x = on y) ∨ x = y) ⟨fun _ => Or.inr rfl, ?_, ?_, fun x y e => Or.inl (hE x y e), ?_, ?_⟩
  · rcases key with k | k
    · exact k.2.2
    · rw [k]
  · rintro x y (⟨h1, h2, h3⟩ | rfl)
    · exact Or.inl ⟨h2, h1, h3.symm⟩
    · exact Or.inr rfl
  · rintro x y w (⟨h1, h2, h3⟩ | rfl) (⟨g1, g2, g3⟩ | rfl)
    · exact Or.inl ⟨h1, g2, h3.trans g3⟩
    · exact Or.inl ⟨h1, h2, h3⟩
    · exact Or.inl ⟨g1, g2, g3⟩
    · exact Or.inr rfl
  · intro x y hx hy hby
    have hby' : ByP T (Rq on) x y := hby.mono fun p q h => by
      rcases h with h | h
      · exact h.2.2
      · rw [h]
    refine Or.inl ⟨hx, hy, ?_⟩
    rcases Nat.lt_trichotomy x y with l | l | l
    · exact ((hc y x hy l).1 (hby'.sm fun _ _ e => e.symm)).symm
    · rw [l]
    · exact (hc x y hx l).1 hby'
  · intro x y hx hy kx ky hxy
    have wx := (hW.2 x hx)
    have wy := (hW.2 y hy)
    have sx := wx.2.2.1 kx
    have sy := wy.2.2.1 ky
    have p1 := wx.2.1 0 (by omega)
    have p2 := wx.2.1 1 (by omega)
    have p3 := wy.2.1 0 (by omega)
    have p4 := wy.2.1 1 (by omega)
    rcases Nat.lt_trichotomy x y with l | l | l
    · have e : on x = on y := by
        rcases hxy with h | h
        · exact h.2.2
        · rw [h]
      have := (hc y x hy l).2 ky kx e.symm
      exact ⟨Or.inl ⟨by omega, by omega, this.1.symm⟩, Or.inl ⟨by omega, by omega, this.2.symm⟩⟩
    · subst l; exact ⟨Or.inr rfl, Or.inr rfl⟩
    · have e : on x = on y := by
        rcases hxy with h | h
        · exact h.2.2
        · rw [h]
      have := (hc x y hx l).2 kx ky e
      exact ⟨Or.inl ⟨by omega, by omega, this.1⟩, Or.inl ⟨by omega, by omega, this.2⟩⟩
theorem fo_rounds (hW : WT T) : ∀ (d i N fl : Nat) (on : Nat → Nat) (z : fS), cnt (fun r => decide (on r = r)) T.length < d → i + d ≤ 400 → d < N → MT T z → MO T.length on z → Snd T T.length E on → (fl = 1 ∨ (fl = 0 ∧ ∀ c e, c < T.length → e < c → Chk T on c e)) → (∀ a b, E a b → a < T.length ∧ b < T.length ∧ on a = on b) → ∃ z' on', lX9_findOnes_100 N (nI fl) (nI i) z = some z' ∧ MO T.length on' z' ∧ (∀ a b, a < T.length → b < T.length → (on' a = on' b ↔ One T T.length E a b)) ∧ (∀ j, j ≠ 20 → j ≠ 0 → z' j = z j) ∧ z' 0 = upd (z 0) 30 (nI 0) := by
  have hT1 := hW.1
  have fin : ∀ (on : Nat → Nat) (z : fS), MO T.length on z → Snd T T.length E on → (∀ c e, c < T.length → e < c → Chk T on c e) → (∀ a b, E a b → a < T.length ∧ b < T.length ∧ on a = on b) → ∃ z' on', (some (wrr z 0 (upd (z 0) 30 (nI 0)))) = some z' ∧ MO T.length on' z' ∧ (∀ a b, a < T.length → b < T.length → (on' a = on' b ↔ One T T.length E a b)) ∧ (∀ j, j ≠ 20 → j ≠ 0 → z' j = z j) ∧ z' 0 = upd (z 0) 30 (nI 0) := by
    intro on z hO hs hc hE
    refine ⟨_, on, rfl, ?_, chk_closed hW hO hs hE hc, fun j _ h0 => wrr_n h0, wrr_e⟩
    intro t ht
    rw [wrr_n (by omega)]; exact hO t ht
  intro d
  induction d with
  | zero => intro i N fl on z h; omega
  | succ d ih =>
    intro i N fl on z hc hi hN hT hO hs hf hE
    obtain ⟨N, rfl⟩ : ∃ M, N = M + 1 := ⟨N - 1, by omega⟩
    rw [lX9_findOnes_100.eq_2]
    rcases hf with rfl | ⟨rfl, hf⟩
    · obtain ⟨fl', on', z', e1, e2, e3⟩ := looks_out (E := E) hW T.length 0 FU 0 on z (by omega) (by have := FU_ge; omega) hT hO hs (Or.inl rfl)
      have hT' : MT T z' := hT.fr (by rw [e2.2.1 0 (by omega)]) fun j h1 h2 => e2.2.1 j (by omega)
      have e0 : fX9_looks z = some (nI fl', z') := by
        unfold fX9_looks; simp only [lit]; exact e1
      rcases e2.2.2.2.2 with ⟨q1, _, q2, q3⟩ | ⟨q1, q2, _⟩
      · subst q1; subst q2; subst q3
        obtain ⟨M, rfl⟩ : ∃ M, N = M + 1 := ⟨N - 1, by omega⟩
        obtain ⟨z2, on2, g1, g2⟩ := fin on' z' hO hs (fun c e h1 h2 => e3 rfl c e (Nat.zero_le _) h1 h2) hE
        refine ⟨z2, on2, ?_, g2⟩
        simp (disch := omega) only [lit, nI_eq, if_neg, nI_leI, e0, bd_s, bnd_s, nI_add]
        rw [lX9_findOnes_100.eq_2]
        simp (disch := omega) only [lit, if_true, wf_w, bnd_s]
        exact g1
      · subst q1
        have hlt : cnt (fun r => decide (on' r = r)) T.length < cnt (fun r => decide (on r = r)) T.length := by
          rcases q2 with q2 | q2
          · omega
          · exact q2
        obtain ⟨z2, on2, g1, g2, g3, g4, g5⟩ := ih (i + 1) N 1 on' z' (by omega) (by omega) (by omega) hT' e2.1 e2.2.2.1 (Or.inl rfl) (fun a b e => by
          obtain ⟨h1, h2, h3⟩ := hE a b e
          exact ⟨h1, h2, e2.2.2.2.1 _ _ h3⟩)
        refine ⟨z2, on2, ?_, g2, g3, fun j h1 h2 => (g4 j h1 h2).trans (e2.2.1 j h1), ?_⟩
        · simp (disch := omega) only [lit, nI_eq, if_neg, nI_leI, e0, bd_s, bnd_s, nI_add]
          exact g1
        · rw [g5, e2.2.1 0 (by omega)]
    · obtain ⟨z2, on2, g1, g2⟩ := fin on z hO hs hf hE
      refine ⟨z2, on2, ?_, g2⟩
      simp (disch := omega) only [lit, if_true, wf_w, bnd_s]
      exact g1
/-- what is in makes just these one -/
theorem findOnes_ok (hW : WT T) (hT : MT T z) (hI : MI T.length E U z) : ∃ z', fX9_findOnes z = some z' ∧ MF T E z' ∧ (∀ j, j ≠ 20 → j ≠ 0 → z' j = z j) ∧ z' 0 = upd (z 0) 30 (nI 0) := by
  have hT1 := hW.1
  obtain ⟨z1, a1, a2, a3⟩ := fo_init (k23 := jX9_findOnes_23) hT1 T.length 0 FU z (by omega) (by have := FU_ge; omega) hT.1 (fun t h => by omega)
  have hTa : MT T z1 := hT.fr (by rw [a3 0 (by omega)]) fun j h1 h2 => a3 j (by omega)
  have hIa : MI T.length E U z1 := hI.fr (a3 5 (by omega)) (a3 6 (by omega)) (a3 7 (by omega)) (a3 21 (by omega))
  obtain ⟨z2, on2, b1, b2, b3, b4, b5⟩ := fo_say (E := E) (U := U) hW (k96 := jX9_findOnes_96) 101 0 FU (fun t => t) z1 (by omega) (by have := FU_ge; omega) hTa hIa (fun t ht => ⟨a2 t ht, Nat.le_refl _, rfl⟩) (fun a b _ _ e => by have e' : a = b := e; rw [e']; exact One.rf) (fun s a b h => by omega)
  have hTb : MT T z2 := hTa.fr (by rw [b5 0 (by omega)]) fun j h1 h2 => b5 j (by omega)
  have hcl := cnt_le (fun r => decide (on2 r = r)) T.length
  obtain ⟨z3, on3, c1, c2, c3, c4, c5⟩ := fo_rounds (E := E) hW 121 0 FU 1 on2 z2 (by omega) (by omega) (by have := FU_ge; omega) hTb b2 b3 (Or.inl rfl) (fun a b e => by
    obtain ⟨s, h1, h2, h3, h4, h5, h6, h7⟩ := hIa.2.1 a b e
    exact ⟨h6, h7, b4 s a b h1 h2 h5 h3 h4 h6 h7⟩)
  refine ⟨z3, ?_, ⟨on3, c2, c3⟩, fun j h1 h2 => by rw [c4 j h1 h2, b5 j h1, a3 j h1], by rw [c5, b5 0 (by omega), a3 0 (by omega)]⟩
  unfold fX9_findOnes
  simp only [lit]
  rw [a1]
  unfold jX9_findOnes_23
  simp only [lit]
  rw [b1]
  unfold jX9_findOnes_96
  simp only [lit]
  exact c1
end FO
