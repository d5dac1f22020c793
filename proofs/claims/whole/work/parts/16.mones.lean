/-! the reference finds what is one -/
def MT (T : List Tm) (z : fS) : Prop :=
  z 0 4 = nI T.length ∧ ∀ t, t < T.length → z 1 t = kd T t ∧ z 2 t = sh T t ∧ z 3 t = nI (sz T t) ∧ ∀ i, i < sz T t → z 4 (3 * t + i) = nI (pt T t i)
theorem MT.fr {T : List Tm} {z z' : fS} (h : MT T z) (e0 : z' 0 4 = z 0 4) (e : ∀ j, 1 ≤ j → j ≤ 4 → z' j = z j) : MT T z' := by
  unfold MT
  rw [e0, e 1 (by omega) (by omega), e 2 (by omega) (by omega), e 3 (by omega) (by omega), e 4 (by omega) (by omega)]
  exact h
def MO (n : Nat) (on : Nat → Nat) (z : fS) : Prop := ∀ t, t < n → z 20 t = nI (on t) ∧ on t ≤ t ∧ on (on t) = on t
section MER
variable {T : List Tm} {E : Nat → Nat → Prop} {n : Nat} {on : Nat → Nat} {z : fS}
theorem merge_loop (hn : n ≤ 120) {keep goes : Nat} (hk : keep < 120) (hg : goes < 120) : ∀ (d i N : Nat) (z : fS) (f : Nat → Nat), i + d = n → d < N → z 0 4 = nI n → (∀ t, t < n → z 20 t = nI (if t < i ∧ f t = goes then keep else f t)) → (∀ t, t < n → f t < 120) → ∃ z', lX9_merge_66 (nI keep) (nI goes) N (nI i) z = some z' ∧ (∀ t, t < n → z' 20 t = nI (if f t = goes then keep else f t)) ∧ (∀ j, j ≠ 20 → z' j = z j) := by
  intro d
  induction d with
  | zero =>
    intro i N z f hi hN h4 hz hf
    obtain ⟨N, rfl⟩ : ∃ M, N = M + 1 := ⟨N - 1, by omega⟩
    refine ⟨z, ?_, fun t ht => ?_, fun _ _ => rfl⟩
    · rw [lX9_merge_66.eq_2]
      simp (disch := omega) only [h4, nI_leI, if_pos]
    · rw [hz t ht]
      congr 1
      by_cases q : f t = goes
      · rw [if_pos ⟨by omega, q⟩, if_pos q]
      · rw [if_neg (fun x => q x.2), if_neg q]
  | succ d ih =>
    intro i N z f hi hN h4 hz hf
    obtain ⟨N, rfl⟩ : ∃ M, N = M + 1 := ⟨N - 1, by omega⟩
    have hi20 : z 20 i = nI (f i) := by rw [hz i (by omega), if_neg (fun x => by omega)]
    have hfi := hf i (by omega)
    obtain ⟨z', e1, e2, e3⟩ := ih (i + 1) N (wrr z 20 (upd (z 20) i (nI (if f i = goes then keep else f i)))) f (by omega) (by omega) (by rw [wrr_n (by omega)]; exact h4) (fun t ht => by
      rw [wrr_e]
      by_cases e : t = i
      · subst e
        rw [upd_e]
        congr 1
        by_cases q : f t = goes
        · rw [if_pos q, if_pos ⟨by omega, q⟩]
        · rw [if_neg q, if_neg (fun x => q x.2)]
      · rw [upd_n e, hz t ht]
        congr 1
        by_cases q : f t = goes
        · by_cases q2 : t < i
          · rw [if_pos ⟨q2, q⟩, if_pos ⟨by omega, q⟩]
          · rw [if_neg (fun x => q2 x.1), if_neg (fun x => by omega)]
        · rw [if_neg (fun x => q x.2), if_neg (fun x => q x.2)]) hf
    refine ⟨z', ?_, e2, fun j hj => (e3 j hj).trans (wrr_n hj)⟩
    rw [lX9_merge_66.eq_2]
    by_cases q : f i = goes
    · rw [if_pos q] at e1
      simp (disch := omega) only [h4, nI_leI, if_neg, inb_t, gd_t, rd_nI, hi20, nI_eq, if_pos, wr_nI, bnd_s, lit, nI_add]
      exact e1
    · rw [if_neg q] at e1
      simp (disch := omega) only [h4, nI_leI, if_neg, inb_t, gd_t, rd_nI, hi20, nI_eq, wr_nI, bnd_s, lit, nI_add]
      exact e1
/-- two classes become one, under the lesser name -/
theorem merge_ok (hn : n ≤ 120) (h4 : z 0 4 = nI n) (hO : MO n on z) {a b : Nat} (ha : a < n) (hb : b < n) (hab : on a ≠ on b) : ∃ z' on', fX9_merge z (nI a) (nI b) = some z' ∧ MO n on' z' ∧ (∀ j, j ≠ 20 → z' j = z j) ∧ ((on' = mg on (on a) (on b)) ∨ (on' = mg on (on b) (on a))) ∧ cnt (fun r => decide (on' r = r)) n + 1 = cnt (fun r => decide (on r = r)) n := by
  obtain ⟨a1, a2, a3⟩ := hO a ha
  obtain ⟨b1, b2, b3⟩ := hO b hb
  have main : ∀ keep goes : Nat, keep < goes → goes < n → on keep = keep → on goes = goes → ∃ z', lX9_merge_66 (nI keep) (nI goes) FU (nI 0) z = some z' ∧ MO n (mg on keep goes) z' ∧ (∀ j, j ≠ 20 → z' j = z j) ∧ cnt (fun r => decide (mg on keep goes r = r)) n + 1 = cnt (fun r => decide (on r = r)) n := by
    intro keep goes hkg hgn k1 g1
    obtain ⟨z', e1, e2, e3⟩ := merge_loop hn (keep := keep) (goes := goes) (by omega) (by omega) n 0 FU z on (by omega) (by have := FU_ge; omega) h4 (fun t ht => by rw [if_neg (fun x => by omega)]; exact (hO t ht).1) (fun t ht => by have := (hO t ht).2.1; omega)
    refine ⟨z', e1, fun t ht => ⟨by rw [e2 t ht]; rfl, ?_, mg_id (k := n) (fun t ht => (hO t ht).2.2) k1 (by omega) t ht⟩, e3, ?_⟩
    · have := (hO t ht).2.1
      unfold mg
      split <;> omega
    · refine cnt_less (j := goes) (by simp [g1]) ?_ ?_ hgn
      · simp only [decide_eq_false_iff_not, mg_root k1 (show keep ≠ goes by omega)]
        rintro (⟨_, q⟩ | ⟨_, _, f⟩)
        · exact q rfl
        · exact f
      · intro i hi
        have : (mg on keep goes i = i) ↔ (on i = i) := by
          rw [mg_root k1 (show keep ≠ goes by omega)]
          constructor
          · rintro (⟨q, _⟩ | ⟨_, _, f⟩)
            · exact q
            · exact f.elim
          · intro q; exact Or.inl ⟨q, hi⟩
        simp [this]
  by_cases q : on b ≤ on a
  · obtain ⟨z', e1, e2, e3, e4⟩ := main (on b) (on a) (by omega) (by omega) b3 a3
    refine ⟨z', _, ?_, e2, e3, Or.inr rfl, e4⟩
    unfold fX9_merge jX9_merge_30 jX9_merge_61
    simp (disch := omega) only [inb_t, gd_t, rd_nI, a1, b1, nI_leI, if_pos, lit]
    exact e1
  · obtain ⟨z', e1, e2, e3, e4⟩ := main (on a) (on b) (by omega) (by omega) a3 b3
    refine ⟨z', _, ?_, e2, e3, Or.inl rfl, e4⟩
    unfold fX9_merge jX9_merge_30 jX9_merge_61
    simp (disch := omega) only [inb_t, gd_t, rd_nI, a1, b1, nI_leI, if_neg, lit]
    exact e1
/-- a stretch of the search: what was one stays so, nothing wrong comes -/
def Snd (T : List Tm) (n : Nat) (E : Nat → Nat → Prop) (on : Nat → Nat) : Prop := ∀ a b, a < n → b < n → on a = on b → One T n E a b
def MSt (T : List Tm) (n : Nat) (E : Nat → Nat → Prop) (on : Nat → Nat) (fl : Nat) (z : fS) (on' : Nat → Nat) (fl' : Nat) (z' : fS) : Prop :=
  MO n on' z' ∧ (∀ j, j ≠ 20 → z' j = z j) ∧ Snd T n E on' ∧ (∀ a b, on a = on b → on' a = on' b) ∧ ((fl' = 0 ∧ fl = 0 ∧ on' = on ∧ z' = z) ∨ (fl' = 1 ∧ (fl = 1 ∨ cnt (fun r => decide (on' r = r)) n < cnt (fun r => decide (on r = r)) n) ∧ cnt (fun r => decide (on' r = r)) n ≤ cnt (fun r => decide (on r = r)) n))
theorem MSt.rf {fl : Nat} (hO : MO n on z) (hs : Snd T n E on) (hf : fl = 0 ∨ fl = 1) : MSt T n E on fl z on fl z := by
  refine ⟨hO, fun _ _ => rfl, hs, fun _ _ e => e, ?_⟩
  rcases hf with rfl | rfl
  · exact Or.inl ⟨rfl, rfl, rfl, rfl⟩
  · exact Or.inr ⟨rfl, Or.inl rfl, Nat.le_refl _⟩
theorem MSt.tr {on1 on2 : Nat → Nat} {f0 f1 f2 : Nat} {z1 z2 : fS} (h : MSt T n E on f0 z on1 f1 z1) (g : MSt T n E on1 f1 z1 on2 f2 z2) : MSt T n E on f0 z on2 f2 z2 := by
  obtain ⟨h1, h2, h3, h4, h5⟩ := h
  obtain ⟨g1, g2, g3, g4, g5⟩ := g
  refine ⟨g1, fun j hj => (g2 j hj).trans (h2 j hj), g3, fun a b e => g4 a b (h4 a b e), ?_⟩
  rcases h5 with ⟨rfl, rfl, rfl, rfl⟩ | ⟨rfl, h5, h6⟩
  · exact g5
  · rcases g5 with ⟨_, g5, _⟩ | ⟨rfl, _, g6⟩
    · omega
    · refine Or.inr ⟨rfl, ?_, by omega⟩
      rcases h5 with h5 | h5
      · exact Or.inl h5
      · exact Or.inr (by omega)
theorem merge_stp (hn : n ≤ 120) (h4 : z 0 4 = nI n) (hO : MO n on z) (hs : Snd T n E on) {a b fl : Nat} (ha : a < n) (hb : b < n) (hab : on a ≠ on b) (ho : One T n E a b) : ∃ z' on', fX9_merge z (nI a) (nI b) = some z' ∧ MSt T n E on fl z on' 1 z' ∧ on' a = on' b := by
  obtain ⟨z', on', e1, e2, e3, e4, e5⟩ := merge_ok hn h4 hO ha hb hab
  obtain ⟨a1, a2, a3⟩ := hO a ha
  obtain ⟨b1, b2, b3⟩ := hO b hb
  have oa : One T n E a (on a) := hs a (on a) ha (by omega) a3.symm
  have ob : One T n E b (on b) := hs b (on b) hb (by omega) b3.symm
  have oab : One T n E (on a) (on b) := (oa.sm.tr ho).tr ob
  have snd : ∀ keep goes : Nat, One T n E keep goes → Snd T n E (mg on keep goes) := by
    intro keep goes hkg
    have o1 : ∀ t, t < n → One T n E t (mg on keep goes t) := by
      intro t ht
      have rt := hO t ht
      have ot : One T n E t (on t) := hs t (on t) ht (by omega) rt.2.2.symm
      unfold mg
      by_cases q : on t = goes
      · rw [if_pos q]
        rw [q] at ot
        exact ot.tr hkg.sm
      · rw [if_neg q]; exact ot
    intro x y hx hy e
    have := (o1 y hy).sm
    rw [← e] at this
    exact (o1 x hx).tr this
  refine ⟨z', on', e1, ⟨e2, e3, ?_, ?_, Or.inr ⟨rfl, Or.inr (by omega), by omega⟩⟩, ?_⟩
  · rcases e4 with rfl | rfl
    · exact snd _ _ oab
    · exact snd _ _ oab.sm
  · intro x y e
    rcases e4 with rfl | rfl <;> exact mg_eq e
  · rcases e4 with rfl | rfl
    · unfold mg; rw [if_neg hab, if_pos rfl]
    · unfold mg; rw [if_pos rfl, if_neg (fun e => hab e.symm)]
end MER
