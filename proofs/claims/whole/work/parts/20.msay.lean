/-! sayings, and the sets of them -/
def bI (b : Bool) : Int32 := if b = true then nI 1 else nI 0
theorem bI_t : bI true = nI 1 := id rfl
theorem bI_f : bI false = nI 0 := id rfl
abbrev Sy : Type := Bool × Nat × Nat
def sm (S : List Sy) (s : Nat) : Bool := (S.getD s (false, 0, 0)).1
def sa (S : List Sy) (s : Nat) : Nat := (S.getD s (false, 0, 0)).2.1
def sb (S : List Sy) (s : Nat) : Nat := (S.getD s (false, 0, 0)).2.2
def WS (n : Nat) (S : List Sy) : Prop := S.length ≤ 100 ∧ ∀ s, s < S.length → sa S s < n ∧ sb S s < n
def EX (S : List Sy) (I : Nat → Prop) (x : Option Sy) (a b : Nat) : Prop := (∃ s, s < S.length ∧ I s ∧ sm S s = true ∧ sa S s = a ∧ sb S s = b) ∨ x = some (true, a, b)
def UX (S : List Sy) (I : Nat → Prop) (x : Option Sy) (a b : Nat) : Prop := (∃ s, s < S.length ∧ I s ∧ sm S s = false ∧ sa S s = a ∧ sb S s = b) ∨ x = some (false, a, b)
def MSy (S : List Sy) (tk : Nat → Bool) (z : fS) : Prop := z 0 9 = nI S.length ∧ ∀ s, s < S.length → z 5 s = nI (sa S s) ∧ z 6 s = nI (sb S s) ∧ z 7 s = bI (sm S s) ∧ z 8 s = bI (tk s)
def MX (S : List Sy) (I : Nat → Prop) (x : Option Sy) (z : fS) : Prop :=
  (∀ s, s < 100 → (I s ∧ z 21 s = nI 1) ∨ (¬ I s ∧ z 21 s = nI 0)) ∧ (∀ s, I s → s < S.length) ∧ ((x = none ∧ z 21 100 = nI 0) ∨ ∃ c a b, x = some (c, a, b) ∧ z 21 100 = nI 1 ∧ z 5 100 = nI a ∧ z 6 100 = nI b ∧ z 7 100 = bI c)
section SAY
variable {T : List Tm} {S : List Sy} {tk : Nat → Bool} {I : Nat → Prop} {x : Option Sy} {z z' : fS}
theorem MSy.fr (h : MSy S tk z) (e0 : z' 0 9 = z 0 9) (e : ∀ j, 5 ≤ j → j ≤ 8 → ∀ s, s < 100 → z' j s = z j s) (hS : S.length ≤ 100) : MSy S tk z' := by
  refine ⟨e0.trans h.1, fun s hs => ?_⟩
  rw [e 5 (by omega) (by omega) s (by omega), e 6 (by omega) (by omega) s (by omega), e 7 (by omega) (by omega) s (by omega), e 8 (by omega) (by omega) s (by omega)]
  exact h.2 s hs
theorem MX.fr (h : MX S I x z) (e5 : z' 5 = z 5) (e6 : z' 6 = z 6) (e7 : z' 7 = z 7) (e21 : z' 21 = z 21) : MX S I x z' := by
  unfold MX
  rw [e5, e6, e7, e21]
  exact h
theorem MI_of (hS : WS T.length S) (hx : ∀ c a b, x = some (c, a, b) → a < T.length ∧ b < T.length) (h : MSy S tk z) (hm : MX S I x z) : MI T.length (EX S I x) (UX S I x) z := by
  obtain ⟨m1, m2, m3⟩ := hm
  have hl := hS.1
  refine ⟨fun s hs => ?_, fun a b e => ?_, fun a b e => ?_⟩
  · rcases Nat.eq_or_lt_of_le hs with rfl | hs
    · rcases m3 with ⟨_, m3⟩ | ⟨c, a, b, e, e1, e2, e3, e4⟩
      · exact Or.inl m3
      · have := hx c a b e
        refine Or.inr ⟨e1, a, b, e2, e3, this.1, this.2, ?_⟩
        cases c
        · exact Or.inr ⟨e4, Or.inr e⟩
        · exact Or.inl ⟨e4, Or.inr e⟩
    · rcases m1 s hs with ⟨i1, i2⟩ | ⟨i1, i2⟩
      · have hs' := m2 s i1
        obtain ⟨h5, h6, h7, h8⟩ := h.2 s hs'
        refine Or.inr ⟨i2, sa S s, sb S s, h5, h6, (hS.2 s hs').1, (hS.2 s hs').2, ?_⟩
        cases q : sm S s
        · rw [q] at h7; exact Or.inr ⟨h7, Or.inl ⟨s, hs', i1, q, rfl, rfl⟩⟩
        · rw [q] at h7; exact Or.inl ⟨h7, Or.inl ⟨s, hs', i1, q, rfl, rfl⟩⟩
      · exact Or.inl i2
  · rcases e with ⟨s, hs', i1, q, rfl, rfl⟩ | e
    · obtain ⟨h5, h6, h7, h8⟩ := h.2 s hs'
      rw [q] at h7
      rcases m1 s (by omega) with ⟨_, i2⟩ | ⟨i2, _⟩
      · exact ⟨s, by omega, i2, h5, h6, h7, (hS.2 s hs').1, (hS.2 s hs').2⟩
      · exact absurd i1 i2
    · rcases m3 with ⟨m3, _⟩ | ⟨c, a', b', e', e1, e2, e3, e4⟩
      · rw [e] at m3; cases m3
      · rw [e] at e'; cases e'
        have := hx _ _ _ e
        exact ⟨100, by omega, e1, e2, e3, e4, this.1, this.2⟩
  · rcases e with ⟨s, hs', i1, q, rfl, rfl⟩ | e
    · obtain ⟨h5, h6, h7, h8⟩ := h.2 s hs'
      rw [q] at h7
      rcases m1 s (by omega) with ⟨_, i2⟩ | ⟨i2, _⟩
      · exact ⟨s, by omega, i2, h5, h6, h7, (hS.2 s hs').1, (hS.2 s hs').2⟩
      · exact absurd i1 i2
    · rcases m3 with ⟨m3, _⟩ | ⟨c, a', b', e', e1, e2, e3, e4⟩
      · rw [e] at m3; cases m3
      · rw [e] at e'; cases e'
        have := hx _ _ _ e
        exact ⟨100, by omega, e1, e2, e3, e4, this.1, this.2⟩
theorem takeCourt_loop (hS : S.length ≤ 100) (ht : ∀ s, tk s = true → s < S.length) : ∀ (d i N : Nat) (z : fS), i + d = 101 → d < N → MSy S tk z → (∀ s, s < i → z 21 s = bI (tk s)) → ∃ z', lX9_takeCourt_2 N (nI i) z = some z' ∧ (∀ s, s < 101 → z' 21 s = bI (tk s)) ∧ (∀ j, j ≠ 21 → z' j = z j) := by
  intro d
  induction d with
  | zero =>
    intro i N z hi hN h hz
    obtain ⟨N, rfl⟩ : ∃ M, N = M + 1 := ⟨N - 1, by omega⟩
    refine ⟨z, ?_, fun s hs => hz s (by omega), fun _ _ => rfl⟩
    rw [lX9_takeCourt_2.eq_2]
    simp (disch := omega) only [lit, nI_ltI, if_pos]
  | succ d ih =>
    intro i N z hi hN h hz
    obtain ⟨N, rfl⟩ : ∃ M, N = M + 1 := ⟨N - 1, by omega⟩
    obtain ⟨z', e1, e2, e3⟩ := ih (i + 1) N (wrr z 21 (upd (z 21) i (bI (tk i)))) (by omega) (by omega) (h.fr (by rw [wrr_n (by omega)]) (fun j h1 h2 s hs => by rw [wrr_n (by omega)]) hS) (fun s hs => by
      rw [wrr_e]
      by_cases e : s = i
      · subst e; rw [upd_e]
      · rw [upd_n e]; exact hz s (by omega))
    refine ⟨z', ?_, e2, fun j hj => (e3 j hj).trans (wrr_n hj)⟩
    rw [lX9_takeCourt_2.eq_2]
    by_cases q : i < S.length
    · have h8 := (h.2 i q).2.2.2
      cases hk : tk i
      · rw [hk, bI_f] at h8 e1
        simp (disch := omega) only [lit, nI_ltI, if_neg, h.1, nI_leI, inb_t, gd_t, rd_nI, h8, if_true, zb_0, wr_nI, bnd_s, nI_add]
        exact e1
      · rw [hk, bI_t] at h8 e1
        simp (disch := omega) only [lit, nI_ltI, if_neg, h.1, nI_leI, inb_t, gd_t, rd_nI, h8, nI_eq, zb_1, wr_nI, bnd_s, nI_add]
        exact e1
    · have hk : tk i = false := by
        cases hk : tk i
        · rfl
        · exact absurd (ht i hk) q
      rw [hk, bI_f] at e1
      simp (disch := omega) only [lit, nI_ltI, if_neg, h.1, nI_leI, if_pos, inb_t, gd_t, zb_0, wr_nI, bnd_s, nI_add]
      exact e1
/-- what is taken is put in -/
theorem takeCourt_ok (hS : S.length ≤ 100) (ht : ∀ s, tk s = true → s < S.length) (h : MSy S tk z) : ∃ z', fX9_takeCourt z = some z' ∧ MX S (fun s => tk s = true) none z' ∧ (∀ j, j ≠ 21 → z' j = z j) := by
  obtain ⟨z', e1, e2, e3⟩ := takeCourt_loop hS ht 101 0 FU z (by omega) (by have := FU_ge; omega) h (fun s hs => by omega)
  refine ⟨z', ?_, ⟨fun s hs => ?_, ht, Or.inl ⟨rfl, ?_⟩⟩, e3⟩
  · unfold fX9_takeCourt; simp only [lit]; exact e1
  · have := e2 s (by omega)
    cases hk : tk s
    · rw [hk, bI_f] at this; exact Or.inr ⟨by simp [hk], this⟩
    · rw [hk, bI_t] at this; exact Or.inl ⟨hk, this⟩
  · have hk : tk 100 = false := by
      cases hk : tk 100
      · rfl
      · have := ht 100 hk; omega
    have := e2 100 (by omega)
    rw [hk] at this; exact this
theorem zb_bI (c : Bool) : zb (bI c) = bI c := by cases c; exact zb_0; exact zb_1
theorem add_ok (hm : MX S I none z) {c : Bool} {a b : Nat} : ∃ z', fX9_add z (nI a) (nI b) (bI c) = some z' ∧ MX S I (some (c, a, b)) z' ∧ (∀ j, j ≠ 5 → j ≠ 6 → j ≠ 7 → j ≠ 21 → z' j = z j) ∧ (∀ j s, s ≠ 100 → z' j s = z j s) := by
  refine ⟨wrr (wrr (wrr (wrr z 5 (upd (z 5) 100 (nI a))) 6 (upd (z 6) 100 (nI b))) 7 (upd (z 7) 100 (bI c))) 21 (upd (z 21) 100 (nI 1)), ?_, ⟨fun s hs => ?_, hm.2.1, Or.inr ⟨c, a, b, rfl, ?_, ?_, ?_, ?_⟩⟩, ?_, ?_⟩
  · unfold fX9_add
    simp (disch := omega) only [lit, inb_t, gd_t, wr_nI, bnd_s, wrr_n, zb_bI, zb_1]
  · simp (disch := omega) only [wrr_n, wrr_e, upd_n]; exact hm.1 s hs
  · simp (disch := omega) only [wrr_n, wrr_e, upd_e]
  · simp (disch := omega) only [wrr_n, wrr_e, upd_e]
  · simp (disch := omega) only [wrr_n, wrr_e, upd_e]
  · simp (disch := omega) only [wrr_n, wrr_e, upd_e]
  · intro j h1 h2 h3 h4
    simp (disch := omega) only [wrr_n]
  · intro j s hs
    unfold wrr upd
    by_cases q4 : j = 21
    · subst q4; simp [hs]
    · by_cases q3 : j = 7
      · subst q3; simp [hs]
      · by_cases q2 : j = 6
        · subst q2; simp [hs]
        · by_cases q1 : j = 5
          · subst q1; simp [hs]
          · simp [q1, q2, q3, q4]
end SAY
/-! thinning -/
def ThI (P : (Nat → Prop) → Prop) (A : Nat → Prop) (K : List Nat) : Prop := K.Pairwise (· < ·) ∧ (∀ s, s ∈ K → A s) ∧ ∀ s, A s → (s ∈ K ↔ ¬ P (fun t => (t ∈ K ∧ t < s) ∨ (A t ∧ s < t)))
theorem sorted_eq : ∀ {K L : List Nat}, K.Pairwise (· < ·) → L.Pairwise (· < ·) → (∀ s, s ∈ K ↔ s ∈ L) → K = L
  | [], [], _, _, _ => rfl
  | [], y :: L, _, _, h => by have := (h y).mpr List.mem_cons_self; simp at this
  | x :: K, [], _, _, h => by have := (h x).mp List.mem_cons_self; simp at this
  | x :: K, y :: L, hK, hL, h => by
    obtain ⟨k1, k2⟩ := List.pairwise_cons.mp hK
    obtain ⟨l1, l2⟩ := List.pairwise_cons.mp hL
    have e : x = y := by
      rcases List.mem_cons.mp ((h x).mp List.mem_cons_self) with e | e
      · exact e
      · rcases List.mem_cons.mp ((h y).mpr List.mem_cons_self) with f | f
        · exact f.symm
        · have := l1 x e; have := k1 y f; omega
    subst e
    rw [sorted_eq k2 l2 fun s => ?_]
    constructor
    · intro hs
      rcases List.mem_cons.mp ((h s).mp (List.mem_cons_of_mem _ hs)) with e | e
      · have := k1 s hs; omega
      · exact e
    · intro hs
      rcases List.mem_cons.mp ((h s).mpr (List.mem_cons_of_mem _ hs)) with e | e
      · have := l1 s hs; omega
      · exact e
theorem ThI.uniq {P : (Nat → Prop) → Prop} {A : Nat → Prop} {K L : List Nat} (hK : ThI P A K) (hL : ThI P A L) : K = L := by
  refine sorted_eq hK.1 hL.1 ?_
  intro s
  induction s using Nat.strongRecOn with
  | ind s ih =>
    by_cases ha : A s
    · rw [hK.2.2 s ha, hL.2.2 s ha]
      have e : (fun t => (t ∈ K ∧ t < s) ∨ (A t ∧ s < t)) = (fun t => (t ∈ L ∧ t < s) ∨ (A t ∧ s < t)) := by
        funext t
        refine propext ?_
        by_cases hts : t < s
        · simp only [ih t hts]
        · simp only [hts, and_false]
      rw [e]
    · exact ⟨fun h => absurd (hK.2.1 s h) ha, fun h => absurd (hL.2.1 s h) ha⟩
theorem ThI.len {P : (Nat → Prop) → Prop} {A : Nat → Prop} {K : List Nat} {n : Nat} (hK : ThI P A K) (hA : ∀ s, A s → s < n) : K.length ≤ n :=
  nodup_lt (hK.1.imp fun h e => by omega) fun s hs => hA s (hK.2.1 s hs)
section MTHIN
variable {T : List Tm} {S : List Sy} {tk : Nat → Bool} {x : Option Sy} {z : fS} {P : (Nat → Prop) → Prop} {v1 v2 : Int32}
def DoesOK (T : List Tm) (S : List Sy) (tk : Nat → Bool) (x : Option Sy) (P : (Nat → Prop) → Prop) (v1 v2 : Int32) : Prop := ∀ (I : Nat → Prop) (z : fS), MT T z → MSy S tk z → MX S I x z → ∃ r z', fX9_does z v1 v2 = some (nI r, z') ∧ ((r = 1 ∧ P I) ∨ (r = 0 ∧ ¬ P I)) ∧ (∀ j, j ≠ 20 → j ≠ 0 → z' j = z j) ∧ z' 0 = upd (z 0) 30 (nI 0)
theorem mthin_loop {cell : Nat} (hc : cell = 17 ∨ cell = 18) (hS : S.length ≤ 100) (hd : DoesOK T S tk x P v1 v2) : ∀ (d i N : Nat) (K : List Nat) (z : fS), i + d = S.length → d < N → MT T z → MSy S tk z → MX S (fun t => t ∈ K ∨ (tk t = true ∧ i ≤ t)) x z → (∀ s, tk s = true → s < S.length) → K.Pairwise (· < ·) → (∀ s, s ∈ K → tk s = true ∧ s < i) → (∀ s, tk s = true → s < i → (s ∈ K ↔ ¬ P (fun t => (t ∈ K ∧ t < s) ∨ (tk t = true ∧ s < t)))) → (∀ j, j < K.length → z cell j = nI (K.getD j 0)) → ∃ K' z', lX9_thin_6 cell v1 v2 N (nI K.length) (nI i) z = some (nI K'.length, z') ∧ ThI P (fun s => tk s = true) K' ∧ (∀ j, j < K'.length → z' cell j = nI (K'.getD j 0)) ∧ (∀ j, j ≠ 0 → j ≠ 20 → j ≠ 21 → j ≠ cell → z' j = z j) ∧ (∀ f, f ≠ 30 → z' 0 f = z 0 f) ∧ (z' 0 30 = nI 0 ∨ (z' 20 = z 20 ∧ z' 0 30 = z 0 30)) := by
  intro d
  induction d with
  | zero =>
    intro i N K z hi hN hT hM hX ht k1 k2 k3 k4
    obtain ⟨N, rfl⟩ : ∃ M, N = M + 1 := ⟨N - 1, by omega⟩
    refine ⟨K, z, ?_, ⟨k1, fun s hs => (k2 s hs).1, fun s hs => k3 s hs (by have := ht s hs; omega)⟩, k4, fun _ _ _ _ _ => rfl, fun _ _ => rfl, Or.inr ⟨rfl, rfl⟩⟩
    rw [lX9_thin_6.eq_2]
    simp (disch := omega) only [hM.1, nI_leI, if_pos]
  | succ d ih =>
    intro i N K z hi hN hT hM hX ht k1 k2 k3 k4
    obtain ⟨N, rfl⟩ : ∃ M, N = M + 1 := ⟨N - 1, by omega⟩
    have hKl : K.length ≤ i := nodup_lt (k1.imp fun h e => by omega) fun s hs => (k2 s hs).2
    rw [lX9_thin_6.eq_2]
    cases hk : tk i
    · have hin : ¬ (i ∈ K ∨ (tk i = true ∧ i ≤ i)) := by
        rintro (h | h)
        · have := (k2 i h).2; omega
        · rw [hk] at h; exact absurd h.1 (by simp)
      have e21 : z 21 i = nI 0 := by
        rcases hX.1 i (by omega) with ⟨h, _⟩ | ⟨_, h⟩
        · exact absurd h hin
        · exact h
      have eX : (fun t => t ∈ K ∨ (tk t = true ∧ i ≤ t)) = (fun t => t ∈ K ∨ (tk t = true ∧ i + 1 ≤ t)) := by
        funext t
        refine propext ⟨?_, ?_⟩
        · rintro (h | ⟨h1, h2⟩)
          · exact Or.inl h
          · rcases Nat.eq_or_lt_of_le h2 with rfl | h2
            · rw [hk] at h1; simp at h1
            · exact Or.inr ⟨h1, h2⟩
        · rintro (h | ⟨h1, h2⟩)
          · exact Or.inl h
          · exact Or.inr ⟨h1, by omega⟩
      rw [eX] at hX
      obtain ⟨K', z', e1, e2⟩ := ih (i + 1) N K z (by omega) (by omega) hT hM hX ht k1 (fun s hs => ⟨(k2 s hs).1, by have := (k2 s hs).2; omega⟩) (fun s h1 h2 => k3 s h1 (by
        rcases Nat.eq_or_lt_of_le (Nat.le_of_lt_succ h2) with rfl | h2
        · rw [hk] at h1; simp at h1
        · exact h2)) k4
      refine ⟨K', z', ?_, e2⟩
      simp (disch := omega) only [hM.1, nI_leI, if_neg, inb_t, gd_t, rd_nI, e21, lit, if_true, bnd_s, nI_add]
      exact e1
    · have e21 : z 21 i = nI 1 := by
        rcases hX.1 i (by omega) with ⟨_, h⟩ | ⟨h, _⟩
        · exact h
        · exact absurd (Or.inr ⟨hk, Nat.le_refl _⟩) h
      -- taken out
      obtain ⟨z1, hz1⟩ : ∃ y : fS, y = wrr z 21 (upd (z 21) i (nI 0)) := ⟨_, rfl⟩
      have f1 : ∀ j, j ≠ 21 → z1 j = z j := fun j hj => by rw [hz1]; exact wrr_n hj
      have hT1 : MT T z1 := hT.fr (by rw [f1 0 (by omega)]) fun j h1 h2 => f1 j (by omega)
      have hM1 : MSy S tk z1 := hM.fr (by rw [f1 0 (by omega)]) (fun j h1 h2 s hs => by rw [f1 j (by omega)]) hS
      have hX1 : MX S (fun t => t ∈ K ∨ (tk t = true ∧ i + 1 ≤ t)) x z1 := by
        refine ⟨fun s hs => ?_, fun s hs => ?_, ?_⟩
        · by_cases e : s = i
          · subst e
            refine Or.inr ⟨?_, by rw [hz1, wrr_e, upd_e]⟩
            rintro (h | h)
            · have := (k2 s h).2; omega
            · omega
          · have e2 : z1 21 s = z 21 s := by rw [hz1, wrr_e, upd_n e]
            rw [e2]
            rcases hX.1 s hs with ⟨h1, h2⟩ | ⟨h1, h2⟩
            · refine Or.inl ⟨?_, h2⟩
              rcases h1 with h1 | h1
              · exact Or.inl h1
              · exact Or.inr ⟨h1.1, by omega⟩
            · refine Or.inr ⟨fun h => h1 ?_, h2⟩
              rcases h with h | h
              · exact Or.inl h
              · exact Or.inr ⟨h.1, by omega⟩
        · rcases hs with hs | hs
          · exact ht s (k2 s hs).1
          · exact ht s hs.1
        · have e100 : z1 21 100 = z 21 100 := by rw [hz1, wrr_e, upd_n (by omega)]
          rw [e100, f1 5 (by omega), f1 6 (by omega), f1 7 (by omega)]
          exact hX.2.2
      obtain ⟨r, z2, g1, g2, g3, g4⟩ := hd _ z1 hT1 hM1 hX1
      have e30 : ∀ f, f ≠ 30 → z2 0 f = z 0 f := fun f hf => by rw [g4, f1 0 (by omega), upd_n hf]
      have e30' : z2 0 30 = nI 0 := by rw [g4, upd_e]
      have g0 : ∀ j, j ≠ 0 → j ≠ 20 → j ≠ 21 → z2 j = z j := fun j h0 h1 h2 => by rw [g3 j h1 h0, f1 j h2]
      have hT2 : MT T z2 := hT.fr (e30 4 (by omega)) fun j h1 h2 => g0 j (by omega) (by omega) (by omega)
      have hM2 : MSy S tk z2 := hM.fr (e30 9 (by omega)) (fun j h1 h2 s hs => by rw [g0 j (by omega) (by omega) (by omega)]) hS
      have hX2 : MX S (fun t => t ∈ K ∨ (tk t = true ∧ i + 1 ≤ t)) x z2 := hX1.fr (g3 5 (by omega) (by omega)) (g3 6 (by omega) (by omega)) (g3 7 (by omega) (by omega)) (g3 21 (by omega) (by omega))
      have eP : (fun t => t ∈ K ∨ (tk t = true ∧ i + 1 ≤ t)) = (fun t => (t ∈ K ∧ t < i) ∨ (tk t = true ∧ i < t)) := by
        funext t
        refine propext ⟨?_, ?_⟩
        · rintro (h | h)
          · exact Or.inl ⟨h, (k2 t h).2⟩
          · exact Or.inr h
        · rintro (h | h)
          · exact Or.inl h.1
          · exact Or.inr h
      rcases g2 with ⟨rfl, hp⟩ | ⟨rfl, hp⟩
      · rw [eP] at hp
        obtain ⟨K', z', e1, e2, e3, e4, e5, e6⟩ := ih (i + 1) N K z2 (by omega) (by omega) hT2 hM2 hX2 ht k1 (fun s hs => ⟨(k2 s hs).1, by have := (k2 s hs).2; omega⟩) (fun s h1 h2 => by
          rcases Nat.eq_or_lt_of_le (Nat.le_of_lt_succ h2) with rfl | h2
          · exact ⟨fun h => by have := (k2 s h).2; omega, fun h => absurd hp h⟩
          · exact k3 s h1 h2) (fun j hj => by rw [g0 cell (by omega) (by omega) (by omega)]; exact k4 j hj)
        refine ⟨K', z', ?_, e2, e3, fun j h0 h1 h2 h3 => (e4 j h0 h1 h2 h3).trans (g0 j h0 h1 h2), fun f hf => (e5 f hf).trans (e30 f hf), Or.inl (by rcases e6 with e6 | ⟨_, e6⟩; exact e6; exact e6.trans e30')⟩
        rw [hz1] at g1
        simp (disch := omega) only [hM.1, nI_leI, if_neg, inb_t, gd_t, rd_nI, e21, lit, nI_eq, zb_0, wr_nI, bnd_s, nI_add, g1, bd_s]
        exact e1
      · rw [eP] at hp
        have hni : ∀ s, s ∈ K ++ [i] ↔ s ∈ K ∨ s = i := fun s => by simp
        obtain ⟨z3, hz3⟩ : ∃ y : fS, y = wrr (wrr z2 21 (upd (z2 21) i (nI 1))) cell (upd (z2 cell) K.length (nI i)) := ⟨_, rfl⟩
        have f3 : ∀ j, j ≠ 21 → j ≠ cell → z3 j = z2 j := fun j h1 h2 => by rw [hz3, wrr_n h2, wrr_n h1]
        have f21 : z3 21 = upd (z2 21) i (nI 1) := by rw [hz3, wrr_n (by omega), wrr_e]
        have fc : z3 cell = upd (z2 cell) K.length (nI i) := by rw [hz3, wrr_e]
        have lenK : (K ++ [i]).length = K.length + 1 := by simp
        obtain ⟨K', z', e1, e2, e3, e4, e5, e6⟩ := ih (i + 1) N (K ++ [i]) z3 (by omega) (by omega) (hT2.fr (by rw [f3 0 (by omega) (by omega)]) fun j h1 h2 => f3 j (by omega) (by omega)) (hM2.fr (by rw [f3 0 (by omega) (by omega)]) (fun j h1 h2 s hs => by rw [f3 j (by omega) (by omega)]) hS) ⟨fun s hs => by
            rw [f21]
            by_cases e : s = i
            · subst e
              exact Or.inl ⟨Or.inl ((hni s).mpr (Or.inr rfl)), upd_e⟩
            · rw [upd_n e]
              rcases hX2.1 s hs with ⟨h1, h2⟩ | ⟨h1, h2⟩
              · refine Or.inl ⟨?_, h2⟩
                rcases h1 with h1 | h1
                · exact Or.inl ((hni s).mpr (Or.inl h1))
                · exact Or.inr h1
              · refine Or.inr ⟨fun h => h1 ?_, h2⟩
                rcases h with h | h
                · rcases (hni s).mp h with h | h
                  · exact Or.inl h
                  · exact absurd h e
                · exact Or.inr h, fun s hs => by
            rcases hs with hs | hs
            · rcases (hni s).mp hs with h | h
              · exact ht s (k2 s h).1
              · omega
            · exact ht s hs.1, by
            rw [f21, upd_n (by omega), f3 5 (by omega) (by omega), f3 6 (by omega) (by omega), f3 7 (by omega) (by omega)]
            exact hX2.2.2⟩ ht (List.pairwise_append.mpr ⟨k1, by simp, fun a ha b hb => by
              have := (k2 a ha).2; simp at hb; omega⟩) (fun s hs => by
            rcases (hni s).mp hs with h | h
            · exact ⟨(k2 s h).1, by have := (k2 s h).2; omega⟩
            · subst h; exact ⟨hk, by omega⟩) (fun s h1 h2 => by
            have eQ : (fun t => (t ∈ K ++ [i] ∧ t < s) ∨ (tk t = true ∧ s < t)) = (fun t => (t ∈ K ∧ t < s) ∨ (tk t = true ∧ s < t)) := by
              funext t
              refine propext ⟨?_, ?_⟩
              · rintro (⟨h, h'⟩ | h)
                · rcases (hni t).mp h with h | h
                  · exact Or.inl ⟨h, h'⟩
                  · omega
                · exact Or.inr h
              · rintro (⟨h, h'⟩ | h)
                · exact Or.inl ⟨(hni t).mpr (Or.inl h), h'⟩
                · exact Or.inr h
            rw [eQ]
            rcases Nat.eq_or_lt_of_le (Nat.le_of_lt_succ h2) with rfl | h2
            · exact ⟨fun _ => hp, fun _ => (hni s).mpr (Or.inr rfl)⟩
            · rw [← k3 s h1 h2, hni s]
              exact ⟨fun h => by
                rcases h with h | h
                · exact h
                · omega, Or.inl⟩) (fun j hj => by
            rw [fc]
            rw [lenK] at hj
            by_cases e : j = K.length
            · subst e; rw [upd_e, gD_r]
            · rw [upd_n e, gD_l (by omega), g0 cell (by omega) (by omega) (by omega)]
              exact k4 j (by omega))
        refine ⟨K', z', ?_, e2, e3, fun j h0 h1 h2 h3 => ((e4 j h0 h1 h2 h3).trans (f3 j h2 h3)).trans (g0 j h0 h1 h2), fun f hf => by rw [e5 f hf, f3 0 (by omega) (by omega)]; exact e30 f hf, Or.inl (by rcases e6 with e6 | ⟨_, e6⟩; exact e6; rw [e6, f3 0 (by omega) (by omega)]; exact e30')⟩
        rw [hz1] at g1
        rw [lenK, hz3] at e1
        simp (disch := omega) only [hM.1, nI_leI, if_neg, inb_t, gd_t, rd_nI, e21, lit, nI_eq, zb_0, zb_1, wr_nI, bnd_s, nI_add, g1, bd_s, if_true, wrr_n]
        exact e1
end MTHIN
