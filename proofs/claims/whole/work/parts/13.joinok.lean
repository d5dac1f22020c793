/-! join, from its start to its end -/
section JOK
variable {T : List Tm} {E : Nat → Nat → Prop} {pb k : Nat} {ro : Nat → Nat} {Q : List (Nat × Nat)} {C : List Nat} {z : fS}
theorem join_98_0 {rc : Int32 → fS → Option fS} {v3 a b : Int32} : jX4_join_98 pb rc v3 a b (nI 0) z = bp (fX4_unite pb z a b) fun z1 => bp (fX4_uniteRows pb z1 a b) fun z2 => rc (v3 + nI 1) z2 := by
  unfold jX4_join_98 jX4_join_113 jX4_join_125 jX4_join_141
  simp only [lit, if_true, bnd_s]
theorem join_98_1 {rc : Int32 → fS → Option fS} {v3 a b : Int32} : jX4_join_98 pb rc v3 a b (nI 1) z = bp (fX4_unite pb z b a) fun z1 => bp (fX4_uniteRows pb z1 b a) fun z2 => rc (v3 + nI 1) z2 := by
  unfold jX4_join_98 jX4_join_113 jX4_join_125 jX4_join_141
  simp (disch := omega) only [lit, nI_eq, if_neg, bnd_s]
/-- what join leaves behind: all is closed, or two unlike numbers met -/
def Jd (T : List Tm) (E : Nat → Nat → Prop) (pb k : Nat) (z : fS) : Prop :=
  HA [] [] z ∧ ((∃ ro, JI T E pb k ro [] [] z) ∨ (z pb 13 = nI 1 ∧ ∃ u v, u < k ∧ v < k ∧ u ≠ v ∧ kd T u = nI 1 ∧ kd T v = nI 1 ∧ One T k E u v))
theorem join_loop (hp : isPb pb) (hk : k ≤ T.length) (hW : WT T) : ∀ (F : Nat) (ro : Nat → Nat) (C : List Nat) (Q : List (Nat × Nat)) (z : fS) (turn N : Nat), JI T E pb k ro C Q z → 300 * cnt (fun r => decide (ro r = r)) k + 2 * C.length + Q.length ≤ F → turn + F < 1000000 → F < N → Q.length + cnt (fun r => decide (ro r = r)) k ≤ 121 → ∃ z', lX4_join_11 pb N (nI turn) z = some z' ∧ Jd T E pb k z' ∧ (∀ j, ¬ (23 ≤ j ∧ j ≤ 27) → ¬ (pb ≤ j ∧ j ≤ pb + 9) → z' j = z j) := by
  have hpn := hp.ne
  have hT1 := hW.1
  intro F
  induction F with
  | zero =>
    intro ro C Q z turn N h hF ht hN hq
    obtain ⟨N, rfl⟩ : ∃ M, N = M + 1 := ⟨N - 1, by omega⟩
    have hC : C = [] := List.length_eq_zero_iff.mp (by omega)
    have hQ : Q = [] := List.length_eq_zero_iff.mp (by omega)
    subst hC; subst hQ
    have h' := h
    obtain ⟨⟨hT, hPl, hS, hN0, hR, hH, hA⟩, _⟩ := h'
    obtain ⟨z1, e1, e2, e3⟩ := clear_ok hA
    refine ⟨z1, ?_, ⟨e2, Or.inl ⟨ro, ?_⟩⟩, fun j c1 c2 => e3 j (by omega) (by omega)⟩
    · rw [lX4_join_11.eq_2, hasPair_ok hA (by simp), hasChanged_ok hA, hN0.1]
      simp (disch := omega) only [lit, nI_leI, if_neg, if_true, bp_s, e1]
    · obtain ⟨_, s1, s2, s3, s4, s5, s6, s7, s8⟩ := h
      refine ⟨⟨hT.fr fun j hj => e3 j (by omega) (by omega), hPl.fr fun j hj => e3 j (by omega) (by omega), hS.fr fun j h1 h2 => e3 j (by omega) (by omega), hN0.fr fun j h1 h2 => e3 j (by omega) (by omega), hR.fr (e3 _ (by omega) (by omega)), hH.fr fun j h1 h2 => e3 j (by omega) (by omega), e2⟩, s1, s2, s3, s4, ?_, ?_, ?_, ?_⟩
      all_goals (first | rw [e3 (pb + 6) (by omega) (by omega)] | rw [e3 (pb + 9) (by omega) (by omega)])
      all_goals assumption
  | succ F ih =>
    intro ro C Q z turn N h hF ht hN hq
    obtain ⟨N, rfl⟩ : ∃ M, N = M + 1 := ⟨N - 1, by omega⟩
    have h' := h
    obtain ⟨⟨hT, hPl, hS, hN0, hR, hH, hA⟩, s1, s2, s3, s4, s5, s6, s7, s8⟩ := h'
    have hkk := hS.2.1
    rw [lX4_join_11.eq_2, hasPair_ok hA (by omega), hasChanged_ok hA, hN0.1]
    by_cases hQ : Q = []
    · subst hQ
      by_cases hC : C = []
      · subst hC
        obtain ⟨z1, e1, e2, e3⟩ := clear_ok hA
        refine ⟨z1, ?_, ⟨e2, Or.inl ⟨ro, ?_⟩⟩, fun j c1 c2 => e3 j (by omega) (by omega)⟩
        · simp (disch := omega) only [lit, nI_leI, if_neg, if_true, bp_s, e1]
        · refine ⟨⟨hT.fr fun j hj => e3 j (by omega) (by omega), hPl.fr fun j hj => e3 j (by omega) (by omega), hS.fr fun j h1 h2 => e3 j (by omega) (by omega), hN0.fr fun j h1 h2 => e3 j (by omega) (by omega), hR.fr (e3 _ (by omega) (by omega)), hH.fr fun j h1 h2 => e3 j (by omega) (by omega), e2⟩, s1, s2, s3, s4, ?_, ?_, ?_, ?_⟩
          all_goals (first | rw [e3 (pb + 6) (by omega) (by omega)] | rw [e3 (pb + 9) (by omega) (by omega)])
          all_goals assumption
      · obtain ⟨C0, t, rfl⟩ := lastx hC
        obtain ⟨z1, e1, e2, e3⟩ := takeChanged_ok hA
        obtain ⟨z2, Q', f1, f2, f3, f4⟩ := JI.review hp hk hW h e3 e2
        have hcl := cnt_le (fun r => decide (ro r = r)) k
        simp only [List.length_append, List.length_singleton, List.length_nil] at hF hq
        obtain ⟨z', g1, g2, g3⟩ := ih ro C0 Q' z2 (turn + 1) N f3 (by omega) (by omega) (by omega) (by omega)
        refine ⟨z', ?_, g2, fun j c1 c2 => (g3 j c1 c2).trans ((f4 j c1 c2).trans (e3 j (by omega) (by omega)))⟩
        simp (disch := omega) only [lit, nI_leI, if_neg, if_true, bp_s, hC, if_false, nI_eq, e1, bd_s, f1, bnd_s, nI_add]
        exact g1
    · obtain ⟨Q0, ⟨a, b⟩, rfl⟩ := lastx hQ
      simp only [List.length_append, List.length_singleton] at hF hq
      obtain ⟨e1, e2, z1, e3, e4, e5⟩ := lastPair_ok hA (by omega)
      obtain ⟨p1, p2, p3⟩ := s2 (a, b) (by simp)
      have ra := hS.2.2.1 a p1
      have rb := hS.2.2.1 b p2
      by_cases hab : ro a = ro b
      · have h1 : JI T E pb k ro C Q0 z1 := by
          have up : ∀ x y, Eqv ro (Q0 ++ [(a, b)]) x y → Eqv ro Q0 x y := fun x y e => e.step (fun _ _ e => e) hab (fun q hq => hq)
          refine ⟨⟨hT.fr fun j hj => e5 j (by omega), hPl.fr fun j hj => e5 j (by omega), hS.fr fun j h1 h2 => e5 j (by omega), hN0.fr fun j h1 h2 => e5 j (by omega), hR.fr (e5 _ (by omega)), hH.fr fun j h1 h2 => e5 j (by omega), e4⟩, s1, fun q hq => s2 q (List.mem_append_left _ hq), s3, fun x y e => up _ _ (s4 x y e), ?_, ?_, ?_, ?_⟩
          · rw [e5 (pb + 6) (by omega)]
            intro r x c1 c2 c3 c4 y c5 c6 c7
            have := s5 r x c1 c2 c3 c4 y c5 c6 c7
            exact ⟨up _ _ this.1, up _ _ this.2⟩
          · rw [e5 (pb + 9) (by omega)]; exact s6
          · rw [e5 (pb + 9) (by omega)]
            intro t c1 c2 c3 c4
            obtain ⟨u, u1, u2, u3, u4⟩ := s7 t c1 c2 c3 c4
            exact ⟨u, u1, u2, up _ _ u3, u4⟩
          · rw [e5 (pb + 9) (by omega)]; exact s8
        obtain ⟨z', g1, g2, g3⟩ := ih ro C Q0 z1 (turn + 1) N h1 (by omega) (by omega) (by omega) (by omega)
        refine ⟨z', ?_, g2, fun j c1 c2 => (g3 j c1 c2).trans (e5 j (by omega))⟩
        simp (disch := omega) only [lit, nI_leI, if_neg, if_true, hQ, if_false, bp_s, nI_eq, e1, e2, e3, inb_t, gd_t, rd_nI, ra.1, rb.1, bnd_s, hab, nI_add]
        exact g1
      · -- a union
        have sa : z1 (pb + 3) = z (pb + 3) := e5 _ (by omega)
        obtain ⟨la, _, a2, a3, a4, _⟩ := hS.2.2.2.1 (ro a) ra.2.1 ra.2.2
        obtain ⟨lb, _, b2, b3, b4, _⟩ := hS.2.2.2.1 (ro b) rb.2.1 rb.2.2
        have hla : la.length + 1 ≤ 120 := by
          have := nodup_lt a2 (n := 120) (fun x hx => by have := ((a3 x).mp hx).1; omega)
          simpa using this
        have hlb : lb.length + 1 ≤ 120 := by
          have := nodup_lt b2 (n := 120) (fun x hx => by have := ((b3 x).mp hx).1; omega)
          simpa using this
        have fin : ∀ keep lose : Nat, ((keep = ro a ∧ lose = ro b) ∨ (keep = ro b ∧ lose = ro a)) → keep ≠ lose → ∃ z', (bp (fX4_unite pb z1 (nI keep) (nI lose)) fun z2 => bp (fX4_uniteRows pb z2 (nI keep) (nI lose)) fun z3 => lX4_join_11 pb N (nI turn + nI 1) z3) = some z' ∧ Jd T E pb k z' ∧ (∀ j, ¬ (23 ≤ j ∧ j ≤ 27) → ¬ (pb ≤ j ∧ j ≤ pb + 9) → z' j = z1 j) := by
          intro keep lose hkl hne
          obtain ⟨z2, z3, C', Q', f1, f2, f3, f4, f5, f6, f7⟩ := JI.union hp hk hW h (by omega) e5 e4 hkl hne
          have hC' := f4.Cle
          simp only [f1, bp_s, f2, nI_add]
          rcases f7 with f7 | ⟨f7, f8⟩
          · obtain ⟨z', g1, g2, g3⟩ := ih (mg ro keep lose) C' Q' z3 (turn + 1) N f7 (by omega) (by omega) (by omega) (by omega)
            exact ⟨z', g1, g2, fun j c1 c2 => (g3 j c1 c2).trans (f5 j c1 c2)⟩
          · obtain ⟨N, rfl⟩ : ∃ M, N = M + 1 := ⟨N - 1, by omega⟩
            obtain ⟨z4, g1, g2, g3⟩ := clear_ok f4
            refine ⟨z4, ?_, ⟨g2, Or.inr ⟨by rw [g3 pb (by omega) (by omega)]; exact f7, f8⟩⟩, fun j c1 c2 => (g3 j (by omega) (by omega)).trans (f5 j c1 c2)⟩
            rw [lX4_join_11.eq_2, f7]
            simp (disch := omega) only [lit, nI_leI, if_neg, nI_eq, g1, bp_s]
        by_cases hsz : lb.length + 1 ≤ la.length + 1
        · obtain ⟨z', g1, g2, g3⟩ := fin (ro a) (ro b) (Or.inl ⟨rfl, rfl⟩) hab
          refine ⟨z', ?_, g2, fun j c1 c2 => (g3 j c1 c2).trans (e5 j (by omega))⟩
          simp (disch := omega) only [lit, nI_leI, if_neg, if_pos, if_true, hQ, if_false, bp_s, nI_eq, e1, e2, e3, inb_t, gd_t, rd_nI, ra.1, rb.1, bnd_s, hab, sa, a4, b4, join_98_0]
          exact g1
        · obtain ⟨z', g1, g2, g3⟩ := fin (ro b) (ro a) (Or.inr ⟨rfl, rfl⟩) (fun e => hab e.symm)
          refine ⟨z', ?_, g2, fun j c1 c2 => (g3 j c1 c2).trans (e5 j (by omega))⟩
          simp (disch := omega) only [lit, nI_leI, if_neg, if_true, hQ, if_false, bp_s, nI_eq, e1, e2, e3, inb_t, gd_t, rd_nI, ra.1, rb.1, bnd_s, hab, sa, a4, b4, join_98_1]
          exact g1
/-- join: a and b are made one -/
theorem join_ok (hp : isPb pb) (hk : k ≤ T.length) (hW : WT T) (h : JI T E pb k ro C [] z) {a b : Nat} (ha : a < k) (hb : b < k) : ∃ z', fX4_join pb z (nI a) (nI b) = some z' ∧ Jd T (fun x y => E x y ∨ (x = a ∧ y = b)) pb k z' ∧ (∀ j, ¬ (23 ≤ j ∧ j ≤ 27) → ¬ (pb ≤ j ∧ j ≤ pb + 9) → z' j = z j) := by
  have hpn := hp.ne
  obtain ⟨⟨hT, hPl, hS, hN0, hR, hH, hA⟩, s1, s2, s3, s4, s5, s6, s7, s8⟩ := h
  obtain ⟨z1, e1, e2, e3⟩ := putPair_ok (a := a) (b := b) hA (by simp)
  have hkk := hS.2.1
  have hE : ∀ x y, One T k E x y → One T k (fun x y => E x y ∨ (x = a ∧ y = b)) x y := fun x y q => q.mono fun _ _ e => Or.inl e
  have up : ∀ x y, Eqv ro [] x y → Eqv ro [(a, b)] x y := fun x y e => e.le (fun _ _ q => Eqv.fb q) (fun q hq => by simp at hq)
  have h1 : JI T (fun x y => E x y ∨ (x = a ∧ y = b)) pb k ro C [(a, b)] z1 := by
    refine ⟨⟨hT.fr fun j hj => e3 j (by omega) (by omega) (by omega), hPl.fr fun j hj => e3 j (by omega) (by omega) (by omega), hS.fr fun j h1 h2 => e3 j (by omega) (by omega) (by omega), hN0.fr fun j h1 h2 => e3 j (by omega) (by omega) (by omega), hR.fr (e3 _ (by omega) (by omega) (by omega)), hH.fr fun j h1 h2 => e3 j (by omega) (by omega) (by omega), e2⟩, fun x y hx hy e => hE _ _ (s1 x y hx hy e), ?_, s3, ?_, ?_, ?_, ?_, ?_⟩
    · intro q hq
      have : q = (a, b) := by simpa using hq
      subst this
      exact ⟨ha, hb, One.of (Or.inr ⟨rfl, rfl⟩)⟩
    · intro x y e
      rcases e with e | ⟨rfl, rfl⟩
      · exact up _ _ (s4 x y e)
      · exact Eqv.pr (by simp)
    · rw [e3 (pb + 6) (by omega) (by omega) (by omega)]
      intro r x c1 c2 c3 c4 y c5 c6 c7
      have := s5 r x c1 c2 c3 c4 y c5 c6 c7
      exact ⟨up _ _ this.1, up _ _ this.2⟩
    · rw [e3 (pb + 9) (by omega) (by omega) (by omega)]; exact s6
    · rw [e3 (pb + 9) (by omega) (by omega) (by omega)]
      intro t c1 c2 c3 c4
      obtain ⟨u, u1, u2, u3, u4⟩ := s7 t c1 c2 c3 c4
      exact ⟨u, u1, u2, up _ _ u3, u4⟩
    · rw [e3 (pb + 9) (by omega) (by omega) (by omega)]; exact s8
  have hcl := cnt_le (fun r => decide (ro r = r)) k
  have hC := hA.Cle
  obtain ⟨z', g1, g2, g3⟩ := join_loop hp hk hW 100000 ro C [(a, b)] z1 0 FU h1 (by simp; omega) (by omega) (by have := FU_ge; omega) (by simp; omega)
  refine ⟨z', ?_, g2, fun j c1 c2 => (g3 j c1 c2).trans (e3 j (by omega) (by omega) (by omega))⟩
  unfold fX4_join
  rw [e1, bp_s]
  exact g1
end JOK
