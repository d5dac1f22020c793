/-! new terms are admitted -/
section ADF
variable {T R : List Tm} {S : List Sy} {tk : Nat → Bool} {lv : Nat} {rm : Nat → Nat → Bool} {ps pt i : Nat} {zX zM z z' z1 zM1 : fS} {E U : Nat → Nat → Prop} {tm : Tm}
theorem noCl_step (hW : WT T) {k : Nat} (hk : k < T.length) (hE : ∀ a b, E a b → a < k ∧ b < k) (hU : ∀ a b, U a b → a < k ∧ b < k) (h : ¬ Cl T k E U) : ¬ Cl T (k + 1) E U := by
  have ex := One.ext hW hk hE
  rintro (⟨a, b, h1, h2⟩ | ⟨u, v, u1, u2, u3, u4, u5, u6⟩)
  · have := hU a b h1
    exact h (Or.inl ⟨a, b, h1, ex.1 a b this.1 this.2 h2⟩)
  · by_cases q1 : u = k
    · subst q1
      have := ex.2 ((hW.2 u hk).2.2.2.2.1 u4) v u2 u6
      exact u3 this.symm
    · by_cases q2 : v = k
      · subst q2
        have := ex.2 ((hW.2 v hk).2.2.2.2.1 u5) u u1 u6.sm
        exact u3 this
      · exact h (Or.inr ⟨u, v, by omega, by omega, u3, u4, u5, ex.1 u v (by omega) (by omega) u6⟩)
theorem noCl_steps (hW : WT T) : ∀ (d k : Nat), k + d = T.length → (∀ a b, E a b → a < k ∧ b < k) → (∀ a b, U a b → a < k ∧ b < k) → ¬ Cl T k E U → ¬ Cl T T.length E U := by
  intro d
  induction d with
  | zero => intro k hk _ _ h; rw [show T.length = k by omega]; exact h
  | succ d ih =>
    intro k hk hE hU h
    exact ih (k + 1) (by omega) (fun a b e => by have := hE a b e; omega) (fun a b e => by have := hU a b e; omega) (noCl_step hW (by omega) hE hU h)
theorem Cl.ag {T' : List Tm} {k : Nat} (hg : AgT T T' k) (h : Cl T' k E U) : Cl T k E U := by
  rcases h with ⟨a, b, h1, h2⟩ | ⟨u, v, u1, u2, u3, u4, u5, u6⟩
  · exact Or.inl ⟨a, b, h1, hg.symm.one h2⟩
  · rw [hg.kd u1] at u4
    rw [hg.kd u2] at u5
    exact Or.inr ⟨u, v, u1, u2, u3, u4, u5, hg.symm.one u6⟩
theorem EX_lt {I : Nat → Prop} (hS : WS T.length S) {a b : Nat} (h : EX S I none a b) : a < T.length ∧ b < T.length := by
  rcases h with ⟨s, s1, _, _, rfl, rfl⟩ | h
  · exact hS.2 s s1
  · cases h
theorem UX_lt {I : Nat → Prop} (hS : WS T.length S) {a b : Nat} (h : UX S I none a b) : a < T.length ∧ b < T.length := by
  rcases h with ⟨s, s1, _, _, rfl, rfl⟩ | h
  · exact hS.2 s s1
  · cases h
theorem Cs.grow (hW : WT (T ++ R)) (hS : WS T.length S) (h : Cs T S tk) : Cs (T ++ R) S tk := by
  refine ⟨h.1, ?_⟩
  refine noCl_steps hW R.length T.length (by simp) (fun a b e => EX_lt hS e) (fun a b e => UX_lt hS e) fun hc => h.2 ?_
  exact hc.ag (AgT.app T R (Nat.le_refl _))
theorem RB.grow (hW : WT (T ++ R)) (h : RB T S tk lv rm) : RB (T ++ R) S tk lv rm := by
  obtain ⟨h1, h2, h3, h4⟩ := h
  refine ⟨⟨h1.1, fun s hs => ?_⟩, h2.grow hW h1, h3, fun l hl => (h4 l hl).grow hW h1⟩
  have := h1.2 s hs
  simp
  omega
theorem adm_loop (hW : WT T) (hp : isPb ps) (h28 : ps ≠ 28) : ∀ (d k N : Nat) (ro1 ro2 : Nat → Nat) (z : fS), k + d = T.length → d < N → pcell (z 17 3) = ps → (∀ a b, E a b → a < k ∧ b < k) → JI T (fun _ _ => False) 28 k ro1 [] [] z → JI T E ps k ro2 [] [] z → ∃ z' ro1' ro2', lX2_admitFrom_2 N (nI k) z = some z' ∧ JI T (fun _ _ => False) 28 T.length ro1' [] [] z' ∧ JI T E ps T.length ro2' [] [] z' ∧ (∀ j, ¬ (23 ≤ j ∧ j ≤ 37) → ¬ (ps ≤ j ∧ j ≤ ps + 9) → z' j = z j) := by
  have hT1 := hW.1
  have hd : 38 ≤ ps := by rcases hp with rfl | rfl | rfl <;> omega
  intro d
  induction d with
  | zero =>
    intro k N ro1 ro2 z hk hN h17 hE j1 j2
    obtain ⟨N, rfl⟩ : ∃ M, N = M + 1 := ⟨N - 1, by omega⟩
    have e : k = T.length := by omega
    subst e
    refine ⟨z, ro1, ro2, ?_, j1, j2, fun _ _ _ => rfl⟩
    rw [lX2_admitFrom_2.eq_2]
    unfold fX7_count
    simp (disch := omega) only [j1.1.1.1, bp_s, nI_leI, Nat.le_refl, if_true]
  | succ d ih =>
    intro k N ro1 ro2 z hk hN h17 hE j1 j2
    obtain ⟨N, rfl⟩ : ∃ M, N = M + 1 := ⟨N - 1, by omega⟩
    obtain ⟨z1, r1, a1, a2, a3⟩ := admit_ok (Or.inl rfl) (show k < T.length by omega) hW (fun _ _ h => h.elim) j1
    have j2' := j2.fr2 a2.agenda fun j hj => a3 j (by omega) (by omega)
    obtain ⟨z2, r2, b1, b2, b3⟩ := admit_ok hp (show k < T.length by omega) hW hE j2'
    have j1' := a2.fr2 b2.agenda fun j hj => b3 j (by omega) (by omega)
    have e17 : pcell (z1 17 3) = ps := by rw [a3 17 (by omega) (by omega)]; exact h17
    obtain ⟨z', ro1', ro2', e1, e2, e3, e4⟩ := ih (k + 1) N r1 r2 z2 (by omega) (by omega) (by rw [b3 17 (by omega) (by omega)]; exact e17) (fun a b e => by have := hE a b e; omega) j1' b2
    refine ⟨z', ro1', ro2', ?_, e2, e3, fun j h1 h2 => by rw [e4 j h1 h2, b3 j (by omega) (by omega), a3 j (by omega) (by omega)]⟩
    rw [lX2_admitFrom_2.eq_2]
    unfold fX7_count
    simp (disch := omega) only [j1.1.1.1, bp_s, nI_leI, if_neg, a1, e17, b1, bnd_s, lit, nI_add]
    exact e1
/-- terms that were made become known to the court -/
theorem adm_ok (h1 : RX T S tk ps pt zX) (h3 : RB T S tk lv rm) (hx : HX (T ++ R) z1) (e : ∀ j, 11 ≤ j → j ≤ 57 → z1 j = zX j) (hM : RM (T ++ R) S tk zM1) (hR : RR i T.length lv rm z1 zM1) (hK : RK z1 zM1) : ∃ z2, fX2_admitFrom z1 (nI T.length) = some z2 ∧ RQ i (T ++ R) S tk lv rm ps pt z2 zM1 ∧ (∀ j, 58 ≤ j → z2 j = z1 j) := by
  obtain ⟨a1, a2, a3, ⟨ro1, a4⟩, ro2, a5⟩ := h1
  have hn := a3.num
  have hW' := hx.1
  have hg : AgT T (T ++ R) T.length := AgT.app T R (Nat.le_refl _)
  have hPl := hx.2.2.2.1.pl hW'
  -- the partitions, over the longer table
  have gr : ∀ {E : Nat → Nat → Prop} {pb : Nat} {ro : Nat → Nat}, JI T E pb T.length ro [] [] zX → isPb pb → JI (T ++ R) E pb T.length ro [] [] z1 := by
    intro E pb ro h hp
    have hpn := hp.ne
    have hpb : pb ≤ 48 := by rcases hp with rfl | rfl | rfl <;> omega
    have h' := h.growT (z' := fun j => if j < 11 then z1 j else zX j) hg a1.1 (Nat.le_refl _) (hx.2.2.1.fr fun j hj => by simp [hj]) (hPl.fr fun j hj => by simp [hj]) (fun j hj => by simp [show ¬ j < 11 by omega]) hp
    refine h'.fr2 (h.agenda.fr fun j h1 h2 => e j (by omega) (by omega)) fun j hj => ?_
    by_cases q : j < 11
    · simp [q]
    · simp [q]; exact e j (by omega) (by omega)
  have j1 := gr a4 (Or.inl rfl)
  have j2 := gr a5 a3.isS
  have len : (T ++ R).length = T.length + R.length := by simp
  have h120 := hW'.1
  obtain ⟨z2, r1, r2, c1, c2, c3, c4⟩ := adm_loop hW' a3.isS (by omega) R.length T.length FU ro1 ro2 z1 (by omega) (by have := FU_ge; omega) (by rw [e 17 (by omega) (by omega)]; exact a3.1) (fun a b q => EX_lt h3.1 q) j1 j2
  refine ⟨z2, c1, ⟨⟨hx.fr fun j hj => c4 j (by omega) (by omega), a2.fr fun j g1 g2 => by rw [c4 j (by omega) (by omega), e j (by omega) (by omega)], a3.fr (by rw [c4 17 (by omega) (by omega), e 17 (by omega) (by omega)]), ⟨r1, c2⟩, r2, c3⟩, hM, h3.grow hW', hR.fr (by omega) (Nat.le_refl _) (fun j hj => c4 j (by omega) (by omega)) (by rw [c4 0 (by omega) (by omega)]) (by rw [c4 0 (by omega) (by omega)]) (by rw [c4 11 (by omega) (by omega)]) (fun _ _ _ => rfl) (fun _ _ => rfl), hK.fr (fun j g1 g2 => c4 j (by omega) (by omega)) (fun _ _ => rfl) (fun _ _ => rfl)⟩, fun j hj => c4 j (by omega) (by omega)⟩
theorem RM.fr (hS : S.length ≤ 100) (h : RM T S tk z) (e0 : ∀ f, f = 4 ∨ f = 9 ∨ f = 30 → z' 0 f = z 0 f) (e : ∀ j, 1 ≤ j → j ≤ 8 → z' j = z j) (e20 : z' 20 = z 20) : RM T S tk z' := by
  obtain ⟨a1, a2, a3⟩ := h
  refine ⟨a1.fr (e0 4 (by omega)) (fun j h1 h2 => e j h1 (by omega)), a2.fr (e0 9 (by omega)) (fun j h1 h2 s _ => by rw [e j (by omega) (by omega)]) hS, ?_⟩
  rw [e0 30 (by omega)]
  rcases a3 with a3 | ⟨a3, on, a4, a5⟩
  · exact Or.inl a3
  · exact Or.inr ⟨a3, on, fun t ht => by rw [e20]; exact a4 t ht, a5⟩
theorem refX (z : fS) (v : Int32) : fX8_refused z v = some (-(nI 1), wrr z 0 (upd (z 0) 12 v)) := id rfl
theorem doneX (z : fS) (v : Int32) : fX8_done z v = some (v, wrr z 0 (upd (z 0) 12 (nI 0))) := id rfl
theorem refM (z : fS) (v : Int32) : fX9_refuse z v = some (-(nI 1), wrr z 0 (upd (z 0) 26 v)) := id rfl
theorem doneM (z : fS) (v : Int32) : fX9_done z v = some (v, wrr z 0 (upd (z 0) 26 (nI 0))) := id rfl
/-- a term is asked for of both -/
theorem both_make (h : RQ i T S tk lv rm ps pt zX zM) (ho : OkT T.length tm) (ha : ∀ j, j < tm.2.2.length → zM 19 j = nI (tm.2.2.getD j 0)) : ∃ r tX tM, fX8_madeTerm zX tm.1 tm.2.1 (pe tm.2.2 0) (pe tm.2.2 1) (pe tm.2.2 2) = some (r, tX) ∧ (bd (fX9_made zM tm.1 tm.2.1 (nI tm.2.2.length)) fun r4 z4 => bd (fX9_answer z4 r4) fun r8 z8 => some (r8, z8)) = some (r, tM) ∧ Rel (i + 1) tX tM := by
  have h' := h
  obtain ⟨h1, h2, h3, h4, h5⟩ := h'
  have hW := h1.1.1
  have hU := h1.1.2.1
  have hT1 := hW.1
  have hcnt : fX7_count zX = some (nI T.length) := by unfold fX7_count; rw [h1.1.2.2.1.1]
  unfold fX8_madeTerm fX9_answer
  rw [hcnt, bp_s]
  rcases findOrMake_ok h1.1 ho with ⟨t, x1, x2, _, x3⟩ | ⟨x1, x3⟩ | ⟨x1, x2, z1, x3, x4, x5⟩
  · rcases made_ok h2.1 hW hU ho ha with ⟨t', y1, y2, y3⟩ | ⟨y1, _⟩ | ⟨y1, _⟩
    · have : t' = t := by rw [x1] at y1; cases y1; rfl
      subst this
      have hid : RQ i (T ++ []) S tk lv rm ps pt zX zM := by rw [List.append_nil]; exact h
      obtain ⟨z2, c1, c2, _⟩ := adm_ok (R := []) h1 h3 (by rw [List.append_nil]; exact h1.1) (fun _ _ _ => rfl) (by rw [List.append_nil]; exact h2) h4 h5
      rw [List.append_nil] at c2
      refine ⟨nI t', wrr z2 0 (upd (z2 0) 12 (nI 0)), wrr zM 0 (upd (zM 0) 26 (nI 0)), ?_, ?_, c2.fin (nI 0)⟩
      · rw [x3, bd_s]
        simp (disch := omega) only [litm, nI_m1n, if_false, c1, bp_s, doneX, bd_s]
      · rw [y3, bd_s]
        simp (disch := omega) only [lit, nI_leI, Nat.zero_le, if_true, doneM, bd_s]
    · rw [x1] at y1; cases y1
    · rw [x1] at y1
      have := congrArg (fun o : Option (Nat × List Tm) => o.map fun p => p.2.length) y1
      simp at this
  · rcases made_ok h2.1 hW hU ho ha with ⟨t', y1, y2, y3⟩ | ⟨y1, y3⟩ | ⟨y1, _⟩
    · rw [x1] at y1; cases y1
    · refine ⟨-(nI 1), _, _, ?_, ?_, h.fin (nI 3)⟩
      · rw [x3, bd_s]
        simp (disch := omega) only [lit, litm, if_true, refX, bd_s]
      · rw [y3, bd_s]
        simp (disch := omega) only [lit, m1_le0, if_false, refM, bd_s]
    · rw [x1] at y1; cases y1
  · rcases made_ok h2.1 hW hU ho ha with ⟨t', y1, y2, y3⟩ | ⟨y1, y3⟩ | ⟨y1, y2, zM1, y3, y4, y5, y6, y7⟩
    · rw [x1] at y1
      have := congrArg (fun o : Option (Nat × List Tm) => o.map fun p => p.2.length) y1
      simp at this
    · rw [x1] at y1; cases y1
    · have hMs : MSy S tk zM1 := h2.2.1.fr (y6 9 (by omega) (by omega)) (fun j g1 g2 s _ => by rw [y5 j (by omega)]) h3.1.1
      obtain ⟨z2, c1, c2, _⟩ := adm_ok (R := [tm]) h1 h3 x4 (fun j g1 g2 => x5 j (Or.inr g1)) ⟨y4, hMs, Or.inl y7⟩ (h4.fr (Nat.le_refl _) (Nat.le_refl _) (fun j hj => x5 j (by omega)) (by rw [x5 0 (by omega)]) (by rw [x5 0 (by omega)]) (by rw [x5 11 (by omega)]) (fun j g1 g2 => y5 j (by omega)) (fun f hf => y6 f (by omega) (by omega))) (h5.fr (fun j g1 g2 => x5 j (by omega)) (fun j hj => y5 j (by omega)) (fun f hf => y6 f (by omega) (by omega)))
      refine ⟨nI T.length, wrr z2 0 (upd (z2 0) 12 (nI 0)), wrr zM1 0 (upd (zM1 0) 26 (nI 0)), ?_, ?_, c2.fin (nI 0)⟩
      · rw [x3, bd_s]
        simp (disch := omega) only [litm, nI_m1n, if_false, c1, bp_s, doneX, bd_s]
      · rw [y3, bd_s]
        simp (disch := omega) only [lit, nI_leI, Nat.zero_le, if_true, doneM, bd_s]
end ADF
