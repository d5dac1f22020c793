/-! the relation between the class and the reference -/
def RX (T : List Tm) (S : List Sy) (tk : Nat → Bool) (ps pt : Nat) (z : fS) : Prop := HX T z ∧ XSy S tk z ∧ Pq ps pt z ∧ (∃ ro, JI T (fun _ _ => False) 28 T.length ro [] [] z) ∧ (∃ ro, JI T (EX S (TK tk) none) ps T.length ro [] [] z)
def Cs (T : List Tm) (S : List Sy) (tk : Nat → Bool) : Prop := (∀ s, tk s = true → s < S.length) ∧ ¬ Cl T T.length (EX S (TK tk) none) (UX S (TK tk) none)
def RB (T : List Tm) (S : List Sy) (tk : Nat → Bool) (lv : Nat) (rm : Nat → Nat → Bool) : Prop := WS T.length S ∧ Cs T S tk ∧ lv ≤ 10 ∧ ∀ l, l < lv → Cs T S (rm l)
def RL (lv : Nat) (rm : Nat → Nat → Bool) (zX zM : fS) : Prop := zX 11 7 = nI lv ∧ zM 0 11 = nI lv ∧ ∀ l, l < lv → ∀ s, s < 100 → zX 16 (100 * l + s) = bI (rm l s) ∧ zM 9 (100 * l + s) = bI (rm l s)
def RW (n : Nat) (zX zM : fS) : Prop := ∃ k, k ≤ 10 ∧ zX 0 10 = nI k ∧ zM 0 14 = nI k ∧ ∀ i, i < k → ∃ a b, a < n ∧ b < n ∧ zX 73 i = nI a ∧ zM 10 i = nI a ∧ zX 74 i = nI b ∧ zM 11 i = nI b
def RP (n : Nat) (zX zM : fS) : Prop := ∃ k, k ≤ 100 ∧ zX 63 7 = nI k ∧ zM 0 20 = nI k ∧ ∀ i, i < k → zX 64 i = zM 12 i ∧ zX 67 i = zM 15 i ∧ zX 68 i = zM 16 i ∧ ∃ a b, a < n ∧ b < n ∧ zX 65 i = nI a ∧ zM 13 i = nI a ∧ zX 66 i = nI b ∧ zM 14 i = nI b
def RU (i : Nat) (z : fS) : Prop := ∃ m, m ≤ 3456000 * i ∧ z 58 5 = nI m ∧ ∀ t, t < 120 → ∃ m', m' ≤ m ∧ z 60 t = nI m'
def RR (i n : Nat) (lv : Nat) (rm : Nat → Nat → Bool) (zX zM : fS) : Prop := RL lv rm zX zM ∧ RW n zX zM ∧ RP n zX zM ∧ zX 0 11 = zM 0 25 ∧ RU i zX
def RK (zX zM : fS) : Prop := (∃ C, XCr 69 C zX ∧ MCr 17 22 C zM) ∧ ∃ C, XCr 71 C zX ∧ MCr 18 24 C zM
def RQ (i : Nat) (T : List Tm) (S : List Sy) (tk : Nat → Bool) (lv : Nat) (rm : Nat → Nat → Bool) (ps pt : Nat) (zX zM : fS) : Prop := RX T S tk ps pt zX ∧ RM T S tk zM ∧ RB T S tk lv rm ∧ RR i T.length lv rm zX zM ∧ RK zX zM
def Rel (i : Nat) (zX zM : fS) : Prop := zX 0 12 = zM 0 26 ∧ ∃ T S tk lv rm ps pt, RQ i T S tk lv rm ps pt zX zM
section REL
variable {T : List Tm} {S : List Sy} {tk : Nat → Bool} {lv : Nat} {rm : Nat → Nat → Bool} {ps pt i : Nat} {zX zM z z' : fS}
theorem RR.fr {n n' i' : Nat} (h : RR i n lv rm zX zM) (hn : n ≤ n') (hi : i ≤ i') (eX : ∀ j, j = 16 ∨ j = 58 ∨ j = 60 ∨ (63 ≤ j ∧ j ≤ 68) ∨ j = 73 ∨ j = 74 → z j = zX j) (e0 : z 0 10 = zX 0 10) (e1 : z 0 11 = zX 0 11) (e2 : z 11 7 = zX 11 7) (eM : ∀ j, 9 ≤ j → j ≤ 16 → z' j = zM j) (m0 : ∀ f, f = 11 ∨ f = 14 ∨ f = 20 ∨ f = 25 → z' 0 f = zM 0 f) : RR i' n' lv rm z z' := by
  obtain ⟨⟨l1, l2, l3⟩, ⟨k, w1, w2, w3, w4⟩, ⟨k', p1, p2, p3, p4⟩, h4, m, u1, u2, u3⟩ := h
  refine ⟨⟨e2.trans l1, (m0 11 (by omega)).trans l2, ?_⟩, ⟨k, w1, e0.trans w2, (m0 14 (by omega)).trans w3, ?_⟩, ⟨k', p1, ?_, (m0 20 (by omega)).trans p3, ?_⟩, ?_, m, by omega, ?_, ?_⟩
  · rw [eX 16 (by omega), eM 9 (by omega) (by omega)]; exact l3
  · rw [eX 73 (by omega), eX 74 (by omega), eM 10 (by omega) (by omega), eM 11 (by omega) (by omega)]
    intro j hj
    obtain ⟨a, b, h1, h2, h3⟩ := w4 j hj
    exact ⟨a, b, by omega, by omega, h3⟩
  · rw [eX 63 (by omega)]; exact p2
  · rw [eX 64 (by omega), eX 65 (by omega), eX 66 (by omega), eX 67 (by omega), eX 68 (by omega), eM 12 (by omega) (by omega), eM 13 (by omega) (by omega), eM 14 (by omega) (by omega), eM 15 (by omega) (by omega), eM 16 (by omega) (by omega)]
    intro j hj
    obtain ⟨q1, q2, q3, a, b, h1, h2, h3⟩ := p4 j hj
    exact ⟨q1, q2, q3, a, b, by omega, by omega, h3⟩
  · rw [e1, m0 25 (by omega)]; exact h4
  · rw [eX 58 (by omega)]; exact u2
  · rw [eX 60 (by omega)]; exact u3
theorem MCr.fr {cell fld : Nat} {K : List Nat} (h : MCr cell fld K z) (e0 : z' 0 fld = z 0 fld) (e1 : z' cell = z cell) : MCr cell fld K z' := by
  unfold MCr; rw [e0, e1]; exact h
theorem RK.fr (h : RK zX zM) (eX : ∀ j, 69 ≤ j → j ≤ 72 → z j = zX j) (eM : ∀ j, j = 17 ∨ j = 18 → z' j = zM j) (m0 : ∀ f, f = 22 ∨ f = 24 → z' 0 f = zM 0 f) : RK z z' := by
  obtain ⟨⟨C, c1, c2⟩, D, d1, d2⟩ := h
  exact ⟨⟨C, c1.fr (eX 69 (by omega) (by omega)) (eX 70 (by omega) (by omega)), c2.fr (m0 22 (by omega)) (eM 17 (by omega))⟩, D, d1.fr (eX 71 (by omega) (by omega)) (eX 72 (by omega) (by omega)), d2.fr (m0 24 (by omega)) (eM 18 (by omega))⟩
theorem RX.fr (h : RX T S tk ps pt z) (hA : HA [] [] z') (e : ∀ j, (j < 18 ∧ j ≠ 0) ∨ (28 ≤ j ∧ j ≤ 57 ∧ ¬ (pt ≤ j ∧ j ≤ pt + 9)) → (j = 11 → ∀ f, f ≠ 7 → z' 11 f = z 11 f) ∧ (j = 16 ∨ j = 11 ∨ z' j = z j)) : RX T S tk ps pt z' := by
  obtain ⟨h1, h2, h3, ⟨ro1, h4⟩, ro2, h5⟩ := h
  have hn := h3.num
  have e' : ∀ j, (j < 16 ∧ j ≠ 0 ∧ j ≠ 11) ∨ j = 17 ∨ (28 ≤ j ∧ j ≤ 57 ∧ ¬ (pt ≤ j ∧ j ≤ pt + 9)) → z' j = z j := fun j hj => by
    rcases (e j (by omega)).2 with q | q | q
    · omega
    · omega
    · exact q
  have jf : ∀ {E : Nat → Nat → Prop} {pb k : Nat} {ro : Nat → Nat}, JI T E pb k ro [] [] z → isPb pb → pb ≠ pt → JI T E pb k ro [] [] z' := by
    intro E pb k ro h hp hne
    obtain ⟨⟨hT, hPl, hS, hN0, hR, hH, _⟩, s1, s2, s3, s4, s5, s6, s7, s8⟩ := h
    have hd : 28 ≤ pb ∧ pb ≤ 48 ∧ (pb + 10 ≤ pt ∨ pt + 10 ≤ pb) := by rcases hp with rfl | rfl | rfl <;> omega
    have e2 : ∀ j, pb ≤ j → j ≤ pb + 9 → z' j = z j := fun j h1 h2 => e' j (by omega)
    have hT' : HT T z' := by
      unfold HT
      rw [e' 1 (by omega), e' 2 (by omega), e' 3 (by omega), e' 4 (by omega), e' 5 (by omega)]
      exact hT
    have hPl' : HPl T z' := by
      unfold HPl
      rw [e' 9 (by omega), e' 10 (by omega)]
      exact hPl
    refine ⟨⟨hT', hPl', hS.fr fun j h1 h2 => e2 j h1 (by omega), hN0.fr fun j h1 h2 => e2 j h1 (by omega), hR.fr (e2 _ (by omega) (by omega)), hH.fr fun j h1 h2 => e2 j (by omega) h2, hA⟩, s1, s2, s3, s4, ?_, ?_, ?_, ?_⟩
    · rw [e2 (pb + 6) (by omega) (by omega)]; exact s5
    · rw [e2 (pb + 9) (by omega) (by omega)]; exact s6
    · rw [e2 (pb + 9) (by omega) (by omega)]; exact s7
    · rw [e2 (pb + 9) (by omega) (by omega)]; exact s8
  have e11 : ∀ f, f ≠ 7 → z' 11 f = z 11 f := (e 11 (by omega)).1 rfl
  refine ⟨?_, ?_, h3.fr (e' 17 (by omega)), ⟨ro1, jf h4 (Or.inl rfl) (by omega)⟩, ro2, jf h5 h3.isS (by omega)⟩
  · obtain ⟨a1, a2, a3, a4, a5, H, a6, a7⟩ := h1
    refine ⟨a1, a2, ?_, ?_, ?_, H, a6, ?_⟩
    · unfold HT
      rw [e' 1 (by omega), e' 2 (by omega), e' 3 (by omega), e' 4 (by omega), e' 5 (by omega)]
      exact a3
    · unfold HP; rw [e' 9 (by omega), e' 10 (by omega)]; exact a4
    · unfold HC; rw [e' 7 (by omega), e' 8 (by omega)]; exact a5
    · unfold HB; rw [e' 6 (by omega)]; exact a7
  · unfold XSy
    rw [e11 5 (by omega), e11 6 (by omega), e' 12 (by omega), e' 13 (by omega), e' 14 (by omega), e' 15 (by omega)]
    exact h2
theorem RX.ag (h : RX T S tk ps pt z) : HA [] [] z := by
  obtain ⟨_, _, _, ⟨ro1, h4⟩, _⟩ := h
  exact h4.agenda
/-- the class has changed nothing but what is for a moment -/
theorem RX.sc (h : RX T S tk ps pt z) (hA : HA [] [] z') (e : ∀ j, j < 18 → j ≠ 0 → z' j = z j) (e2 : ∀ j, 28 ≤ j → j ≤ 57 → ¬ (pt ≤ j ∧ j ≤ pt + 9) → z' j = z j) : RX T S tk ps pt z' := by
  refine h.fr hA fun j hj => ⟨fun _ f _ => by rw [e 11 (by omega) (by omega)], Or.inr (Or.inr ?_)⟩
  rcases hj with ⟨h1, h2⟩ | ⟨h1, h2, h3⟩
  · exact e j h1 h2
  · exact e2 j h1 h2 h3
theorem RQ.up (h : RQ i T S tk lv rm ps pt zX zM) : RQ (i + 1) T S tk lv rm ps pt zX zM := by
  obtain ⟨h1, h2, h3, h4, h5⟩ := h
  exact ⟨h1, h2, h3, h4.fr (Nat.le_refl _) (by omega) (fun _ _ => rfl) rfl rfl rfl (fun _ _ _ => rfl) (fun _ _ => rfl), h5⟩
theorem RM.f0 {f : Nat} {v : Int32} (hS : S.length ≤ 100) (h : RM T S tk z) (h1 : f ≠ 4) (h2 : f ≠ 9) (h3 : f ≠ 30) : RM T S tk (wrr z 0 (upd (z 0) f v)) := by
  obtain ⟨a1, a2, a3⟩ := h
  refine ⟨a1.fr (by rw [wrr_e, upd_n (by omega)]) (fun j _ _ => wrr_n (by omega)), a2.fr (by rw [wrr_e, upd_n (by omega)]) (fun j _ _ s _ => by rw [wrr_n (by omega)]) hS, ?_⟩
  rw [wrr_e, upd_n (by omega)]
  rcases a3 with a3 | ⟨a3, on, a4, a5⟩
  · exact Or.inl a3
  · exact Or.inr ⟨a3, on, fun t ht => by rw [wrr_n (by omega)]; exact a4 t ht, a5⟩
/-- the finding is told -/
theorem RQ.fin (h : RQ i T S tk lv rm ps pt zX zM) (v : Int32) : Rel (i + 1) (wrr zX 0 (upd (zX 0) 12 v)) (wrr zM 0 (upd (zM 0) 26 v)) := by
  obtain ⟨h1, h2, h3, h4, h5⟩ := h
  refine ⟨by rw [wrr_e, wrr_e, upd_e, upd_e], T, S, tk, lv, rm, ps, pt, ?_, h2.f0 h3.1.1 (by omega) (by omega) (by omega), h3, ?_, ?_⟩
  · exact h1.sc (h1.ag.fr fun j _ _ => wrr_n (by omega)) (fun j _ h0 => wrr_n h0) (fun j _ _ _ => wrr_n (by omega))
  · exact h4.fr (Nat.le_refl _) (by omega) (fun j hj => wrr_n (by omega)) (by rw [wrr_e, upd_n (by omega)]) (by rw [wrr_e, upd_n (by omega)]) (by rw [wrr_n (by omega)]) (fun j _ _ => wrr_n (by omega)) (fun f hf => by rw [wrr_e, upd_n (by omega)])
  · exact h5.fr (fun j _ _ => wrr_n (by omega)) (fun j hj => wrr_n (by omega)) (fun f hf => by rw [wrr_e, upd_n (by omega)])
/-- both change what is for a moment only -/
theorem RQ.sc (h : RQ i T S tk lv rm ps pt zX zM) (hA : HA [] [] z) (eX : ∀ j, j < 18 ∨ (28 ≤ j ∧ j ≤ 57 ∧ ¬ (pt ≤ j ∧ j ≤ pt + 9)) ∨ j = 58 ∨ j = 60 ∨ (63 ≤ j ∧ j ≤ 74) → z j = zX j) (hM : RM T S tk z') (eM : ∀ j, 9 ≤ j → j ≤ 18 → z' j = zM j) (m0 : ∀ f, f ≠ 30 → f ≠ 40 → f ≠ 41 → z' 0 f = zM 0 f) : RQ i T S tk lv rm ps pt z z' := by
  obtain ⟨h1, h2, h3, h4, h5⟩ := h
  refine ⟨h1.sc hA (fun j _ _ => eX j (by omega)) (fun j _ _ _ => eX j (by omega)), hM, h3, h4.fr (Nat.le_refl _) (Nat.le_refl _) (fun j hj => eX j (by omega)) (by rw [eX 0 (by omega)]) (by rw [eX 0 (by omega)]) (by rw [eX 11 (by omega)]) (fun j _ _ => eM j (by omega) (by omega)) (fun f hf => m0 f (by omega) (by omega) (by omega)), h5.fr (fun j _ _ => eX j (by omega)) (fun j hj => eM j (by omega) (by omega)) (fun f hf => m0 f (by omega) (by omega) (by omega))⟩
theorem RQ.mf (h : RQ i T S tk lv rm ps pt zX zM) (hM : RM T S tk z') (e : MFr 0 30 zM z') : RQ i T S tk lv rm ps pt zX z' :=
  h.sc h.1.ag (fun _ _ => rfl) hM (fun j _ _ => e.1 j (by omega) (by omega) (by omega) (by omega) (by omega)) (fun f h1 _ _ => e.2.2 f h1 h1)
end REL
