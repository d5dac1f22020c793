/-! least: both try the same sets -/
def LX (T : List Tm) (S : List Sy) (tk : Nat → Bool) (pt : Nat) (zX z : fS) : Prop := HA [] [] z ∧ Pol T S tk S.length z ∧ ∀ j, ¬ (20 ≤ j ∧ j ≤ 27) → ¬ (pt ≤ j ∧ j ≤ pt + 9) → z j = zX j
def LM (T : List Tm) (S : List Sy) (tk : Nat → Bool) (zM z : fS) : Prop := RM T S tk z ∧ (∀ k, k < cnt tk S.length → z 22 k = nI ((pl tk S.length).getD k 0)) ∧ (∀ j, j ≠ 0 → ¬ (20 ≤ j ∧ j ≤ 23) → z j = zM j) ∧ ∀ f, f ≠ 30 → z 0 f = zM 0 f
def Kl (L : List Nat) (c : Nat → Nat) : Nat → List Nat
  | 0 => []
  | m + 1 => Kl L c m ++ [L.getD (c m) 0]
section LOCK
variable {T : List Tm} {S : List Sy} {tk : Nat → Bool} {zX zM z x y : fS} {ps pt n m a b tt : Nat} {c : Nat → Nat} {L : List Nat}
theorem Kl_len : ∀ m, (Kl L c m).length = m
  | 0 => rfl
  | m + 1 => by unfold Kl; rw [List.length_append, Kl_len m]; rfl
theorem Kl_get : ∀ {m k : Nat}, k < m → (Kl L c m).getD k 0 = L.getD (c k) 0
  | 0, k, h => by omega
  | m + 1, k, h => by
    unfold Kl
    rcases Nat.eq_or_lt_of_le (Nat.le_of_lt_succ h) with rfl | h
    · have := gD_r (l := Kl L c k) (x := L.getD (c k) 0) (d := 0)
      rw [Kl_len] at this
      exact this
    · rw [gD_l (by rw [Kl_len]; exact h)]; exact Kl_get h
theorem LX.xt (hk : XTk T S tk ps pt zX) (h : LX T S tk pt zX x) : XTk T S tk ps pt x := by
  obtain ⟨hq, hx, ro, hj⟩ := hk
  have hn := hq.num
  exact ⟨hq.fr (h.2.2 17 (by omega) (by omega)), hx.fr fun j h1 h2 => h.2.2 j (by omega) (by omega), ro, hj.fr2 h.1 fun j hj => h.2.2 j (by omega) (by omega)⟩
theorem LX.st (h : LX T S tk pt zX x) (hA : HA [] [] z) (e : ∀ j, ¬ (22 ≤ j ∧ j ≤ 27) → ¬ (pt ≤ j ∧ j ≤ pt + 9) → z j = x j) (hn : pt = 38 ∨ pt = 48) : LX T S tk pt zX z :=
  ⟨hA, by unfold Pol; rw [e 20 (by omega) (by omega), e 21 (by omega) (by omega)]; exact h.2.1, fun j h1 h2 => (e j (by omega) h2).trans (h.2.2 j h1 h2)⟩
theorem LM.st (h : LM T S tk zM y) (hR : RM T S tk z) (e : ∀ j, j ≠ 0 → ¬ (20 ≤ j ∧ j ≤ 23 ∧ j ≠ 22) → z j = y j) (e0 : ∀ f, f ≠ 30 → z 0 f = y 0 f) : LM T S tk zM z :=
  ⟨hR, by rw [e 22 (by omega) (by omega)]; exact h.2.1, fun j h1 h2 => (e j h1 (by omega)).trans (h.2.2.1 j h1 h2), fun f hf => (e0 f hf).trans (h.2.2.2 f hf)⟩
theorem LM.s23 (hS : S.length ≤ 100) (h : LM T S tk zM y) (e : ∀ j, j ≠ 23 → z j = y j) : LM T S tk zM z :=
  h.st (RM.fr hS h.1 (fun f _ => by rw [e 0 (by omega)]) (fun j _ _ => e j (by omega)) (e 20 (by omega))) (fun j h1 h2 => e j (by omega)) (fun f _ => by rw [e 0 (by omega)])
theorem LX.s22 (h : LX T S tk pt zX x) (e : ∀ j, j ≠ 22 → z j = x j) (hn : pt = 38 ∨ pt = 48) : LX T S tk pt zX z :=
  h.st (h.1.fr fun j _ _ => e j (by omega)) (fun j h1 _ => e j (by omega)) hn
theorem lock_in (hW : WT T) (hS : WS T.length S) (ht : ∀ s, tk s = true → s < S.length) (hcon : ¬ Cl T T.length (EX S (TK tk) none) (UX S (TK tk) none)) (ha : a < T.length) (hb : b < T.length) (hk : XTk T S tk ps pt zX) (hn : n = cnt tk S.length) (hL : L = pl tk S.length) (hm : m ≤ n) (htt : tt ≤ 500) (hpre : 0 < m → NoA (fun I => One T T.length (EX S I none) a b) L n (m - 1)) {k78 k165 : fS → Option (Int32 × fS)} {k131 k226 : Int32 → fS → Option (Int32 × fS)} : ∀ (d N tr : Nat) (c : Nat → Nat) (x y : fS), tr + d = tt → d + 1 < N → LX T S tk pt zX x → LM T S tk zM y → XPk m c x → (∀ k, k < m → y 23 k = nI (c k)) → Cb n m c → NoB (fun I => One T T.length (EX S I none) a b) L n m c →
    (∃ c' x' y', LX T S tk pt zX x' ∧ LM T S tk zM y' ∧ XPk m c' x' ∧ (∀ k, k < m → y' 23 k = nI (c' k)) ∧ Cb n m c' ∧ lX2_findFewest_53 71 k78 k131 (nI a) (nI b) (nI tt) (nI n) (nI m) N (nI tr) (nI 1) x = k78 x' ∧ lX9_least_134 k165 k226 (nI a) (nI b) (nI n) (nI m) N (nI d) (nI 1) y = k165 y') ∨
    (∃ tr' x' y', tr' ≤ tt ∧ LX T S tk pt zX x' ∧ LM T S tk zM y' ∧ NoA (fun I => One T T.length (EX S I none) a b) L n m ∧ lX2_findFewest_53 71 k78 k131 (nI a) (nI b) (nI tt) (nI n) (nI m) N (nI tr) (nI 1) x = k131 (nI tr') x' ∧ lX9_least_134 k165 k226 (nI a) (nI b) (nI n) (nI m) N (nI d) (nI 1) y = k226 (nI (tt - tr')) y') ∨
    (∃ x' y', LX T S tk pt zX x' ∧ LM T S tk zM y' ∧ lX2_findFewest_53 71 k78 k131 (nI a) (nI b) (nI tt) (nI n) (nI m) N (nI tr) (nI 1) x = k131 (nI tt) x' ∧ lX9_least_134 k165 k226 (nI a) (nI b) (nI n) (nI m) N (nI d) (nI 1) y = some (-(nI 1), wrr y' 0 (upd (y' 0) 26 (nI 7)))) := by
  subst hn
  subst hL
  have hl := hS.1
  have hcl := cnt_le tk S.length
  have hnu : pt = 38 ∨ pt = 48 := by have := hk.1.num; omega
  intro d
  induction d with
  | zero =>
    intro N tr c x y htr hN hx hy hxp hyp hc hB
    obtain ⟨N, rfl⟩ : ∃ M, N = M + 1 := ⟨N - 1, by omega⟩
    refine Or.inr (Or.inr ⟨x, y, hx, hy, ?_, ?_⟩)
    · rw [lX2_findFewest_53.eq_2]
      simp (disch := omega) only [lit, nI_eq, if_neg, nI_leI, if_pos]
      rw [show tr = tt by omega]
    · rw [lX9_least_134.eq_2]
      simp (disch := omega) only [lit, nI_eq, if_neg, if_true, refM, bd_s]
  | succ d ih =>
    intro N tr c x y htr hN hx hy hxp hyp hc hB
    obtain ⟨N, rfl⟩ : ∃ M, N = M + 1 := ⟨N - 1, by omega⟩
    obtain ⟨r, x1, a1, a2, a3, a4⟩ := picks_ok hW hS ht hcon ha hb (hx.xt hk) hx.2.1 hxp hc hm
    obtain ⟨r', y1, b1, b2, b3, b4, b5⟩ := enough_ok hW hS hy.1 ha hb hy.2.1 hyp hc hm
    have hx1 : LX T S tk pt zX x1 := hx.st a3 (fun j h1 h2 => a4 j (by omega) h2) hnu
    have hy1 : LM T S tk zM y1 := hy.st b3 (fun j h1 h2 => b4 j h1 (by omega) (by omega)) b5
    have hxp1 : XPk m c x1 := by
      clear a2 b2
      unfold XPk; rw [a4 22 (by omega) (by omega)]; exact hxp
    have hyp1 : ∀ k, k < m → y1 23 k = nI (c k) := by rw [b4 23 (by omega) (by omega) (by omega)]; exact hyp
    rw [lX2_findFewest_53.eq_2, lX9_least_134.eq_2]
    have hd : nI (d + 1) + -(nI 1) = nI d := by rw [nI_dec (by omega), Nat.add_sub_cancel]
    rcases b2 with ⟨rfl, b2⟩ | ⟨rfl, b2⟩
    · have hr : r = 1 := by
        rcases a2 with ⟨q, _⟩ | ⟨_, ⟨k, k1, k2⟩ | q⟩
        · exact q
        · exfalso
          obtain ⟨m, rfl⟩ : ∃ M, m = M + 1 := ⟨m - 1, by omega⟩
          exact hpre (by omega) (dlc c k) (cb_del hc) (nohelp k1 k2 b2)
        · exact absurd b2 q
      subst hr
      refine Or.inl ⟨c, x1, y1, hx1, hy1, hxp1, hyp1, hc, ?_, ?_⟩
      · simp (disch := omega) only [lit, nI_eq, if_neg, nI_leI, nI_add, bnd_s, a1, bd_s]
      · simp (disch := omega) only [lit, litm, nI_eq, if_neg, hd, bnd_s, b1, bd_s]
    · have hr : r = 0 := by
        rcases a2 with ⟨_, q⟩ | ⟨q, _⟩
        · exact absurd q b2
        · exact q
      subst hr
      rcases cb_cases hc with q | ⟨i0, q1, q2, q3⟩
      · have n1 := nextX_0 (z := x1) hm (by omega) hxp1 q
        have n2 := nextM_0 (z := y1) hm (by omega) hyp1 q
        obtain ⟨N, rfl⟩ : ∃ M, N = M + 1 := ⟨N - 1, by omega⟩
        refine Or.inr (Or.inl ⟨tr + 1, x1, y1, by omega, hx1, hy1, noA_last q hB b2, ?_, ?_⟩)
        · simp (disch := omega) only [lit, nI_eq, if_neg, nI_leI, nI_add, bnd_s, a1, bd_s, if_true, n1]
          rw [lX2_findFewest_53.eq_2]
          simp only [lit, if_true]
        · simp (disch := omega) only [lit, litm, nI_eq, if_neg, hd, bnd_s, b1, bd_s, if_true, n2]
          rw [lX9_least_134.eq_2, show d = tt - (tr + 1) by omega]
          simp only [lit, if_true]
      · obtain ⟨x2, n1, n2, n3⟩ := nextX_1 (z := x1) hm (by omega) hxp1 hc q1 q2 q3
        obtain ⟨y2, o1, o2, o3⟩ := nextM_1 (z := y1) hm (by omega) hyp1 hc q1 q2 q3
        have := ih N (tr + 1) (nxc c i0) x2 y2 (by omega) (by omega) (hx1.s22 n3 hnu) (hy1.s23 hl o3) n2 o2 (cb_next hc q1 q2) (noB_next q3 hB b2)
        simp (disch := omega) only [lit, litm, nI_eq, if_neg, nI_leI, nI_add, hd, bnd_s, a1, b1, bd_s, if_true, n1, o1]
        exact this
theorem lock_out (hW : WT T) (hS : WS T.length S) (ht : ∀ s, tk s = true → s < S.length) (hcon : ¬ Cl T T.length (EX S (TK tk) none) (UX S (TK tk) none)) (ha : a < T.length) (hb : b < T.length) (hk : XTk T S tk ps pt zX) (hn : n = cnt tk S.length) (hL : L = pl tk S.length) (htt : tt ≤ 500) {k78 k165 : Int32 → fS → Option (Int32 × fS)} : ∀ (e N m tr : Nat) (x y : fS), m + e = n + 1 → e < N → tr ≤ tt → (0 < m → NoA (fun I => One T T.length (EX S I none) a b) L n (m - 1)) → LX T S tk pt zX x → LM T S tk zM y →
    (∃ m' c' x' y', m' ≤ n ∧ LX T S tk pt zX x' ∧ LM T S tk zM y' ∧ XPk m' c' x' ∧ (∀ k, k < m' → y' 23 k = nI (c' k)) ∧ Cb n m' c' ∧ lX2_findFewest_12 71 k78 (nI a) (nI b) (nI tt) (nI n) N (nI tr) (nI m) x = k78 (nI m') x' ∧ lX9_least_99 k165 (nI a) (nI b) (nI n) N (nI (tt - tr)) (nI m) y = k165 (nI m') y') ∨
    (∃ x' y', LX T S tk pt zX x' ∧ LM T S tk zM y' ∧ lX2_findFewest_12 71 k78 (nI a) (nI b) (nI tt) (nI n) N (nI tr) (nI m) x = some (nI 0, x') ∧ lX9_least_99 k165 (nI a) (nI b) (nI n) N (nI (tt - tr)) (nI m) y = some (-(nI 1), wrr y' 0 (upd (y' 0) 26 (nI 7)))) := by
  have hl := hS.1
  have hcl := cnt_le tk S.length
  have hnu : pt = 38 ∨ pt = 48 := by have := hk.1.num; omega
  intro e
  induction e with
  | zero =>
    intro N m tr x y he hN htr hpre hx hy
    obtain ⟨N, rfl⟩ : ∃ M, N = M + 1 := ⟨N - 1, by omega⟩
    refine Or.inr ⟨x, y, hx, hy, ?_, ?_⟩
    · rw [lX2_findFewest_12.eq_2]
      simp (disch := omega) only [lit, nI_ltI, if_pos]
    · rw [lX9_least_99.eq_2]
      simp (disch := omega) only [lit, nI_ltI, if_pos, refM, bd_s]
  | succ e ih =>
    intro N m tr x y he hN htr hpre hx hy
    obtain ⟨N, rfl⟩ : ∃ M, N = M + 1 := ⟨N - 1, by omega⟩
    rw [lX2_findFewest_12.eq_2, lX9_least_99.eq_2]
    obtain ⟨y1, b1, b2, b3⟩ := firstM (k50 := jX9_least_131 (lX9_least_99 k165 (nI a) (nI b) (nI n) N) k165 (nI a) (nI b) (nI n) (nI (tt - tr)) (nI m)) (v1 := nI a) (v2 := nI b) (v4 := nI n) (v5 := nI (tt - tr)) (m := m) (by omega) m 0 FU y (by omega) (by have := FU_ge; omega) (fun k hk => by omega)
    have hy1 := hy.s23 hl b3
    rcases Nat.eq_or_lt_of_le htr with q | q
    · refine Or.inr ⟨x, y1, hx, hy1, ?_, ?_⟩
      · simp (disch := omega) only [lit, nI_ltI, if_neg, nI_leI, if_pos]
      · simp (disch := omega) only [lit, nI_ltI, if_neg]
        rw [b1]
        unfold jX9_least_131
        obtain ⟨F, hF⟩ : ∃ M, FU = M + 1 := ⟨FU - 1, by have := FU_ge; omega⟩
        rw [hF, lX9_least_134.eq_2, show tt - tr = 0 by omega]
        simp (disch := omega) only [lit, nI_eq, if_neg, if_true, refM, bd_s]
    · obtain ⟨x1, a1, a2, a3⟩ := firstX (k50 := jX2_findFewest_50 71 (lX2_findFewest_12 71 k78 (nI a) (nI b) (nI tt) (nI n) N) k78 (nI a) (nI b) (nI tt) (nI n) (nI tr) (nI m)) (v1 := nI a) (v2 := nI b) (v3 := nI tt) (v4 := 71) (v5 := nI n) (v6 := nI tr) (m := m) (by omega) m 0 FU x (by omega) (by have := FU_ge; omega) (fun k hk => by omega)
      have hx1 := hx.s22 a3 hnu
      simp (disch := omega) only [lit, nI_ltI, if_neg, nI_leI]
      rw [a1, b1]
      unfold jX2_findFewest_50 jX9_least_131
      simp only [lit]
      rcases lock_in hW hS ht hcon ha hb hk hn hL (show m ≤ n by omega) htt hpre (k78 := k78 (nI m)) (k165 := k165 (nI m)) (k131 := jX2_findFewest_131 71 (lX2_findFewest_12 71 k78 (nI a) (nI b) (nI tt) (nI n) N) k78 (nI a) (nI b) (nI tt) (nI n) (nI m)) (k226 := jX9_least_226 (lX9_least_99 k165 (nI a) (nI b) (nI n) N) k165 (nI a) (nI b) (nI n) (nI m)) (tt - tr) FU tr (fun j => j) x1 y1 (by omega) (by have := FU_ge; omega) hx1 hy1 a2 b2 (cb_first (by omega)) noB_first with ⟨c', x', y', g1, g2, g3, g4, g5, g6, g7⟩ | ⟨tr', x', y', g1, g2, g3, g4, g5, g6⟩ | ⟨x', y', g1, g2, g3, g4⟩
      · exact Or.inl ⟨m, c', x', y', by omega, g1, g2, g3, g4, g5, g6, g7⟩
      · rw [g5, g6]
        unfold jX2_findFewest_131 jX9_least_226
        simp only [lit, nI_add, bnd_s]
        exact ih N (m + 1) tr' x' y' (by omega) (by omega) g1 (fun _ => by rw [Nat.add_sub_cancel]; exact g4) g2 g3
      · refine Or.inr ⟨x', y', g1, g2, ?_, g4⟩
        rw [g3]
        unfold jX2_findFewest_131
        simp only [lit, nI_add, bnd_s]
        obtain ⟨N, rfl⟩ : ∃ M, N = M + 1 := ⟨N - 1, by omega⟩
        rw [lX2_findFewest_12.eq_2]
        by_cases w : n < m + 1
        · simp (disch := omega) only [lit, nI_ltI, w, if_true]
        · simp (disch := omega) only [lit, nI_ltI, w, if_false, nI_leI, if_pos]
theorem core86 (hm : m ≤ 100) (hn : n ≤ 100) (hc : ∀ k, k < m → c k < n) : ∀ (d i N : Nat) (z : fS), i + d = m → d < N → XCr 71 (Kl L c i) z → (∀ k, k < n → z 20 k = nI (L.getD k 0)) → XPk m c z → ∃ z', lX2_findFewest_86 71 (nI m) N (nI i) z = some (nI 1, z') ∧ XCr 71 (Kl L c m) z' ∧ (∀ j, j ≠ 71 → j ≠ 72 → z' j = z j) := by
  intro d
  induction d with
  | zero =>
    intro i N z hi hN h h20 h22
    obtain ⟨N, rfl⟩ : ∃ M, N = M + 1 := ⟨N - 1, by omega⟩
    have e : i = m := by omega
    subst e
    refine ⟨z, ?_, h, fun _ _ _ => rfl⟩
    rw [lX2_findFewest_86.eq_2]
    simp (disch := omega) only [nI_leI, if_pos, lit]
  | succ d ih =>
    intro i N z hi hN h h20 h22
    obtain ⟨N, rfl⟩ : ∃ M, N = M + 1 := ⟨N - 1, by omega⟩
    have e22 := h22 i (by omega)
    have ec := hc i (by omega)
    have e20 := h20 (c i) ec
    obtain ⟨z1, a1, a2, a3⟩ := cadd_ok h (by rw [Kl_len]; omega) (s := L.getD (c i) 0)
    obtain ⟨z2, b1, b2, b3⟩ := ih (i + 1) N z1 (by omega) (by omega) a2 (by rw [a3 20 (by omega) (by omega)]; exact h20) (by unfold XPk; rw [a3 22 (by omega) (by omega)]; exact h22)
    refine ⟨z2, ?_, b2, fun j h1 h2 => (b3 j h1 h2).trans (a3 j h1 h2)⟩
    rw [lX2_findFewest_86.eq_2]
    simp (disch := omega) only [nI_leI, if_neg, inb_t, gd_t, rd_nI, e22, e20, a1, bp_s, bnd_s, lit, nI_add]
    exact b1
theorem core174 (hm : m ≤ 100) (hn : n ≤ 100) (hc : ∀ k, k < m → c k < n) : ∀ (d i N : Nat) (z : fS), i + d = m → d < N → (∀ k, k < i → z 18 k = nI (L.getD (c k) 0)) → (∀ k, k < n → z 22 k = nI (L.getD k 0)) → (∀ k, k < m → z 23 k = nI (c k)) → ∃ z', lX9_least_174 (nI m) N (nI i) z = some (nI m, wrr z' 0 (upd (z' 0) 26 (nI 0))) ∧ (∀ k, k < m → z' 18 k = nI (L.getD (c k) 0)) ∧ (∀ j, j ≠ 18 → z' j = z j) := by
  intro d
  induction d with
  | zero =>
    intro i N z hi hN h h22 h23
    obtain ⟨N, rfl⟩ : ∃ M, N = M + 1 := ⟨N - 1, by omega⟩
    have e : i = m := by omega
    subst e
    refine ⟨z, ?_, h, fun _ _ => rfl⟩
    rw [lX9_least_174.eq_2]
    simp (disch := omega) only [nI_leI, if_pos, doneM, bd_s]
  | succ d ih =>
    intro i N z hi hN h h22 h23
    obtain ⟨N, rfl⟩ : ∃ M, N = M + 1 := ⟨N - 1, by omega⟩
    have e23 := h23 i (by omega)
    have ec := hc i (by omega)
    have e22 := h22 (c i) ec
    obtain ⟨z2, b1, b2, b3⟩ := ih (i + 1) N (wrr z 18 (upd (z 18) i (nI (L.getD (c i) 0)))) (by omega) (by omega) (fun k hk => by
      rw [wrr_e]
      by_cases q : k = i
      · rw [q, upd_e]
      · rw [upd_n q]; exact h k (by omega)) (by rw [wrr_n (by omega)]; exact h22) (by rw [wrr_n (by omega)]; exact h23)
    refine ⟨z2, ?_, b2, fun j h1 => (b3 j h1).trans (wrr_n h1)⟩
    rw [lX9_least_174.eq_2]
    simp (disch := omega) only [nI_leI, if_neg, inb_t, gd_t, rd_nI, e23, e22, wr_nI, bnd_s, lit, nI_add]
    exact b1
end LOCK
theorem s_least : st_least Rel := by
  intro i zX zM a b v _ ⟨h0, T, S, tk, lv, rm, ps, pt, h⟩
  unfold fX8_least fX9_least
  rcases has_ok h a with ⟨x1, x2⟩ | ⟨m, m1, rfl, x1, x2⟩
  · refine ⟨-(nI 1), _, _, ?_, ?_, h.fin (nI 1)⟩
    · simp only [x1, bp_s, lit, if_true, refX, bd_s]
    · simp only [x2, bp_s, lit, if_true, refM, bd_s]
  · rcases has_ok h b with ⟨y1, y2⟩ | ⟨n, n1, rfl, y1, y2⟩
    · refine ⟨-(nI 1), _, _, ?_, ?_, h.fin (nI 1)⟩
      · simp (disch := omega) only [x1, y1, bp_s, lit, nI_eq, if_neg, if_true, refX, bd_s]
      · simp (disch := omega) only [x2, y2, bp_s, lit, nI_eq, if_neg, if_true, refM, bd_s]
    · by_cases v1 : v < nI 1
      · refine ⟨-(nI 1), _, _, ?_, ?_, h.fin (nI 1)⟩
        · simp (disch := omega) only [x1, y1, bp_s, lit, nI_eq, if_neg, v1, if_true, refX, bd_s]
        · simp (disch := omega) only [x2, y2, bp_s, lit, nI_eq, if_neg, v1, if_true, refM, bd_s]
      · by_cases v2 : v ≤ nI 500
        · obtain ⟨tt, t1, t2⟩ : ∃ tt, tt ≤ 500 ∧ v = nI tt := nI_of2 (n := 500) (by decide) (fun q => v1 (by rw [Int32.lt_iff_toInt_lt] at q ⊢; have e1 : (nI 1).toInt = 1 := (by decide); have e2 : (0 : Int32).toInt = 0 := (by decide); omega)) v2
          subst t2
          obtain ⟨g1, g2, r, g3, g4⟩ := stand_ok h m1 n1
          have h' := h
          obtain ⟨h1, h2, h3, h4, h5⟩ := h'
          have hW := h1.1.1
          have ht := h3.2.1.1
          have hcon := h3.2.1.2
          have hl := h3.1.1
          have hcl := cnt_le tk S.length
          have hnu := h1.2.2.1.num
          obtain ⟨r', zM1, w1, w2, w3, w4⟩ := areOne_ok hW h3.1 ht h2 m1 n1
          have hb := h.mf w3 w4
          simp (disch := omega) only [x1, y1, x2, y2, bp_s, lit, nI_eq, if_neg, v1, v2, if_true, if_false, g1, g2, g3, w1, bd_s]
          rcases g4 with ⟨rfl, g4⟩ | ⟨rfl, g4⟩
          · have hr : r' = 1 := by rcases w2 with ⟨q, _⟩ | ⟨_, q⟩; exact q; exact absurd g4 q
            subst hr
            obtain ⟨xp, p1, p2, p3⟩ := fillPool_ok hW h3.1 h1.xt
            obtain ⟨yp, q1, q2, q3⟩ := mpool_loop (T := T) h3.1 (k93 := jX9_least_93 (nI m) (nI n) (nI tt)) (v1 := nI m) (v2 := nI n) (v3 := nI tt) S.length 0 FU zM1 (by omega) (by have := FU_ge; omega) w3.2.1 (fun k hk => by simp [cnt] at hk)
            have hx0 : LX T S tk pt zX xp := ⟨h1.ag.fr fun j _ _ => p3 j (by omega) (by omega), p2, fun j e1 e2 => p3 j (by omega) (by omega)⟩
            have hy0 : LM T S tk zM1 yp := ⟨RM.fr hl w3 (fun f _ => by rw [q3 0 (by omega)]) (fun j _ _ => q3 j (by omega)) (q3 20 (by omega)), q2, fun j e1 e2 => q3 j (by omega), fun f _ => by rw [q3 0 (by omega)]⟩
            have sc : ∀ {x' y' : fS}, LX T S tk pt zX x' → LM T S tk zM1 y' → RQ i T S tk lv rm ps pt x' y' := fun {x' y'} hx hy => hb.sc hx.1 (fun j hj => hx.2.2 j (by omega) (by omega)) hy.1 (fun j e1 e2 => hy.2.2.1 j (by omega) (by omega)) (fun f e1 _ _ => hy.2.2.2 f e1)
            have q1' : lX9_least_56 (jX9_least_93 (nI m) (nI n) (nI tt)) (nI m) (nI n) (nI tt) FU (nI 0) (nI 0) zM1 = jX9_least_93 (nI m) (nI n) (nI tt) (nI (cnt tk S.length)) yp := q1
            unfold fX2_findFewest
            simp (disch := omega) only [lit, if_neg, p1, bd_s, q1']
            unfold jX9_least_93
            simp only [lit]
            rcases lock_out hW h3.1 ht hcon m1 n1 h1.xt rfl rfl t1 (k78 := jX2_findFewest_78 71) (k165 := jX9_least_165) (cnt tk S.length + 1) FU 0 0 xp yp (by omega) (by have := FU_ge; omega) (by omega) (fun q => absurd q (by omega)) hx0 hy0 with ⟨u, c, x', y', e1, e2, e3, e4, e5, e6, e7, e8⟩ | ⟨x', y', e1, e2, e3, e4⟩
            · obtain ⟨xc, c1, c2, c3⟩ := cclear_ok x' 71
              obtain ⟨xd, d1, d2, d3⟩ := core86 (L := pl tk S.length) (n := cnt tk S.length) (m := u) (c := c) (by omega) (by omega) e6.2 u 0 FU xc (by omega) (by have := FU_ge; omega) c2 (by rw [c3 20 (by omega)]; exact fun k hk => (e2.2.1 k hk).1) (by unfold XPk; rw [c3 22 (by omega)]; exact e4)
              obtain ⟨yd, f1, f2, f3⟩ := core174 (L := pl tk S.length) (n := cnt tk S.length) (m := u) (c := c) (by omega) (by omega) e6.2 u 0 FU (wrr y' 0 (upd (y' 0) 24 (nI u))) (by omega) (by have := FU_ge; omega) (fun k hk => by omega) (by rw [wrr_n (by omega)]; exact e3.2.1) (by rw [wrr_n (by omega)]; exact e5)
              have hR : RM T S tk yd := RM.fr hl e3.1 (fun f hf => by rw [f3 0 (by omega), wrr_e, upd_n (by omega)]) (fun j _ _ => by rw [f3 j (by omega), wrr_n (by omega)]) (by rw [f3 20 (by omega), wrr_n (by omega)])
              have hq := (sc e2 e3).core (z := xd) (z' := yd) (cell := 71) (c2 := 18) (fld := 24) (e2.1.fr fun j _ _ => by rw [d3 j (by omega) (by omega), c3 j (by omega)]) (Or.inr ⟨rfl, rfl, rfl⟩) (fun j _ _ _ _ g1 g2 => by rw [d3 j g1 g2, c3 j g1]) hR ⟨fun j g0 _ _ _ g1 => by rw [f3 j g1, wrr_n g0], fun j s g1 _ => by rw [f3 j (by omega), wrr_n (by omega)], fun g _ g1 => by rw [f3 0 (by omega), wrr_e, upd_n g1]⟩ d2 ⟨by rw [f3 0 (by omega), wrr_e, upd_e, Kl_len], by rw [Kl_len]; omega, fun j hj => by rw [Kl_len] at hj; rw [Kl_get hj]; exact f2 j hj⟩
              refine ⟨nI u, _, _, ?_, ?_, hq.fin (nI 0)⟩
              · rw [e7]
                unfold jX2_findFewest_78
                simp (disch := omega) only [c1, bp_s, lit, d1, bd_s, nI_eq, if_neg, ccount_ok d2, Kl_len, doneX]
              · rw [Nat.sub_zero] at e8
                rw [e8]
                unfold jX9_least_165
                simp only [wf_w, bnd_s, lit, f1]
            · refine ⟨-(nI 1), _, _, ?_, ?_, (sc e1 e2).fin (nI 7)⟩
              · rw [e3]
                simp only [bd_s, lit, if_true, refX]
              · rw [Nat.sub_zero] at e4
                exact e4
          · have hr : r' = 0 := by rcases w2 with ⟨_, q⟩ | ⟨q, _⟩; exact absurd q g4; exact q
            subst hr
            refine ⟨-(nI 1), _, _, ?_, ?_, hb.fin (nI 6)⟩
            · simp only [if_true, refX, bd_s]
            · simp only [if_true, refM, bd_s]
        · refine ⟨-(nI 1), _, _, ?_, ?_, h.fin (nI 1)⟩
          · simp (disch := omega) only [x1, y1, bp_s, lit, nI_eq, if_neg, v1, v2, if_false, refX, bd_s]
          · simp (disch := omega) only [x2, y2, bp_s, lit, nI_eq, if_neg, v1, v2, if_false, refM, bd_s]
