/-! the face: follow, its three loops -/
def finX (s0 : Int32) (v : Int32) (z : fS) : Option (Int32 × fS) :=
  bnd (wf z 0 11 v) fun z244 =>
  bp (fX5_count z244) fun r252 =>
  bd (fX8_done z244 (r252 - s0)) fun r258 z258 =>
  some (r258, z258)
section LOO
variable {lv : Nat} {rm : Nat → Nat → Bool} {i n0 s0 n k hm l xs ys zs p1 p2 : Nat} {hd : Nat → Nat}
theorem in_loop (hi : i ≤ 512) (hl : l < k) (hk : k ≤ 10) (hn : n ≤ 50) (hs : s0 ≤ 100) (hm1 : hm ≤ 120) (hhd : ∀ q, q < hm → hd q < n0) (h1 : p1 < hm) (h2 : p2 < hm) (hz : zs ≤ hm) {k229 : Int32 → fS → Option (Int32 × fS)} {k146 : fS → Option (Int32 × fS)} {v5 v6 v3 v4 : Int32} : ∀ (d p N M B : Nat) (z u : fS), p + d = zs → d + 1 < N → d < M → B + 2 * d ≤ 3456000 * i → FS i lv rm n0 s0 n k hm hd 0 B z u →
    (∃ z' u', FS i lv rm n0 s0 n k hm hd 0 (B + 2 * d) z' u' ∧ lX8_follow_161 k229 (nI l) (nI n) v5 v6 (nI zs) (nI s0) (nI p1) (nI p2) N (nI 0) (nI p) z = k229 (nI 0) z' ∧ lX9_followAll_78 k146 (nI l) (nI n) v3 v4 (nI zs) (nI p1) (nI p2) M (nI p) u = k146 u') ∨
    (∃ e B' z' u', 1 ≤ e ∧ e ≤ 4 ∧ FS i lv rm n0 s0 n k hm hd 1 B' z' u' ∧ lX8_follow_161 k229 (nI l) (nI n) v5 v6 (nI zs) (nI s0) (nI p1) (nI p2) N (nI 0) (nI p) z = k229 (nI e) z' ∧ lX9_followAll_78 k146 (nI l) (nI n) v3 v4 (nI zs) (nI p1) (nI p2) M (nI p) u = some (nI e, u')) := by
  intro d
  induction d with
  | zero =>
    intro p N M B z u hp hN hM hB hF
    obtain ⟨N, rfl⟩ : ∃ K, N = K + 1 := ⟨N - 1, by omega⟩
    obtain ⟨M, rfl⟩ : ∃ K, M = K + 1 := ⟨M - 1, by omega⟩
    refine Or.inl ⟨z, u, hF, ?_, ?_⟩
    · rw [lX8_follow_161.eq_2]
      simp (disch := omega) only [nI_leI, if_pos]
    · rw [lX9_followAll_78.eq_2]
      simp (disch := omega) only [nI_leI, if_pos]
  | succ d ih =>
    intro p N M B z u hp hN hM hB hF
    obtain ⟨N, rfl⟩ : ∃ K, N = K + 1 := ⟨N - 1, by omega⟩
    obtain ⟨M, rfl⟩ : ∃ K, M = K + 1 := ⟨M - 1, by omega⟩
    have a1 := hF.2.1 p1 h1
    have a2 := hF.2.1 p2 h2
    have a3 := hF.2.1 p (by omega)
    obtain ⟨u1, e1⟩ : ∃ q, q = wrr u 24 (upd (upd (upd (u 24) 0 (nI (hd p1))) 1 (nI (hd p2))) 2 (nI (hd p))) := ⟨_, rfl⟩
    have hF1 := hF.m24 (u' := u1) fun j hj => by rw [e1, wrr_n hj]
    have h24 : ∀ h, h < 3 → u1 24 h = nI (fil (hd p1) (hd p2) (hd p) h) := by
      intro h hh
      rw [e1, wrr_e]
      have : h = 0 ∨ h = 1 ∨ h = 2 := by omega
      rcases this with rfl | rfl | rfl
      · rw [upd_n (by omega), upd_n (by omega), upd_e]; rfl
      · rw [upd_n (by omega), upd_e]; rfl
      · rw [upd_e]; rfl
    obtain ⟨e, e', z2, u2, b1, b2, b3⟩ := law_step hF1 h24 (by omega) hi hl hk hn (hhd p1 h1) (hhd p2 h2) (hhd p (by omega))
    have stX : lX8_follow_161 k229 (nI l) (nI n) v5 v6 (nI zs) (nI s0) (nI p1) (nI p2) (N + 1) (nI 0) (nI p) z = (if nI e = nI 0 then bp (fX5_count z2) fun r210 => if (r210 - nI s0) < nI n then lX8_follow_161 k229 (nI l) (nI n) v5 v6 (nI zs) (nI s0) (nI p1) (nI p2) N (nI e) (nI (p + 1)) z2 else lX8_follow_161 k229 (nI l) (nI n) v5 v6 (nI zs) (nI s0) (nI p1) (nI p2) N (nI 1) (nI (p + 1)) z2 else lX8_follow_161 k229 (nI l) (nI n) v5 v6 (nI zs) (nI s0) (nI p1) (nI p2) N (nI e) (nI (p + 1)) z2) := by
      rw [lX8_follow_161.eq_2]
      simp (disch := omega) only [nI_leI, if_neg, lit, if_true, inb_t, gd_t, rd_nI, a1.1, a2.1, a3.1, b1, bd_s, nI_add, bnd_s]
    have stM : lX9_followAll_78 k146 (nI l) (nI n) v3 v4 (nI zs) (nI p1) (nI p2) (M + 1) (nI p) u = (if nI e' = nI 0 then lX9_followAll_78 k146 (nI l) (nI n) v3 v4 (nI zs) (nI p1) (nI p2) M (nI (p + 1)) u2 else some (nI e', u2)) := by
      rw [lX9_followAll_78.eq_2]
      simp (disch := omega) only [nI_leI, if_neg, lit, inb_t, gd_t, rd_nI, a1.2, a2.2, a3.2, wr_nI, bnd_s, wrr_n, wrr_e, wrr_wrr]
      rw [← e1, b2, bd_s]
      simp only [nI_add]
    have outX : ∀ {e : Nat} {z2 : fS}, 1 ≤ e → e ≤ 4 → lX8_follow_161 k229 (nI l) (nI n) v5 v6 (nI zs) (nI s0) (nI p1) (nI p2) N (nI e) (nI (p + 1)) z2 = k229 (nI e) z2 := by
      intro e z2 g1 g2
      obtain ⟨N, rfl⟩ : ∃ K, N = K + 1 := ⟨N - 1, by omega⟩
      rw [lX8_follow_161.eq_2]
      by_cases q : zs ≤ p + 1
      · simp (disch := omega) only [nI_leI, q, if_true]
      · simp (disch := omega) only [nI_leI, q, if_false, lit, nI_eq, if_neg]
    rw [stX, stM]
    rcases b3 with ⟨rfl, rfl, b3⟩ | ⟨rfl, rfl, b3, b4⟩ | ⟨g1, g2, rfl, b3⟩
    · have hc : ∃ c, c < n ∧ fX5_count z2 = some (nI (s0 + c)) := by
        obtain ⟨_, _, _, T, S, tk, ps, pt, c, f4, f5, f6, f7, f8⟩ := b3
        exact ⟨c, by omega, by rw [scount_ok f4.1.2.1, f6]⟩
      obtain ⟨c, c1, c2⟩ := hc
      have := ih (p + 1) N M (B + 2) z2 u2 (by omega) (by omega) (by omega) (by omega) b3
      rw [show B + 2 + 2 * d = B + 2 * (d + 1) by omega] at this
      simp (disch := omega) only [if_true, c2, bp_s, nI_sub, Nat.add_sub_cancel_left, nI_ltI, c1]
      exact this
    · refine Or.inr ⟨1, B + 2, z2, u2, by omega, by omega, b3, ?_, ?_⟩
      · simp (disch := omega) only [if_true, b4, bp_s, nI_sub, Nat.add_sub_cancel_left, nI_ltI, Nat.lt_irrefl, if_false]
        exact outX (by omega) (by omega)
      · simp (disch := omega) only [nI_eq, if_neg]
    · refine Or.inr ⟨e', B + 2, z2, u2, by omega, by omega, b3, ?_, ?_⟩
      · rw [if_neg (by rw [nI_eq (by omega) (by omega)]; omega)]
        exact outX (by omega) g2
      · rw [if_neg (by rw [nI_eq (by omega) (by omega)]; omega)]
theorem mid_loop (hi : i ≤ 512) (hl : l < k) (hk : k ≤ 10) (hn : n ≤ 50) (hs : s0 ≤ 100) (hm1 : hm ≤ 120) (hhd : ∀ q, q < hm → hd q < n0) (h1 : p1 < hm) (hy : ys ≤ hm) (hz : zs ≤ hm) {k235 : Int32 → fS → Option (Int32 × fS)} {k152 : fS → Option (Int32 × fS)} {v5 v3 : Int32} : ∀ (d p N M B : Nat) (z u : fS), p + d = ys → d + 1 < N → d < M → B + 240 * d ≤ 3456000 * i → FS i lv rm n0 s0 n k hm hd 0 B z u →
    (∃ z' u', FS i lv rm n0 s0 n k hm hd 0 (B + 240 * d) z' u' ∧ lX8_follow_146 k235 (nI l) (nI n) v5 (nI ys) (nI zs) (nI s0) (nI p1) N (nI 0) (nI p) z = k235 (nI 0) z' ∧ lX9_followAll_68 k152 (nI l) (nI n) v3 (nI ys) (nI zs) (nI p1) M (nI p) u = k152 u') ∨
    (∃ e B' z' u', 1 ≤ e ∧ e ≤ 4 ∧ FS i lv rm n0 s0 n k hm hd 1 B' z' u' ∧ lX8_follow_146 k235 (nI l) (nI n) v5 (nI ys) (nI zs) (nI s0) (nI p1) N (nI 0) (nI p) z = k235 (nI e) z' ∧ lX9_followAll_68 k152 (nI l) (nI n) v3 (nI ys) (nI zs) (nI p1) M (nI p) u = some (nI e, u')) := by
  intro d
  induction d with
  | zero =>
    intro p N M B z u hp hN hM hB hF
    obtain ⟨N, rfl⟩ : ∃ K, N = K + 1 := ⟨N - 1, by omega⟩
    obtain ⟨M, rfl⟩ : ∃ K, M = K + 1 := ⟨M - 1, by omega⟩
    refine Or.inl ⟨z, u, hF, ?_, ?_⟩
    · rw [lX8_follow_146.eq_2]
      simp (disch := omega) only [nI_leI, if_pos]
    · rw [lX9_followAll_68.eq_2]
      simp (disch := omega) only [nI_leI, if_pos]
  | succ d ih =>
    intro p N M B z u hp hN hM hB hF
    obtain ⟨N, rfl⟩ : ∃ K, N = K + 1 := ⟨N - 1, by omega⟩
    obtain ⟨M, rfl⟩ : ∃ K, M = K + 1 := ⟨M - 1, by omega⟩
    rw [lX8_follow_146.eq_2, lX9_followAll_68.eq_2]
    simp (disch := omega) only [nI_leI, if_neg, lit, if_true]
    rcases in_loop (lv := lv) (rm := rm) (n0 := n0) (s0 := s0) (n := n) (hd := hd) hi hl hk hn hs hm1 hhd h1 (show p < hm by omega) hz (k229 := jX8_follow_229 (lX8_follow_146 k235 (nI l) (nI n) v5 (nI ys) (nI zs) (nI s0) (nI p1) N) k235 (nI l) (nI n) v5 (nI ys) (nI zs) (nI s0) (nI p1) (nI p)) (k146 := jX9_followAll_146 (lX9_followAll_68 k152 (nI l) (nI n) v3 (nI ys) (nI zs) (nI p1) M) k152 (nI l) (nI n) v3 (nI ys) (nI zs) (nI p1) (nI p)) (v5 := v5) (v6 := nI ys) (v3 := v3) (v4 := nI ys) zs 0 FU FU B z u (by omega) (by have := FU_ge; omega) (by have := FU_ge; omega) (by omega) hF with ⟨z1, u1, a1, a2, a3⟩ | ⟨e, B', z1, u1, g1, g2, a1, a2, a3⟩
    · rw [a2, a3]
      unfold jX8_follow_229 jX9_followAll_146
      simp only [lit, nI_add, bnd_s]
      have := ih (p + 1) N M (B + 240) z1 u1 (by omega) (by omega) (by omega) (by omega) (a1.le (by omega))
      rw [show B + 240 + 240 * d = B + 240 * (d + 1) by omega] at this
      exact this
    · rw [a2, a3]
      refine Or.inr ⟨e, B', z1, u1, g1, g2, a1, ?_, rfl⟩
      unfold jX8_follow_229
      simp only [lit, nI_add, bnd_s]
      obtain ⟨N, rfl⟩ : ∃ K, N = K + 1 := ⟨N - 1, by omega⟩
      rw [lX8_follow_146.eq_2]
      by_cases q : ys ≤ p + 1
      · simp (disch := omega) only [nI_leI, q, if_true]
      · simp (disch := omega) only [nI_leI, q, if_false, lit, nI_eq, if_neg]
theorem out_loop (hi : i ≤ 512) (hl : l < k) (hk : k ≤ 10) (hn : n ≤ 50) (hs : s0 ≤ 100) (hm1 : hm ≤ 120) (hhd : ∀ q, q < hm → hd q < n0) (hx : xs ≤ hm) (hy : ys ≤ hm) (hz : zs ≤ hm) : ∀ (d p N M B : Nat) (z u : fS), p + d = xs → d + 1 < N → d < M → B + 28800 * d ≤ 3456000 * i → FS i lv rm n0 s0 n k hm hd 0 B z u →
    ∃ e B' z' u', e ≤ 4 ∧ FS i lv rm n0 s0 n k hm hd 1 B' z' u' ∧ lX8_follow_131 (nI l) (nI n) (nI xs) (nI ys) (nI zs) (nI s0) N (nI 0) (nI p) z = finX (nI s0) (nI e) z' ∧ lX9_followAll_59 (nI l) (nI n) (nI xs) (nI ys) (nI zs) M (nI p) u = some (nI e, u') := by
  intro d
  induction d with
  | zero =>
    intro p N M B z u hp hN hM hB hF
    obtain ⟨N, rfl⟩ : ∃ K, N = K + 1 := ⟨N - 1, by omega⟩
    obtain ⟨M, rfl⟩ : ∃ K, M = K + 1 := ⟨M - 1, by omega⟩
    refine ⟨0, B, z, u, by omega, hF.end, ?_, ?_⟩
    · rw [lX8_follow_131.eq_2]
      unfold finX
      simp (disch := omega) only [nI_leI, if_pos]
    · rw [lX9_followAll_59.eq_2]
      simp (disch := omega) only [nI_leI, if_pos, lit]
  | succ d ih =>
    intro p N M B z u hp hN hM hB hF
    obtain ⟨N, rfl⟩ : ∃ K, N = K + 1 := ⟨N - 1, by omega⟩
    obtain ⟨M, rfl⟩ : ∃ K, M = K + 1 := ⟨M - 1, by omega⟩
    rw [lX8_follow_131.eq_2, lX9_followAll_59.eq_2]
    simp (disch := omega) only [nI_leI, if_neg, lit, if_true]
    rcases mid_loop (lv := lv) (rm := rm) (n0 := n0) (s0 := s0) (n := n) (hd := hd) hi hl hk hn hs hm1 hhd (show p < hm by omega) hy hz (k235 := jX8_follow_235 (lX8_follow_131 (nI l) (nI n) (nI xs) (nI ys) (nI zs) (nI s0) N) (nI l) (nI n) (nI xs) (nI ys) (nI zs) (nI s0) (nI p)) (k152 := jX9_followAll_152 (lX9_followAll_59 (nI l) (nI n) (nI xs) (nI ys) (nI zs) M) (nI l) (nI n) (nI xs) (nI ys) (nI zs) (nI p)) (v5 := nI xs) (v3 := nI xs) ys 0 FU FU B z u (by omega) (by have := FU_ge; omega) (by have := FU_ge; omega) (by omega) hF with ⟨z1, u1, a1, a2, a3⟩ | ⟨e, B', z1, u1, g1, g2, a1, a2, a3⟩
    · rw [a2, a3]
      unfold jX8_follow_235 jX9_followAll_152
      simp only [lit, nI_add, bnd_s]
      exact ih (p + 1) N M (B + 28800) z1 u1 (by omega) (by omega) (by omega) (by omega) (a1.le (by omega))
    · rw [a2, a3]
      refine ⟨e, B', z1, u1, g2, a1, ?_, rfl⟩
      unfold jX8_follow_235
      simp only [lit, nI_add, bnd_s]
      obtain ⟨N, rfl⟩ : ∃ K, N = K + 1 := ⟨N - 1, by omega⟩
      rw [lX8_follow_131.eq_2]
      unfold finX
      by_cases q : xs ≤ p + 1
      · simp (disch := omega) only [nI_leI, q, if_true]
      · simp (disch := omega) only [nI_leI, q, if_false, lit, nI_eq, if_neg]
end LOO
