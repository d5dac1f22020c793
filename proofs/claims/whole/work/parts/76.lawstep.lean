/-! the face: follow -/
def FS (i lv : Nat) (rm : Nat → Nat → Bool) (n0 s0 n k hm : Nat) (hd : Nat → Nat) (bb B : Nat) (z y : fS) : Prop := TU B z ∧ (∀ q, q < hm → z 75 q = nI (hd q) ∧ y 30 q = nI (hd q)) ∧ y 0 14 = nI k ∧ ∃ T S tk ps pt c, RQ i T S tk lv rm ps pt z y ∧ n0 ≤ T.length ∧ S.length = s0 + c ∧ y 0 41 = nI c ∧ c < n + bb
section FOL
variable {T : List Tm} {S : List Sy} {tk : Nat → Bool} {lv : Nat} {rm : Nat → Nat → Bool} {ps pt i n0 s0 n k hm bb B B' l x y w : Nat} {hd : Nat → Nat} {zX zM z z' u u' : fS}
theorem TU.le (h : TU B z) (hb : B ≤ B') : TU B' z := by
  obtain ⟨m, m1, m2⟩ := h
  exact ⟨m, by omega, m2⟩
theorem FS.le (h : FS i lv rm n0 s0 n k hm hd bb B z u) (hb : B ≤ B') : FS i lv rm n0 s0 n k hm hd bb B' z u := ⟨h.1.le hb, h.2⟩
theorem FS.end (h : FS i lv rm n0 s0 n k hm hd 0 B z u) : FS i lv rm n0 s0 n k hm hd 1 B z u := by
  obtain ⟨h1, h2, h3, T, S, tk, ps, pt, c, h4, h5, h6, h7, h8⟩ := h
  exact ⟨h1, h2, h3, T, S, tk, ps, pt, c, h4, h5, h6, h7, by omega⟩
theorem FS.m24 (h : FS i lv rm n0 s0 n k hm hd bb B z u) (e : ∀ j, j ≠ 24 → u' j = u j) : FS i lv rm n0 s0 n k hm hd bb B z u' := by
  obtain ⟨h1, h2, h3, T, S, tk, ps, pt, c, h4, h5, h6, h7, h8⟩ := h
  refine ⟨h1, ?_, ?_, T, S, tk, ps, pt, c, h4.mfree fun j hj => e j (by omega), h5, h6, ?_, h8⟩
  · rw [e 30 (by omega)]; exact h2
  · rw [e 0 (by omega)]; exact h3
  · rw [e 0 (by omega)]; exact h7
theorem RQ.m4x (h : RQ i T S tk lv rm ps pt zX zM) {f : Nat} (hf : f = 40 ∨ f = 41) (v : Int32) : RQ i T S tk lv rm ps pt zX (wrr zM 0 (upd (zM 0) f v)) :=
  h.sc h.1.ag (fun _ _ => rfl) (h.2.1.f0 h.2.2.1.1.1 (by omega) (by omega) (by omega)) (fun j _ _ => wrr_n (by omega)) (fun g _ g1 g2 => by rw [wrr_e, upd_n (by omega)])
theorem RW.at {n : Nat} (h : RW n zX zM) (hk : zM 0 14 = nI k) (hk10 : k ≤ 10) (hl : l < k) : ∃ a b, a < n ∧ b < n ∧ zX 73 l = nI a ∧ zM 10 l = nI a ∧ zX 74 l = nI b ∧ zM 11 l = nI b := by
  obtain ⟨k', k1, k2, k3, k4⟩ := h
  rw [hk, nI_eq (by omega) (by omega)] at k3
  exact k4 l (by omega)
theorem law_step (hF : FS i lv rm n0 s0 n k hm hd 0 B z u) (h24 : ∀ h, h < 3 → u 24 h = nI (fil x y w h)) (hB : B + 2 ≤ 3456000 * i) (hi : i ≤ 512) (hl : l < k) (hk : k ≤ 10) (hn : n ≤ 50) (hx : x < n0) (hy : y < n0) (hw : w < n0) : ∃ e e' z' u', fX8_applyLaw z (nI l) (nI x) (nI y) (nI w) = some (nI e, z') ∧ fX9_goOn u (nI l) (nI n) = some (nI e', u') ∧ ((e = 0 ∧ e' = 0 ∧ FS i lv rm n0 s0 n k hm hd 0 (B + 2) z' u') ∨ (e = 0 ∧ e' = 1 ∧ FS i lv rm n0 s0 n k hm hd 1 (B + 2) z' u' ∧ fX5_count z' = some (nI (s0 + n))) ∨ (2 ≤ e ∧ e ≤ 4 ∧ e' = e ∧ FS i lv rm n0 s0 n k hm hd 1 (B + 2) z' u')) := by
  obtain ⟨h1, h2, h3, T, S, tk, ps, pt, c, h4, h5, h6, h7, h8⟩ := hF
  obtain ⟨la, lb, l1, l2, l3, l4, l5, l6⟩ := h4.2.2.2.1.2.1.at h3 hk hl
  obtain ⟨va, z1, u1, a1, a2, a3, a4, a5, a6⟩ := both_inst h4 h1 (by omega) hi l1 (by omega) (by omega) (by omega) h24
  unfold fX8_applyLaw fX9_goOn
  simp (disch := omega) only [inb_t, gd_t, rd_nI, l3, l4, a1, a2, bd_s]
  have e75 : z1 75 = z 75 := a5 75 (by omega)
  have m30 : u1 30 = u 30 := a6.1 30 (by omega) (by omega) (by omega)
  have m14 : u1 0 14 = u 0 14 := a6.2 14 (by omega) (by omega)
  have m41 : u1 0 41 = u 0 41 := a6.2 41 (by omega) (by omega)
  rcases a4 with ⟨rfl, a4⟩ | ⟨ra, R, rfl, ra1, a4⟩
  · unfold jX9_goOn_29
    refine ⟨2, 2, z1, u1, ?_, ?_, Or.inr (Or.inr ⟨by omega, by omega, rfl, (a3.le (by omega)), ?_, by rw [m14]; exact h3, T, S, tk, ps, pt, c, a4, h5, h6, by rw [m41]; exact h7, by omega⟩)⟩
    · simp only [litm, lit, if_true]
    · simp only [lit, litm, m1_le0, if_false, m1_lt0, if_true]
    · rw [e75, m30]; exact h2
  · have hra := a4.1.1.1.1
    have hle : T.length ≤ (T ++ R).length := by simp
    have e74 : z1 74 l = nI lb := by rw [a5 74 (by omega)]; exact l5
    have e11 : u1 11 l = nI lb := by rw [a6.1 11 (by omega) (by omega) (by omega)]; exact l6
    obtain ⟨vb, z2, u2, b1, b2, b3, b4, b5, b6⟩ := both_inst a4 a3 (by omega) hi (show lb < (T ++ R).length by omega) (show x < (T ++ R).length by omega) (show y < (T ++ R).length by omega) (show w < (T ++ R).length by omega) (by rw [a6.1 24 (by omega) (by omega) (by omega)]; exact h24)
    have f75 : z2 75 = z 75 := (b5 75 (by omega)).trans e75
    have n30 : u2 30 = u 30 := (b6.1 30 (by omega) (by omega) (by omega)).trans m30
    have n14 : u2 0 14 = u 0 14 := (b6.2 14 (by omega) (by omega)).trans m14
    have n41 : u2 0 41 = u 0 41 := (b6.2 41 (by omega) (by omega)).trans m41
    simp (disch := omega) only [litm, lit, nI_m1n, if_false, inb_t, gd_t, rd_nI, e74, e11, b1, b2, bd_s, nI_leI, Nat.zero_le, if_true]
    unfold jX9_goOn_29
    rcases b4 with ⟨rfl, b4⟩ | ⟨rb, R2, rfl, rb1, b4⟩
    · refine ⟨2, 2, z2, u2, ?_, ?_, Or.inr (Or.inr ⟨by omega, by omega, rfl, b3, ?_, by rw [n14]; exact h3, _, S, tk, ps, pt, c, b4, by omega, h6, by rw [n41]; exact h7, by omega⟩)⟩
      · simp only [if_true]
      · simp (disch := omega) only [lit, nI_ltI, if_neg, m1_le0, if_false]
      · rw [f75, n30]; exact h2
    · have hrb := b4.1.1.1.1
      have hle2 : (T ++ R).length ≤ ((T ++ R) ++ R2).length := by simp
      obtain ⟨g1, g2, r, g3, g4⟩ := stand_ok b4 (show ra < ((T ++ R) ++ R2).length by omega) rb1
      have b4' := b4
      obtain ⟨q1, q2, q3, q4, q5⟩ := b4'
      obtain ⟨r', u3, w1, w2, w3, w4⟩ := areOne_ok q1.1.1 q3.1 q3.2.1.1 q2 (show ra < ((T ++ R) ++ R2).length by omega) rb1
      have hq := b4.mf w3 w4
      have o30 : u3 30 = u 30 := (w4.1 30 (by omega) (by omega) (by omega) (by omega) (by omega)).trans n30
      have o14 : u3 0 14 = u 0 14 := (w4.2.2 14 (by omega) (by omega)).trans n14
      have o41 : u3 0 41 = nI c := ((w4.2.2 41 (by omega) (by omega)).trans n41).trans h7
      simp (disch := omega) only [lit, nI_m1n, if_false, nI_ltI, if_neg, nI_leI, Nat.zero_le, if_true, g1, g2, g3, bp_s, w1, bd_s]
      rcases g4 with ⟨rfl, g4⟩ | ⟨rfl, g4⟩
      · have hr : r' = 1 := by rcases w2 with ⟨e, _⟩ | ⟨_, e⟩; exact e; exact absurd g4 e
        subst hr
        refine ⟨0, 0, z2, u3, ?_, ?_, Or.inl ⟨rfl, rfl, b3, ?_, by rw [o14]; exact h3, _, S, tk, ps, pt, c, hq, by omega, h6, o41, h8⟩⟩
        · simp (disch := omega) only [nI_eq, if_neg]
        · simp (disch := omega) only [nI_eq, if_neg]
        · rw [f75, o30]; exact h2
      · have hr : r' = 0 := by rcases w2 with ⟨_, e⟩ | ⟨e, _⟩; exact absurd e g4; exact e
        subst hr
        rcases full_ok hq with ⟨f1, f2, f3⟩ | ⟨f2, f3⟩
        · rcases try_both hq (show ra < ((T ++ R) ++ R2).length by omega) rb1 f1 with ⟨z3, z4, u4, t1, t2, t3, t4, t5, t6, t7⟩ | ⟨z3, z4, z5, u4, u5, t1, t2, t3, t4, t5, t6, t7, t8, t9⟩
          · refine ⟨4, 4, z4, u4, ?_, ?_, Or.inr (Or.inr ⟨by omega, by omega, rfl, b3.fr (t5 58 (by omega) (by omega) (by omega)) (t5 60 (by omega) (by omega) (by omega)), ?_, by rw [t7 14 (by omega) (by omega), o14]; exact h3, _, S, tk, ps, pt, c, t4, by omega, h6, by rw [t7 41 (by omega) (by omega)]; exact o41, by omega⟩)⟩
            · simp (disch := omega) only [if_true, f2, bp_s, t1, bd_s, nI_eq, if_neg, t2]
            · simp (disch := omega) only [if_true, f3, if_false, t3, bd_s, nI_eq, if_neg]
            · rw [t5 75 (by omega) (by omega) (by omega), t6 30 (by omega), f75, o30]; exact h2
          · have hl1 : (S ++ [(true, ra, rb)]).length = s0 + (c + 1) := by simp; omega
            have e41 : u5 0 41 = nI c := by rw [t9 41 (by omega) (by omega)]; exact o41
            have hq5 := t6.m4x (Or.inr rfl) (nI (c + 1))
            have hF : ∀ q, q < hm → z5 75 q = nI (hd q) ∧ (wrr u5 0 (upd (u5 0) 41 (nI (c + 1)))) 30 q = nI (hd q) := by
              rw [wrr_n (by omega), t7 75 (by omega), t8 30 (by omega), f75, o30]; exact h2
            have h14 : (wrr u5 0 (upd (u5 0) 41 (nI (c + 1)))) 0 14 = nI k := by rw [wrr_e, upd_n (by omega), t9 14 (by omega) (by omega), o14]; exact h3
            have h41 : (wrr u5 0 (upd (u5 0) 41 (nI (c + 1)))) 0 41 = nI (c + 1) := by rw [wrr_e, upd_e]
            have hTU : TU (B + 2) z5 := b3.fr (t7 58 (by omega)) (t7 60 (by omega))
            by_cases q : c + 1 = n
            · refine ⟨0, 1, z5, wrr u5 0 (upd (u5 0) 41 (nI (c + 1))), ?_, ?_, Or.inr (Or.inl ⟨rfl, rfl, ⟨hTU, hF, h14, _, _, _, _, _, c + 1, hq5, by omega, hl1, h41, by omega⟩, by rw [scount_ok t6.1.2.1, hl1, q]⟩)⟩
              · simp (disch := omega) only [if_true, f2, bp_s, t1, bd_s, t2, t3]
              · simp (disch := omega) only [if_true, f3, if_false, t4, bd_s, t5, wf_w, bnd_s, e41, nI_add, wrr_e, upd_e, q]
            · refine ⟨0, 0, z5, wrr u5 0 (upd (u5 0) 41 (nI (c + 1))), ?_, ?_, Or.inl ⟨rfl, rfl, hTU, hF, h14, _, _, _, _, _, c + 1, hq5, by omega, hl1, h41, by omega⟩⟩
              · simp (disch := omega) only [if_true, f2, bp_s, t1, bd_s, t2, t3]
              · simp (disch := omega) only [if_true, f3, if_false, t4, bd_s, t5, wf_w, bnd_s, e41, nI_add, wrr_e, upd_e, nI_eq, q]
        · refine ⟨3, 3, z2, u3, ?_, ?_, Or.inr (Or.inr ⟨by omega, by omega, rfl, b3, ?_, by rw [o14]; exact h3, _, S, tk, ps, pt, c, hq, by omega, h6, o41, by omega⟩)⟩
          · simp (disch := omega) only [if_true, f2, bp_s, nI_eq, if_neg]
          · simp (disch := omega) only [if_true, f3]
          · rw [f75, o30]; exact h2
end FOL
