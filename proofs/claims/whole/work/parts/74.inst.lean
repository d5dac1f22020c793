/-! the face: instance -/
def TU (B : Nat) (z : fS) : Prop := ∃ m, m ≤ B ∧ z 58 5 = nI m ∧ ∀ t, t < 120 → ∃ m', m' ≤ m ∧ z 60 t = nI m'
section BIN
variable {T R : List Tm} {S : List Sy} {tk : Nat → Bool} {lv : Nat} {rm : Nat → Nat → Bool} {ps pt i B t x y w : Nat} {zX zM z z' : fS}
theorem TU.fr (h : TU B z) (e58 : z' 58 = z 58) (e60 : z' 60 = z 60) : TU B z' := by unfold TU; rw [e58, e60]; exact h
theorem RQ.tu (h : RQ i T S tk lv rm ps pt zX zM) : TU (3456000 * i) zX := h.2.2.2.1.2.2.2.2
theorem RR.fu {n n' i' : Nat} (h : RR i n lv rm zX zM) (hn : n ≤ n') (eX : ∀ j, j = 16 ∨ (63 ≤ j ∧ j ≤ 68) ∨ j = 73 ∨ j = 74 → z j = zX j) (e0 : z 0 10 = zX 0 10) (e1 : z 0 11 = zX 0 11) (e2 : z 11 7 = zX 11 7) (eM : ∀ j, 9 ≤ j → j ≤ 16 → z' j = zM j) (m0 : ∀ f, f = 11 ∨ f = 14 ∨ f = 20 ∨ f = 25 → z' 0 f = zM 0 f) (hu : RU i' z) : RR i' n' lv rm z z' := by
  obtain ⟨⟨l1, l2, l3⟩, ⟨k, w1, w2, w3, w4⟩, ⟨k', p1, p2, p3, p4⟩, h4, _⟩ := h
  refine ⟨⟨e2.trans l1, (m0 11 (by omega)).trans l2, ?_⟩, ⟨k, w1, e0.trans w2, (m0 14 (by omega)).trans w3, ?_⟩, ⟨k', p1, ?_, (m0 20 (by omega)).trans p3, ?_⟩, ?_, hu⟩
  · rw [eX 16 (by omega), eM 9 (by omega) (by omega)]; exact l3
  · rw [eX 73 (by omega), eX 74 (by omega), eM 10 (by omega) (by omega), eM 11 (by omega) (by omega)]
    intro j hj
    obtain ⟨a, b, h1, h2, h3⟩ := w4 j hj
    exact ⟨a, b, by omega, by omega, h3⟩
  · rw [eX 63 (by omega)]; exact p2
  · rw [eX 64 (by omega), eX 65 (by omega), eX 66 (by omega), eX 67 (by omega), eX 68 (by omega), eM 12 (by omega) (by omega), eM 13 (by omega) (by omega), eM 14 (by omega) (by omega), eM 15 (by omega) (by omega), eM 16 (by omega) (by omega)]
    intro j hj
    obtain ⟨q1, q2, q3, a, b, h1, h2, h3⟩ := p4 j hj
    exact ⟨q1, q2, q3, a, b, by omega, by omega, h3⟩
  · rw [e1, m0 25 (by omega)]; exact h4
/-- the reference writes where nothing lasting is kept -/
theorem RQ.mfree (h : RQ i T S tk lv rm ps pt zX zM) (e : ∀ j, j < 22 → z' j = zM j) : RQ i T S tk lv rm ps pt zX z' :=
  h.sc h.1.ag (fun _ _ => rfl) (RM.fr h.2.2.1.1.1 h.2.1 (fun f _ => by rw [e 0 (by omega)]) (fun j _ _ => e j (by omega)) (e 20 (by omega))) (fun j _ _ => e j (by omega)) (fun f _ _ _ => by rw [e 0 (by omega)])
theorem RQ.fin0 (h : RQ i T S tk lv rm ps pt zX zM) (v : Int32) : Rel i (wrr zX 0 (upd (zX 0) 12 v)) (wrr zM 0 (upd (zM 0) 26 v)) := by
  obtain ⟨h1, h2, h3, h4, h5⟩ := h
  refine ⟨by rw [wrr_e, wrr_e, upd_e, upd_e], T, S, tk, lv, rm, ps, pt, ?_, h2.f0 h3.1.1 (by omega) (by omega) (by omega), h3, ?_, ?_⟩
  · exact h1.sc (h1.ag.fr fun j _ _ => wrr_n (by omega)) (fun j _ h0 => wrr_n h0) (fun j _ _ _ => wrr_n (by omega))
  · exact h4.fr (Nat.le_refl _) (Nat.le_refl _) (fun j hj => wrr_n (by omega)) (by rw [wrr_e, upd_n (by omega)]) (by rw [wrr_e, upd_n (by omega)]) (by rw [wrr_n (by omega)]) (fun j _ _ => wrr_n (by omega)) (fun f hf => by rw [wrr_e, upd_n (by omega)])
  · exact h5.fr (fun j _ _ => wrr_n (by omega)) (fun j hj => wrr_n (by omega)) (fun f hf => by rw [wrr_e, upd_n (by omega)])
/-- an instance is asked for of both -/
theorem both_inst (h : RQ i T S tk lv rm ps pt zX zM) (hT : TU B zX) (hB : B + 1 ≤ 3456000 * i) (hi : i ≤ 512) (ht : t < T.length) (hx : x < T.length) (hy : y < T.length) (hw : w < T.length) (h24 : ∀ h, h < 3 → zM 24 h = nI (fil x y w h)) : ∃ v zX' zM', fX8_madeInstance zX (nI t) (nI x) (nI y) (nI w) = some (v, zX') ∧ fX9_instanceOf zM (nI t) = some (v, zM') ∧ TU (B + 1) zX' ∧ ((v = -(nI 1) ∧ RQ i T S tk lv rm ps pt zX' zM') ∨ ∃ r R, v = nI r ∧ r < (T ++ R).length ∧ RQ i (T ++ R) S tk lv rm ps pt zX' zM') ∧ (∀ j, 63 ≤ j → zX' j = zX j) ∧ Mg zM zM' := by
  obtain ⟨h1, h2, h3, h4, h5⟩ := h
  obtain ⟨m, m1, m2, m3⟩ := hT
  have hW := h1.1.1
  have h120 := hW.1
  have hf : ∀ k, k < 3 → fil x y w k < T.length := fun k _ => by unfold fil; split; exact hx; split; exact hy; exact hw
  have hcnt : fX7_count zX = some (nI T.length) := by unfold fX7_count; rw [h1.1.2.2.1.1]
  obtain ⟨v, z1, a1, a2, a3, a4, a5⟩ := makeInstance_ok h1.1 m2 (by omega) m3 ht hx hy hw
  obtain ⟨v', zM1, b1, b2, b3⟩ := instanceOf_ok h2.1 hW h1.1.2.1 hf h24 ht
  have hTU : TU (B + 1) z1 := ⟨m + 1, by omega, a3, a4⟩
  have hRU : RU i z1 := ⟨m + 1, by omega, a3, a4⟩
  have hMs : MSy S tk zM1 := h2.2.1.fr (b3.2 9 (by omega) (by omega)) (fun j g1 g2 s _ => by rw [b3.1 j (by omega) (by omega) (by omega)]) h3.1.1
  have hRR : RR i T.length lv rm z1 zM1 := h4.fu (Nat.le_refl _) (fun j hj => a5 j (by omega)) (by rw [a5 0 (by omega)]) (by rw [a5 0 (by omega)]) (by rw [a5 11 (by omega)]) (fun j g1 g2 => b3.1 j (by omega) (by omega) (by omega)) (fun f hf => b3.2 f (by omega) (by omega)) hRU
  have hRK : RK z1 zM1 := h5.fr (fun j g1 g2 => a5 j (by omega)) (fun j hj => b3.1 j (by omega) (by omega) (by omega)) (fun f hf => b3.2 f (by omega) (by omega))
  have fin : ∀ {R : List Tm}, HX (T ++ R) z1 → RM (T ++ R) S tk zM1 → ∃ z2, fX8_madeInstance zX (nI t) (nI x) (nI y) (nI w) = some (v, z2) ∧ RQ i (T ++ R) S tk lv rm ps pt z2 zM1 ∧ TU (B + 1) z2 ∧ ∀ j, 63 ≤ j → z2 j = zX j := by
    intro R g1 g2
    obtain ⟨z2, c1, c2, c3⟩ := adm_ok h1 h3 g1 (fun j q1 q2 => a5 j (by omega)) g2 hRR hRK
    refine ⟨z2, ?_, c2, hTU.fr (c3 58 (by omega)) (c3 60 (by omega)), fun j hj => by rw [c3 j (by omega), a5 j (by omega)]⟩
    unfold fX8_madeInstance
    simp only [hcnt, bp_s, a1, bd_s, c1]
  rcases a2 with ⟨i1, rfl, i3⟩ | ⟨r, T', i1, rfl, i3, i4, i5⟩
  · rcases b2 with ⟨_, rfl, k3, k4⟩ | ⟨r, T', k1, _⟩
    · obtain ⟨z2, f1, f2, f3, f4⟩ := fin (R := []) (by rw [List.append_nil]; exact i3) (by rw [List.append_nil]; exact ⟨k3, hMs, Or.inl k4⟩)
      rw [List.append_nil] at f2
      exact ⟨_, z2, zM1, f1, b1, f3, Or.inl ⟨rfl, f2⟩, f4, b3⟩
    · rw [i1] at k1; cases k1
  · rcases b2 with ⟨k1, _⟩ | ⟨r', T2, k1, rfl, k3, k4⟩
    · rw [i1] at k1; cases k1
    · rw [i1] at k1
      cases k1
      obtain ⟨R, rfl⟩ := i4.1
      have hRM : RM (T ++ R) S tk zM1 := by
        refine ⟨k3, hMs, ?_⟩
        rcases k4 with ⟨q1, q2⟩ | q
        · rw [q1]
          rw [q2]
          rcases h2.2.2 with q | ⟨q, on, q3, q4⟩
          · exact Or.inl q
          · exact Or.inr ⟨q, on, fun t ht => by rw [b3.1 20 (by omega) (by omega) (by omega)]; exact q3 t ht, q4⟩
        · exact Or.inl q
      obtain ⟨z2, f1, f2, f3, f4⟩ := fin i3 hRM
      exact ⟨_, z2, zM1, f1, b1, f3, Or.inr ⟨r, R, rfl, i5, f2⟩, f4, b3⟩
end BIN
theorem s_instance : st_instance Rel := by
  intro i zX zM a b c e hi ⟨h0, T, S, tk, lv, rm, ps, pt, h⟩
  unfold fX8_instance fX9_instance
  rcases has_ok h a with ⟨x1, x2⟩ | ⟨m, m1, rfl, x1, x2⟩
  · refine ⟨-(nI 1), _, _, ?_, ?_, h.fin (nI 1)⟩
    · simp only [x1, bp_s, lit, if_true, refX, bd_s]
    · simp only [x2, bp_s, lit, if_true, refM, bd_s]
  · rcases has_ok h b with ⟨y1, y2⟩ | ⟨n, n1, rfl, y1, y2⟩
    · refine ⟨-(nI 1), _, _, ?_, ?_, h.fin (nI 1)⟩
      · simp (disch := omega) only [x1, y1, bp_s, lit, nI_eq, if_neg, if_true, refX, bd_s]
      · simp (disch := omega) only [x2, y2, bp_s, lit, nI_eq, if_neg, if_true, refM, bd_s]
    · rcases has_ok h c with ⟨c1, c2⟩ | ⟨o, o1, rfl, c1, c2⟩
      · refine ⟨-(nI 1), _, _, ?_, ?_, h.fin (nI 1)⟩
        · simp (disch := omega) only [x1, y1, c1, bp_s, lit, nI_eq, if_neg, if_true, refX, bd_s]
        · simp (disch := omega) only [x2, y2, c2, bp_s, lit, nI_eq, if_neg, if_true, refM, bd_s]
      · rcases has_ok h e with ⟨e1, e2⟩ | ⟨p, p1, rfl, e1, e2⟩
        · refine ⟨-(nI 1), _, _, ?_, ?_, h.fin (nI 1)⟩
          · simp (disch := omega) only [x1, y1, c1, e1, bp_s, lit, nI_eq, if_neg, if_true, refX, bd_s]
          · simp (disch := omega) only [x2, y2, c2, e2, bp_s, lit, nI_eq, if_neg, if_true, refM, bd_s]
        · obtain ⟨zM0', q0⟩ : ∃ q, q = wrr zM 24 (upd (upd (upd (zM 24) 0 (nI n)) 1 (nI o)) 2 (nI p)) := ⟨_, rfl⟩
          have hb : RQ (i + 1) T S tk lv rm ps pt zX zM0' := h.up.mfree fun j hj => by rw [q0, wrr_n (by omega)]
          have h24 : ∀ k, k < 3 → zM0' 24 k = nI (fil n o p k) := by
            intro k hk
            rw [q0, wrr_e]
            have : k = 0 ∨ k = 1 ∨ k = 2 := by omega
            rcases this with rfl | rfl | rfl
            · rw [upd_n (by omega), upd_n (by omega), upd_e]; rfl
            · rw [upd_n (by omega), upd_e]; rfl
            · rw [upd_e]; rfl
          obtain ⟨v, zX', zM', g1, g2, g3, g4, _, _⟩ := both_inst (B := 3456000 * i) hb h.tu (by omega) (by omega) m1 n1 o1 p1 h24
          simp (disch := omega) only [x1, y1, c1, e1, x2, y2, c2, e2, bp_s, lit, nI_eq, if_neg, inb_t, gd_t, wr_nI, wrr_e, wrr_wrr, bnd_s]
          rw [← q0, g1, g2]
          simp only [bd_s]
          unfold fX9_answer
          rcases g4 with ⟨rfl, g4⟩ | ⟨r, R, rfl, g5, g4⟩
          · refine ⟨-(nI 1), wrr zX' 0 (upd (zX' 0) 12 (nI 3)), wrr zM' 0 (upd (zM' 0) 26 (nI 3)), ?_, ?_, ?_⟩
            · simp only [litm, if_true, refX, bd_s]
            · simp only [lit, m1_le0, if_false, refM, bd_s]
            · exact g4.fin0 (nI 3)
          · have h120 := g4.1.1.1.1
            refine ⟨nI r, wrr zX' 0 (upd (zX' 0) 12 (nI 0)), wrr zM' 0 (upd (zM' 0) 26 (nI 0)), ?_, ?_, ?_⟩
            · simp (disch := omega) only [litm, nI_m1n, if_false, doneX, bd_s]
            · simp (disch := omega) only [lit, nI_leI, Nat.zero_le, if_true, doneM, bd_s]
            · exact g4.fin0 (nI 0)
