/-! the agenda is worked off -/
theorem lastx {α : Type} {l : List α} (h : l ≠ []) : ∃ l0 x, l = l0 ++ [x] := ⟨l.dropLast, l.getLast h, (List.dropLast_concat_getLast h).symm⟩
section AG
variable {C : List Nat} {Q : List (Nat × Nat)} {z : fS}
theorem clear_loop (hC : ∀ u, u ∈ C → u < 120) (hl : C.length ≤ 120) : ∀ (d i N : Nat) (z : fS), i + d = C.length → d < N → z 23 5 = nI C.length → (∀ i, i < C.length → z 26 i = nI (C.getD i 0)) → (∀ u, u < 120 → u ∉ C.drop i → z 27 u = nI 0) → ∃ z', lX0_clear_7 N (nI i) z = some z' ∧ z' 23 = upd (z 23) 5 (nI 0) ∧ (∀ u, u < 120 → z' 27 u = nI 0) ∧ (∀ j, j ≠ 23 → j ≠ 27 → z' j = z j) := by
  intro d
  induction d with
  | zero =>
    intro i N z hi hN h5 h6 h7
    obtain ⟨N, rfl⟩ : ∃ M, N = M + 1 := ⟨N - 1, by omega⟩
    refine ⟨wrr z 23 (upd (z 23) 5 (nI 0)), ?_, wrr_e, fun u hu => ?_, fun j c1 c2 => wrr_n c1⟩
    · rw [lX0_clear_7.eq_2]
      simp (disch := omega) only [h5, nI_leI, if_pos, lit, wf_w, bnd_s]
    · rw [wrr_n (by omega)]
      refine h7 u hu ?_
      rw [List.drop_eq_nil_of_le (by omega)]
      simp
  | succ d ih =>
    intro i N z hi hN h5 h6 h7
    obtain ⟨N, rfl⟩ : ∃ M, N = M + 1 := ⟨N - 1, by omega⟩
    have hm := gD_mem (l := C) (i := i) (by omega)
    have hlt := hC _ hm
    have e6 := h6 i (by omega)
    obtain ⟨z', e1, e2, e3, e4⟩ := ih (i + 1) N (wrr z 27 (upd (z 27) (C.getD i 0) (nI 0))) (by omega) (by omega) (by rw [wrr_n (by omega)]; exact h5) (fun j hj => by rw [wrr_n (by omega)]; exact h6 j hj) (fun u hu hn => by
      rw [wrr_e]
      by_cases e : u = C.getD i 0
      · rw [e, upd_e]
      · rw [upd_n e]
        refine h7 u hu (fun hq => ?_)
        have hd : C.drop i = C.getD i 0 :: C.drop (i + 1) := by
          rw [List.getD_eq_getElem?_getD, List.getElem?_eq_getElem (by omega)]
          exact List.drop_eq_getElem_cons (by omega)
        rw [hd] at hq
        rcases List.mem_cons.mp hq with hq | hq
        · exact e hq
        · exact hn hq)
    refine ⟨z', ?_, ?_, e3, fun j c1 c2 => by rw [e4 j c1 c2, wrr_n c2]⟩
    · rw [lX0_clear_7.eq_2]
      simp (disch := omega) only [h5, nI_leI, if_neg, lit, inb_t, gd_t, rd_nI, e6, zb_0, wr_nI, bnd_s, nI_add]
      exact e1
    · rw [e2, wrr_n (by omega)]
theorem clear_ok (h : HA C Q z) : ∃ z', fX0_clear z = some z' ∧ HA [] [] z' ∧ (∀ j, j ≠ 23 → j ≠ 27 → z' j = z j) := by
  have hl := h.Cle
  obtain ⟨h1, h2, h3, h4, h5, h6, h7⟩ := h
  obtain ⟨z', e1, e2, e3, e4⟩ := clear_loop h6 hl C.length 0 FU (wrr z 23 (upd (z 23) 4 (nI 0))) (by omega) (by have := FU_ge; omega) (by rw [wrr_e, upd_n (by omega)]; exact h3) (fun i hi => by rw [wrr_n (by omega)]; exact h4 i hi) (fun u hu hn => by
    rw [wrr_n (by omega), h7 u hu, if_neg (by simpa using hn)])
  refine ⟨z', ?_, ⟨?_, fun i hi => by simp at hi, ?_, fun i hi => by simp at hi, by simp, fun u hu => by simp at hu, fun u hu => by simp [e3 u hu]⟩, fun j c1 c2 => by rw [e4 j c1 c2, wrr_n c1]⟩
  · unfold fX0_clear
    simp only [lit, wf_w, bnd_s]
    exact e1
  · rw [e2, wrr_e, upd_n (by omega), upd_e]; rfl
  · rw [e2, upd_e]; rfl
theorem hasPair_ok (h : HA C Q z) (hq : Q.length < 2 ^ 31) : fX0_hasPair z = some (if Q = [] then nI 0 else nI 1) := by
  unfold fX0_hasPair
  rw [h.1]
  by_cases q : Q = []
  · subst q
    simp (disch := omega) only [lit, List.length_nil, nI_leI, if_pos, if_true]
  · have : 0 < Q.length := List.length_pos_iff.mpr q
    simp (disch := omega) only [lit, nI_leI, if_neg]
theorem hasChanged_ok (h : HA C Q z) : fX0_hasChanged z = some (if C = [] then nI 0 else nI 1) := by
  have hl := h.Cle
  unfold fX0_hasChanged
  rw [h.2.2.1]
  by_cases q : C = []
  · subst q
    simp (disch := omega) only [lit, List.length_nil, nI_leI, if_pos, if_true]
  · have : 0 < C.length := List.length_pos_iff.mpr q
    simp (disch := omega) only [lit, nI_leI, if_neg]
theorem takeChanged_ok {C0 : List Nat} {t : Nat} (h : HA (C0 ++ [t]) Q z) : ∃ z', fX0_takeChanged z = some (nI t, z') ∧ HA C0 Q z' ∧ (∀ j, j ≠ 23 → j ≠ 27 → z' j = z j) := by
  have hl := h.Cle
  obtain ⟨h1, h2, h3, h4, h5, h6, h7⟩ := h
  simp only [List.length_append, List.length_singleton] at h3 h4 hl
  have ht : t < 120 := h6 t (by simp)
  have e26 : z 26 C0.length = nI t := by rw [h4 C0.length (by omega), gD_r]
  have hnd := List.nodup_append.mp h5
  have htC : t ∉ C0 := fun hm => hnd.2.2 t hm t (by simp) rfl
  refine ⟨wrr (wrr z 23 (upd (z 23) 5 (nI C0.length))) 27 (upd (z 27) t (nI 0)), ?_, ⟨?_, ?_, ?_, ?_, hnd.1, fun u hu => h6 u (List.mem_append_left _ hu), ?_⟩, ?_⟩
  · unfold fX0_takeChanged
    simp (disch := omega) only [h3, lit, nI_sub, Nat.add_sub_cancel, wf_w, bnd_s, wrr_e, upd_e, inb_t, gd_t, rd_nI, wrr_n, e26, zb_0, wr_nI]
  · simp (disch := omega) only [wrr_n, wrr_e, upd_n]; exact h1
  · intro i hi
    simp (disch := omega) only [wrr_n]; exact h2 i hi
  · simp (disch := omega) only [wrr_n, wrr_e, upd_e]
  · intro i hi
    simp (disch := omega) only [wrr_n]
    rw [h4 i (by omega), gD_l hi]
  · intro u hu
    rw [wrr_e]
    by_cases e : u = t
    · subst e; rw [upd_e, if_neg htC]
    · rw [upd_n e, h7 u hu]
      simp [e]
  · intro j c1 c2
    simp (disch := omega) only [wrr_n]
theorem lastPair_ok {Q0 : List (Nat × Nat)} {a b : Nat} (h : HA C (Q0 ++ [(a, b)]) z) (hq : Q0.length < 242) : fX0_lastLeft z = some (nI a) ∧ fX0_lastRight z = some (nI b) ∧ ∃ z', fX0_removePair z = some z' ∧ HA C Q0 z' ∧ (∀ j, j ≠ 23 → z' j = z j) := by
  obtain ⟨h1, h2, h3, h4, h5, h6, h7⟩ := h
  simp only [List.length_append, List.length_singleton] at h1 h2
  have e := h2 Q0.length (by omega)
  rw [gD_r] at e
  refine ⟨?_, ?_, wrr z 23 (upd (z 23) 4 (nI Q0.length)), ?_, ⟨?_, ?_, ?_, ?_, h5, h6, ?_⟩, fun j c => wrr_n c⟩
  · unfold fX0_lastLeft
    simp (disch := omega) only [h1, lit, nI_sub, Nat.add_sub_cancel, inb_t, gd_t, rd_nI, e.1]
  · unfold fX0_lastRight
    simp (disch := omega) only [h1, lit, nI_sub, Nat.add_sub_cancel, inb_t, gd_t, rd_nI, e.2]
  · unfold fX0_removePair
    simp (disch := omega) only [h1, lit, nI_sub, Nat.add_sub_cancel, wf_w, bnd_s]
  · rw [wrr_e, upd_e]
  · intro i hi
    have := h2 i (by omega)
    rw [gD_l hi] at this
    simp (disch := omega) only [wrr_n]; exact this
  · rw [wrr_e, upd_n (by omega)]; exact h3
  · intro i hi
    simp (disch := omega) only [wrr_n]; exact h4 i hi
  · intro u hu
    simp (disch := omega) only [wrr_n]; exact h7 u hu
end AG
section JOIN
variable {T : List Tm} {E : Nat → Nat → Prop} {pb k : Nat} {ro : Nat → Nat} {Q : List (Nat × Nat)} {C : List Nat} {z : fS}
def JI (T : List Tm) (E : Nat → Nat → Prop) (pb k : Nat) (ro : Nat → Nat) (C : List Nat) (Q : List (Nat × Nat)) (z : fS) : Prop :=
  (HT T z ∧ HPl T z ∧ PS pb k ro z ∧ PN T pb k ro z ∧ RwI T pb k ro z ∧ HH pb k z ∧ HA C Q z) ∧
  (∀ a b, a < k → b < k → ro a = ro b → One T k E a b) ∧
  (∀ q, q ∈ Q → q.1 < k ∧ q.2 < k ∧ One T k E q.1 q.2) ∧
  (∀ u, u ∈ C → u < k ∧ 0 < sz T u) ∧
  (∀ a b, E a b → Eqv ro Q a b) ∧
  (∀ r x, r < k → ro r = r → x < k → z (pb + 6) r = nI x → ∀ y, y < k → ro y = r → kd T y = nI 3 → Eqv ro Q (pt T x 0) (pt T y 0) ∧ Eqv ro Q (pt T x 1) (pt T y 1)) ∧
  (∀ u v, u < k → v < k → u ∉ C → v ∉ C → z (pb + 9) u ≠ -1 → z (pb + 9) v ≠ -1 → ByP T (Rq ro) u v → u = v) ∧
  (∀ t, t < k → 0 < sz T t → t ∉ C → z (pb + 9) t = -1 → ∃ u, u < k ∧ ByP T (Rq ro) t u ∧ Eqv ro Q t u ∧ (z (pb + 9) u ≠ -1 ∨ u ∈ C)) ∧
  (∀ u, u < k → u ∉ C → z (pb + 9) u ≠ -1 → z (pb + 9) u = sg T ro u)
/-- closed, when nothing is left to do -/
theorem JI.closed (hW : WT T) (hk : k ≤ T.length) (h : JI T E pb k ro [] [] z) : ∀ a b, a < k → b < k → (ro a = ro b ↔ One T k E a b) := by
  obtain ⟨⟨hT, hPl, hS, hN, hR, hH, hA⟩, s1, s2, s3, s4, s5, s6, s7, s8⟩ := h
  -- a term with parts has a placed one alike, in its class
  have rep : ∀ t, t < k → 0 < sz T t → ∃ u, u < k ∧ ByP T (Rq ro) t u ∧ ro t = ro u ∧ z (pb + 9) u ≠ -1 := by
    intro t ht h0
    by_cases e : z (pb + 9) t = -1
    · obtain ⟨u, u1, u2, u3, u4⟩ := s7 t ht h0 (by simp) e
      refine ⟨u, u1, u2, u3.nil, ?_⟩
      rcases u4 with u4 | u4
      · exact u4
      · simp at u4
    · exact ⟨t, ht, ⟨h0, rfl, rfl, rfl, Or.inl fun i _ => rfl⟩, rfl, e⟩
  intro a b ha hb
  constructor
  · exact s1 a b ha hb
  · intro h
    refine h (fun a b => ro a = ro b) ⟨fun _ => rfl, fun _ _ e => e.symm, fun _ _ _ e f => e.trans f, fun a b e => (s4 a b e).nil, fun a b ha hb hby => ?_, fun a b ha hb ka kb e => ?_⟩
    · obtain ⟨u, u1, u2, u3, u4⟩ := rep a ha hby.1
      obtain ⟨v, v1, v2, v3, v4⟩ := rep b hb (by rw [← hby.2.2.2.1]; exact hby.1)
      have huv : ByP T (Rq ro) u v := by
        have h1 : ByP T (Rq ro) u a := u2.sm fun _ _ e => e.symm
        exact (h1.tr hW (fun _ _ _ e f => e.trans f) (by omega) hby).tr hW (fun _ _ _ e f => e.trans f) (by omega) v2
      have := s6 u v u1 v1 (by simp) (by simp) u4 v4 huv
      rw [u3, v3, this]
    · have r1 := hS.2.2.1 a ha
      rcases hR (ro a) r1.2.1 r1.2.2 with ⟨q1, q2⟩ | ⟨x, q1, q2, q3, q4⟩
      · exact absurd ka (q2 a ha rfl)
      · have e1 := s5 (ro a) x r1.2.1 r1.2.2 q2 q1 a ha rfl ka
        have e2 := s5 (ro a) x r1.2.1 r1.2.2 q2 q1 b hb e.symm kb
        exact ⟨e1.1.nil.symm.trans e2.1.nil, e1.2.nil.symm.trans e2.2.nil⟩
end JOIN
