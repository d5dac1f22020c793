/-! a partition is copied -/
section CPY
variable {T : List Tm} {E : Nat → Nat → Prop} {pb ob k : Nat} {ro : Nat → Nat} {z z' : fS}
theorem JI.copy (hk : k ≤ 120) (h : JI T E ob k ro [] [] z) (e0 : ∀ j, j < 11 ∨ (23 ≤ j ∧ j ≤ 27) → z' j = z j) (e1 : ∀ i j, 1 ≤ i → i ≤ 9 → i ≠ 7 → j < k → z' (pb + i) j = z (ob + i) j) (e7 : ∀ j, j < 128 → z' (pb + 7) j = z (ob + 7) j) (e11 : z' pb 11 = z ob 11) (e12 : z' pb 12 = z ob 12) (e13 : z' pb 13 = z ob 13) : JI T E pb k ro [] [] z' := by
  obtain ⟨⟨hT, hPl, hS, hN0, hR, hH, hA⟩, s1, s2, s3, s4, s5, s6, s7, s8⟩ := h
  refine ⟨⟨hT.fr fun j hj => e0 j (by omega), hPl.fr fun j hj => e0 j (by omega), ⟨by rw [e11]; exact hS.1, hk, ?_, ?_, by rw [e12]; exact hS.2.2.2.2⟩, ⟨by rw [e13]; exact hN0.1, ?_⟩, ?_, ⟨?_, ?_⟩, hA.fr fun j h1 h2 => e0 j (by omega)⟩, s1, s2, s3, s4, ?_, ?_, ?_, ?_⟩
  · intro t ht
    rw [e1 1 t (by omega) (by omega) (by omega) ht]; exact hS.2.2.1 t ht
  · intro r hr hrr
    obtain ⟨l, c1, c2, c3, c4, mm, c5, c6⟩ := hS.2.2.2.1 r hr hrr
    refine ⟨l, Pth.head c1 (e1 2 r (by omega) (by omega) (by omega) hr) fun x hx => e1 2 x (by omega) (by omega) (by omega) ((c3 x).mp (List.mem_cons_of_mem _ hx)).1, c2, c3, ?_, mm, ?_, c6⟩
    · rw [e1 3 r (by omega) (by omega) (by omega) hr]; exact c4
    · rw [e1 4 r (by omega) (by omega) (by omega) hr]; exact c5
  · intro r hr hrr
    rw [e1 5 r (by omega) (by omega) (by omega) hr]; exact hN0.2 r hr hrr
  · intro r hr hrr
    rw [e1 6 r (by omega) (by omega) (by omega) hr]; exact hR r hr hrr
  · intro u hu
    rw [e1 9 u (by omega) (by omega) (by omega) hu]; exact hH.1 u hu
  · intro s hs
    obtain ⟨l, c1, c2, c3⟩ := hH.2 s hs
    refine ⟨l, ?_, c2, fun u => ?_⟩
    · rw [e7 s hs]
      exact c1.ext fun x hx => e1 8 x (by omega) (by omega) (by omega) ((c3 x).mp hx).1
    · rw [c3 u]
      constructor
      · rintro ⟨h1, h2⟩; exact ⟨h1, by rw [e1 9 u (by omega) (by omega) (by omega) h1]; exact h2⟩
      · rintro ⟨h1, h2⟩; exact ⟨h1, by rw [e1 9 u (by omega) (by omega) (by omega) h1] at h2; exact h2⟩
  · intro r x hr hrr hxk hx
    rw [e1 6 r (by omega) (by omega) (by omega) hr] at hx
    exact s5 r x hr hrr hxk hx
  · intro u v hu hv
    rw [e1 9 u (by omega) (by omega) (by omega) hu, e1 9 v (by omega) (by omega) (by omega) hv]
    exact s6 u v hu hv
  · intro t ht h0 hC hst
    rw [e1 9 t (by omega) (by omega) (by omega) ht] at hst
    obtain ⟨u, u1, u2, u3, u4⟩ := s7 t ht h0 hC hst
    exact ⟨u, u1, u2, u3, by rw [e1 9 u (by omega) (by omega) (by omega) u1]; exact u4⟩
  · intro u hu
    rw [e1 9 u (by omega) (by omega) (by omega) hu]
    exact s8 u hu
theorem cpb_t {n m : Nat} (h : n ≤ m) (hm : m < 2 ^ 31) : cpb (nI 0) (nI 0) (nI n) m m = true := by
  unfold cpb
  refine decide_eq_true ⟨nI_pos (by omega), nI_pos (by omega), nI_pos (by omega), ?_, ?_⟩ <;> rw [nI_clamp (by omega), nI_clamp (by omega)] <;> omega
theorem cpy_nI {n k0 k1 : Nat} (h : n < 2 ^ 31) : cpy z k0 (nI 0) k1 (nI 0) (nI n) = wrr z k1 (fun j => if j < n then z k0 j else z k1 j) := by
  unfold cpy
  congr 1
  funext j
  rw [nI_clamp (by omega), nI_clamp h]
  unfold va_cpy
  simp
theorem copyFrom_ok (hp : isPb pb) (ho : isPb ob) (hne : pb ≠ ob) (h : JI T E ob k ro [] [] z) : ∃ z', fX4_copyFrom pb z ob = some z' ∧ JI T E pb k ro [] [] z' ∧ (∀ j, ¬ (pb ≤ j ∧ j ≤ pb + 9) → z' j = z j) := by
  have hpn := hp.ne
  have hon := ho.ne
  have hd : pb + 10 ≤ ob ∨ ob + 10 ≤ pb := by
    rcases hp with rfl | rfl | rfl <;> rcases ho with rfl | rfl | rfl <;> omega
  have h' := h
  obtain ⟨⟨hT, hPl, hS, hN0, hR, hH, hA⟩, _⟩ := h'
  have hk := hS.2.1
  have e11 := hS.1
  have e13 := hN0.1
  obtain ⟨z', hz'⟩ : ∃ y, fX4_copyFrom pb z ob = some y ∧ (∀ j, ¬ (pb ≤ j ∧ j ≤ pb + 9) → y j = z j) ∧ (∀ i j, 1 ≤ i → i ≤ 9 → i ≠ 7 → j < k → y (pb + i) j = z (ob + i) j) ∧ (∀ j, j < 128 → y (pb + 7) j = z (ob + 7) j) ∧ y pb 11 = z ob 11 ∧ y pb 12 = z ob 12 ∧ y pb 13 = z ob 13 := by
    refine ⟨wrr (wrr (wrr (wrr (wrr (wrr (wrr (wrr (wrr (wrr z pb (upd (upd (upd (z pb) 11 (nI k)) 12 (z ob 12)) 13 (nI 0))) (pb + 1) (fun j => if j < k then z (ob + 1) j else z (pb + 1) j)) (pb + 2) (fun j => if j < k then z (ob + 2) j else z (pb + 2) j)) (pb + 3) (fun j => if j < k then z (ob + 3) j else z (pb + 3) j)) (pb + 4) (fun j => if j < k then z (ob + 4) j else z (pb + 4) j)) (pb + 5) (fun j => if j < k then z (ob + 5) j else z (pb + 5) j)) (pb + 6) (fun j => if j < k then z (ob + 6) j else z (pb + 6) j)) (pb + 7) (fun j => if j < 128 then z (ob + 7) j else z (pb + 7) j)) (pb + 8) (fun j => if j < k then z (ob + 8) j else z (pb + 8) j)) (pb + 9) (fun j => if j < k then z (ob + 9) j else z (pb + 9) j), ?_, ?_, ?_, ?_, ?_, ?_, ?_⟩
    · unfold fX4_copyFrom
      simp (disch := omega) only [wf_w, bnd_s, wrr_n, wrr_e, wrr_wrr, e11, e13, isb_0, gd_t, upd_n, upd_e, lit, cpb_t, cpy_nI]
    · intro j c
      simp (disch := omega) only [wrr_n]
    · intro i j h1 h2 h3 hj
      rcases (show i = 1 ∨ i = 2 ∨ i = 3 ∨ i = 4 ∨ i = 5 ∨ i = 6 ∨ i = 8 ∨ i = 9 by omega) with rfl | rfl | rfl | rfl | rfl | rfl | rfl | rfl
      all_goals simp (disch := omega) only [wrr_n, wrr_e, if_pos]
    · intro j hj
      simp (disch := omega) only [wrr_n, wrr_e, if_pos]
    · simp (disch := omega) only [wrr_n, wrr_e, upd_n, upd_e, e11]
    · simp (disch := omega) only [wrr_n, wrr_e, upd_n, upd_e]
    · simp (disch := omega) only [wrr_n, wrr_e, upd_n, upd_e, e13]
  obtain ⟨a1, a2, a3, a4, a5, a6, a7⟩ := hz'
  exact ⟨z', a1, h.copy hk (fun j hj => a2 j (by omega)) a3 a4 a5 a6 a7, a2⟩
end CPY
