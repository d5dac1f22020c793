/-! a new term; a copy -/
section ADM
variable {T : List Tm} {E E' : Nat → Nat → Prop} {pb k : Nat} {ro : Nat → Nat} {Q : List (Nat × Nat)} {C : List Nat} {z z' : fS}
theorem JI.fr (h : JI T E pb k ro C Q z) (e : ∀ j, j < 11 ∨ (23 ≤ j ∧ j ≤ 27) ∨ (pb ≤ j ∧ j ≤ pb + 9) → z' j = z j) : JI T E pb k ro C Q z' := by
  obtain ⟨⟨hT, hPl, hS, hN0, hR, hH, hA⟩, s1, s2, s3, s4, s5, s6, s7, s8⟩ := h
  refine ⟨⟨hT.fr fun j hj => e j (by omega), hPl.fr fun j hj => e j (by omega), hS.fr fun j h1 h2 => e j (by omega), hN0.fr fun j h1 h2 => e j (by omega), hR.fr (e _ (by omega)), hH.fr fun j h1 h2 => e j (by omega), hA.fr fun j h1 h2 => e j (by omega)⟩, s1, s2, s3, s4, ?_, ?_, ?_, ?_⟩
  all_goals (first | rw [e (pb + 6) (by omega)] | rw [e (pb + 9) (by omega)])
  all_goals assumption
theorem JI.toE (h : JI T E' pb k ro C Q z) (h1 : ∀ a b, One T k E' a b → One T k E a b) (h2 : ∀ a b, E a b → E' a b) : JI T E pb k ro C Q z := by
  obtain ⟨hh, s1, s2, s3, s4, s5⟩ := h
  exact ⟨hh, fun a b ha hb e => h1 _ _ (s1 a b ha hb e), fun q hq => ⟨(s2 q hq).1, (s2 q hq).2.1, h1 _ _ (s2 q hq).2.2⟩, s3, fun a b e => s4 a b (h2 a b e), s5⟩
/-- a term more makes no two old ones one -/
theorem One.ext (hW : WT T) (hk : k < T.length) (hE : ∀ a b, E a b → a < k ∧ b < k) : (∀ a b, a < k → b < k → One T (k + 1) E a b → One T k E a b) ∧ (sz T k = 0 → ∀ b, b < k + 1 → One T (k + 1) E k b → b = k) := by
  have hw := (hW.2 k hk).2.1
  -- where the new one belongs
  by_cases hu : ∃ u, u < k ∧ ByP T (One T k E) k u
  · obtain ⟨u, u1, u2⟩ := hu
    have hz : 0 < sz T k := u2.1
    have key : IsC T (k + 1) E (fun a b => One T k E (if a = k then u else a) (if b = k then u else b)) := by
      have parts : ∀ a, a < k + 1 → ∀ i, i < sz T a → pt T a i < k := fun a ha i hi => by
        have := (hW.2 a (by omega)).2.1 i hi
        omega
      refine ⟨fun _ => One.rf, fun _ _ h => h.sm, fun _ _ _ h g => h.tr g, fun a b e => ?_, fun a b ha hb h => ?_, fun a b ha hb ka kb h => ?_⟩
      · obtain ⟨h1, h2⟩ := hE a b e
        try dsimp only
        rw [if_neg (by omega), if_neg (by omega)]
        exact One.of e
      · have h' : ByP T (One T k E) a b := by
          obtain ⟨g0, g1, g2, g3, g4⟩ := h
          refine ⟨g0, g1, g2, g3, ?_⟩
          rcases g4 with g4 | ⟨g4, g5, g6⟩
          · refine Or.inl fun i hi => ?_
            have := g4 i hi
            try dsimp only at this
            rw [if_neg (show ¬ pt T a i = k by have := parts a ha i hi; omega), if_neg (show ¬ pt T b i = k by have := parts b hb i (by omega); omega)] at this
            exact this
          · have s2 : sz T a = 2 := (hW.2 a (by omega)).2.2.2.1 g4
            have q1 := parts a ha 0 (by omega)
            have q2 := parts a ha 1 (by omega)
            have q3 := parts b hb 0 (by omega)
            have q4 := parts b hb 1 (by omega)
            try dsimp only at g5 g6
            rw [if_neg (by omega), if_neg (by omega)] at g5 g6
            exact Or.inr ⟨g4, g5, g6⟩
        have tr := fun (a b c : Nat) (h : One T k E a b) (g : One T k E b c) => h.tr g
        by_cases e1 : a = k
        · by_cases e2 : b = k
          · rw [e1, e2]; exact One.rf
          · try dsimp only
            rw [if_pos e1, if_neg e2]
            rw [e1] at h'
            exact One.cong u1 (by omega) ((u2.sm fun _ _ h => h.sm).tr hW tr (by omega) h')
        · by_cases e2 : b = k
          · try dsimp only
            rw [if_neg e1, if_pos e2]
            rw [e2] at h'
            exact One.cong (by omega) u1 (h'.tr hW tr (by omega) u2)
          · try dsimp only
            rw [if_neg e1, if_neg e2]
            exact One.cong (by omega) (by omega) h'
      · have pu : ∀ c, c < k + 1 → kd T c = nI 3 → kd T (if c = k then u else c) = nI 3 ∧ (if c = k then u else c) < k ∧ One T k E (pt T c 0) (pt T (if c = k then u else c) 0) ∧ One T k E (pt T c 1) (pt T (if c = k then u else c) 1) := by
          intro c hc kc
          by_cases e1 : c = k
          · rw [if_pos e1, e1]
            rw [e1] at kc
            have s2 : sz T k = 2 := (hW.2 k hk).2.2.1 kc
            refine ⟨u2.2.1.symm.trans kc, u1, ?_⟩
            rcases u2.2.2.2.2 with g | ⟨g, _, _⟩
            · exact ⟨g 0 (by omega), g 1 (by omega)⟩
            · rw [kc] at g
              exact absurd ((nI_eq (by omega) (by omega)).mp g) (by omega)
          · rw [if_neg e1]
            exact ⟨kc, by omega, One.rf, One.rf⟩
        obtain ⟨a1, a2, a3, a4⟩ := pu a ha ka
        obtain ⟨b1, b2, b3, b4⟩ := pu b hb kb
        have hr := One.row a2 b2 a1 b1 h
        have q1 := parts a ha 0 (by rw [(hW.2 a (by omega)).2.2.1 ka]; omega)
        have q2 := parts a ha 1 (by rw [(hW.2 a (by omega)).2.2.1 ka]; omega)
        have q3 := parts b hb 0 (by rw [(hW.2 b (by omega)).2.2.1 kb]; omega)
        have q4 := parts b hb 1 (by rw [(hW.2 b (by omega)).2.2.1 kb]; omega)
        try dsimp only
        rw [if_neg (show ¬ pt T a 0 = k by omega), if_neg (show ¬ pt T b 0 = k by omega), if_neg (show ¬ pt T a 1 = k by omega), if_neg (show ¬ pt T b 1 = k by omega)]
        exact ⟨(a3.tr hr.1).tr b3.sm, (a4.tr hr.2).tr b4.sm⟩
    refine ⟨fun a b ha hb h => ?_, fun h0 => by omega⟩
    have := h _ key
    try dsimp only at this
    rw [if_neg (by omega), if_neg (by omega)] at this
    exact this
  · have key : IsC T (k + 1) E (fun a b => a = b ∨ (a ≠ k ∧ b ≠ k ∧ One T k E a b)) := by
      have parts : ∀ a, a < k + 1 → ∀ i, i < sz T a → pt T a i < k := fun a ha i hi => by
        have := (hW.2 a (by omega)).2.1 i hi
        omega
      have toOne : ∀ a b, a = b ∨ (a ≠ k ∧ b ≠ k ∧ One T k E a b) → One T k E a b := fun a b h => by
        rcases h with rfl | ⟨_, _, h⟩
        · exact One.rf
        · exact h
      refine ⟨fun _ => Or.inl rfl, fun a b h => ?_, fun a b c h g => ?_, fun a b e => ?_, fun a b ha hb h => ?_, fun a b ha hb ka kb h => ?_⟩
      · rcases h with rfl | ⟨h1, h2, h3⟩
        · exact Or.inl rfl
        · exact Or.inr ⟨h2, h1, h3.sm⟩
      · rcases h with rfl | ⟨h1, h2, h3⟩
        · exact g
        · rcases g with rfl | ⟨g1, g2, g3⟩
          · exact Or.inr ⟨h1, h2, h3⟩
          · exact Or.inr ⟨h1, g2, h3.tr g3⟩
      · obtain ⟨h1, h2⟩ := hE a b e
        exact Or.inr ⟨by omega, by omega, One.of e⟩
      · have h' : ByP T (One T k E) a b := h.mono toOne
        by_cases e1 : a = k
        · by_cases e2 : b = k
          · exact Or.inl (e1.trans e2.symm)
          · rw [e1] at h'
            exact absurd ⟨b, by omega, h'⟩ hu
        · by_cases e2 : b = k
          · rw [e2] at h'
            exact absurd ⟨a, by omega, h'.sm fun _ _ h => h.sm⟩ hu
          · exact Or.inr ⟨e1, e2, One.cong (by omega) (by omega) h'⟩
      · rcases h with rfl | ⟨h1, h2, h3⟩
        · exact ⟨Or.inl rfl, Or.inl rfl⟩
        · have hr := One.row (by omega) (by omega) ka kb h3
          have q1 := parts a ha 0 (by rw [(hW.2 a (by omega)).2.2.1 ka]; omega)
          have q2 := parts a ha 1 (by rw [(hW.2 a (by omega)).2.2.1 ka]; omega)
          have q3 := parts b hb 0 (by rw [(hW.2 b (by omega)).2.2.1 kb]; omega)
          have q4 := parts b hb 1 (by rw [(hW.2 b (by omega)).2.2.1 kb]; omega)
          exact ⟨Or.inr ⟨by omega, by omega, hr.1⟩, Or.inr ⟨by omega, by omega, hr.2⟩⟩
    refine ⟨fun a b ha hb h => ?_, fun h0 b hb h => ?_⟩
    · rcases h _ key with rfl | ⟨_, _, h⟩
      · exact One.rf
      · exact h
    · rcases h _ key with h | ⟨h, _, _⟩
      · exact h.symm
      · exact absurd rfl h
def rx (ro : Nat → Nat) (k : Nat) : Nat → Nat := fun t => if t = k then k else ro t
theorem rx_k : rx ro k k = k := by simp [rx]
theorem rx_n {t : Nat} (h : t ≠ k) : rx ro k t = ro t := by simp [rx, h]
/-- the state when a new term has been written down, and nothing has been looked for yet -/
theorem admit_pre (hp : isPb pb) (hk : k < T.length) (hW : WT T) (hE : ∀ a b, E a b → a < k ∧ b < k) (h : JI T E pb k ro [] [] z) {C : List Nat} (hC : C = if 0 < sz T k then [k] else []) (hA : HA C [] z') (he : ∀ j, ¬ (23 ≤ j ∧ j ≤ 27) → ¬ (pb ≤ j ∧ j ≤ pb + 9) → z' j = z j) (h1 : z' (pb + 1) = upd (z (pb + 1)) k (nI k)) (h2 : z' (pb + 2) = upd (z (pb + 2)) k (nI k)) (h3 : z' (pb + 3) = upd (z (pb + 3)) k (nI 1)) (h4 : z' (pb + 4) = upd (z (pb + 4)) k (nI k)) (h5 : z' (pb + 5) = upd (z (pb + 5)) k (if kd T k = nI 1 then nI k else -1)) (h6 : z' (pb + 6) = upd (z (pb + 6)) k (if kd T k = nI 3 then nI k else -1)) (h7 : z' (pb + 7) = z (pb + 7)) (h8 : z' (pb + 8) = upd (z (pb + 8)) k (-1)) (h9 : z' (pb + 9) = upd (z (pb + 9)) k (-1)) (h10 : z' pb 11 = nI (k + 1)) (h11 : z' pb 12 = z pb 12 + nI 1) (h12 : z' pb 13 = z pb 13) : JI T E pb (k + 1) (rx ro k) C [] z' := by
  have hpn := hp.ne
  have hT1 := hW.1
  obtain ⟨⟨hT, hPl, hS, hN0, hR, hH, _⟩, s1, s2, s3, s4, s5, s6, s7, s8⟩ := h
  obtain ⟨q1, q2, q3, q4, q5⟩ := hS
  have hcl := cnt_le (fun r => decide (ro r = r)) k
  have hlt : ∀ t, t < k → ro t ≠ k := fun t ht => by have := (q3 t ht).2.1; omega
  have parts : ∀ a, a < k + 1 → ∀ i, i < sz T a → rx ro k (pt T a i) = ro (pt T a i) := fun a ha i hi => by
    have := (hW.2 a (by omega)).2.1 i hi
    exact rx_n (by omega)
  have toEq : ∀ x y, x < k → y < k → ro x = ro y → Eqv (rx ro k) [] x y := fun x y hx hy e => by
    refine Eqv.fb ?_
    rw [rx_n (by omega), rx_n (by omega)]; exact e
  have memC : ∀ u, u ∈ C ↔ u = k ∧ 0 < sz T k := by
    intro u
    rw [hC]
    by_cases q : 0 < sz T k
    · simp [q]
    · simp [q]
  refine ⟨⟨hT.fr fun j hj => he j (by omega) (by omega), hPl.fr fun j hj => he j (by omega) (by omega), ⟨h10, by omega, ?_, ?_, ?_⟩, ⟨by rw [h12]; exact hN0.1, ?_⟩, ?_, ⟨?_, ?_⟩, hA⟩, ?_, fun q hq => by simp at hq, fun u hu => ?_, fun a b e => ?_, ?_, ?_, ?_, ?_⟩
  · intro t ht
    rw [h1]
    by_cases e : t = k
    · subst e; rw [upd_e, rx_k, rx_k]; exact ⟨rfl, by omega, rfl⟩
    · have := q3 t (by omega)
      rw [upd_n e, rx_n e, rx_n (hlt t (by omega))]
      exact ⟨this.1, by omega, this.2.2⟩
  · intro r hr hrr
    rw [h2, h3, h4]
    by_cases e : r = k
    · subst e
      refine ⟨[], upd_e, by simp, fun t => ?_, upd_e, r, upd_e, by omega, rx_k, fun t ht htr => ?_⟩
      · constructor
        · intro h
          have : t = r := by simpa using h
          subst this; exact ⟨by omega, rx_k⟩
        · rintro ⟨c1, c2⟩
          by_cases e2 : t = r
          · simp [e2]
          · rw [rx_n e2] at c2
            exact absurd c2 (hlt t (by omega))
      · by_cases e2 : t = r
        · omega
        · rw [rx_n e2] at htr
          exact absurd htr (hlt t (by omega))
    · rw [rx_n e] at hrr
      obtain ⟨l, c1, c2, c3, c4, mm, c5, c6, c7, c8⟩ := q4 r (by omega) hrr
      have hnk : k ∉ r :: l := fun h => by have := ((c3 k).mp h).1; omega
      refine ⟨l, Pth.head c1 (upd_n e) fun x hx => upd_n (fun e2 => hnk (e2 ▸ List.mem_cons_of_mem _ hx)), c2, fun t => ?_, by rw [upd_n e]; exact c4, mm, by rw [upd_n e]; exact c5, by omega, by rw [rx_n (by omega)]; exact c7, fun t ht htr => ?_⟩
      · rw [c3 t]
        by_cases e2 : t = k
        · subst e2
          rw [rx_k]
          constructor
          · rintro ⟨c, _⟩; omega
          · rintro ⟨_, c⟩; exact absurd c.symm e
        · rw [rx_n e2]
          constructor
          · rintro ⟨c, d⟩; exact ⟨by omega, d⟩
          · rintro ⟨c, d⟩; exact ⟨by omega, d⟩
      · by_cases e2 : t = k
        · rw [e2, rx_k] at htr; exact absurd htr.symm e
        · rw [rx_n e2] at htr; exact c8 t (by omega) htr
  · rw [h11, q5, nI_add, cnt_s]
    congr 1
    rw [cnt_cong (p := fun r => decide (rx ro k r = r)) (q := fun r => decide (ro r = r)) (n := k) (fun i hi => by rw [rx_n (by omega)])]
    simp [rx_k]
  · intro r hr hrr
    rw [h5]
    by_cases e : r = k
    · subst e
      rw [upd_e]
      by_cases q : kd T r = nI 1
      · rw [if_pos q]
        refine Or.inr ⟨r, rfl, by omega, rx_k, q, fun t ht htr _ => ?_⟩
        by_cases e2 : t = r
        · exact e2
        · rw [rx_n e2] at htr; exact absurd htr (hlt t (by omega))
      · rw [if_neg q]
        refine Or.inl ⟨rfl, fun t ht htr => ?_⟩
        by_cases e2 : t = r
        · rw [e2]; exact q
        · rw [rx_n e2] at htr; exact absurd htr (hlt t (by omega))
    · rw [rx_n e] at hrr
      rw [upd_n e]
      rcases hN0.2 r (by omega) hrr with ⟨c1, c2⟩ | ⟨u, c1, c2, c3, c4, c5⟩
      · refine Or.inl ⟨c1, fun t ht htr => ?_⟩
        by_cases e2 : t = k
        · rw [e2, rx_k] at htr; exact absurd htr.symm e
        · rw [rx_n e2] at htr; exact c2 t (by omega) htr
      · refine Or.inr ⟨u, c1, by omega, by rw [rx_n (by omega)]; exact c3, c4, fun t ht htr hkt => ?_⟩
        by_cases e2 : t = k
        · rw [e2, rx_k] at htr; exact absurd htr.symm e
        · rw [rx_n e2] at htr; exact c5 t (by omega) htr hkt
  · intro r hr hrr
    rw [h6]
    by_cases e : r = k
    · subst e
      rw [upd_e]
      by_cases q : kd T r = nI 3
      · rw [if_pos q]
        exact Or.inr ⟨r, rfl, by omega, rx_k, q⟩
      · rw [if_neg q]
        refine Or.inl ⟨rfl, fun t ht htr => ?_⟩
        by_cases e2 : t = r
        · rw [e2]; exact q
        · rw [rx_n e2] at htr; exact absurd htr (hlt t (by omega))
    · rw [rx_n e] at hrr
      rw [upd_n e]
      rcases hR r (by omega) hrr with ⟨c1, c2⟩ | ⟨u, c1, c2, c3, c4⟩
      · refine Or.inl ⟨c1, fun t ht htr => ?_⟩
        by_cases e2 : t = k
        · rw [e2, rx_k] at htr; exact absurd htr.symm e
        · rw [rx_n e2] at htr; exact c2 t (by omega) htr
      · exact Or.inr ⟨u, c1, by omega, by rw [rx_n (by omega)]; exact c3, c4⟩
  · intro u hu
    rw [h9]
    by_cases e : u = k
    · rw [e, upd_e]; exact Or.inl rfl
    · rw [upd_n e]; exact hH.1 u (by omega)
  · intro s hs
    obtain ⟨l, c1, c2, c3⟩ := hH.2 s hs
    rw [h7, h8, h9]
    have hnk : k ∉ l := fun h => by have := ((c3 k).mp h).1; omega
    refine ⟨l, c1.ext fun x hx => upd_n (fun e => hnk (e ▸ hx)), c2, fun u => ?_⟩
    rw [c3 u]
    by_cases e : u = k
    · subst e
      rw [upd_e]
      constructor
      · rintro ⟨c, _⟩; omega
      · rintro ⟨_, c⟩; exact absurd c.symm (nI_m1 (by omega))
    · rw [upd_n e]
      constructor
      · rintro ⟨c, d⟩; exact ⟨by omega, d⟩
      · rintro ⟨c, d⟩; exact ⟨by omega, d⟩
  · intro a b ha hb e
    by_cases e1 : a = k
    · by_cases e2 : b = k
      · rw [e1, e2]; exact One.rf
      · rw [e1, rx_k, rx_n e2] at e; exact absurd e.symm (hlt b (by omega))
    · by_cases e2 : b = k
      · rw [rx_n e1, e2, rx_k] at e; exact absurd e (hlt a (by omega))
      · rw [rx_n e1, rx_n e2] at e
        exact (s1 a b (by omega) (by omega) e).grow (by omega)
  · have := (memC u).mp hu
    rw [this.1]; exact ⟨by omega, this.2⟩
  · obtain ⟨c1, c2⟩ := hE a b e
    exact toEq a b c1 c2 (s4 a b e).nil
  · intro r x hr hrr hxk hx y hy hyr hky
    rw [h6] at hx
    by_cases e : r = k
    · subst e
      rw [upd_e] at hx
      by_cases e2 : y = r
      · subst e2
        rw [if_pos hky] at hx
        have : x = y := ((nI_eq (by omega) (by omega)).mp hx).symm
        subst this
        exact ⟨Eqv.rf, Eqv.rf⟩
      · rw [rx_n e2] at hyr; exact absurd hyr (hlt y (by omega))
    · rw [upd_n e] at hx
      rw [rx_n e] at hrr
      have hyk : y ≠ k := fun e2 => by rw [e2, rx_k] at hyr; exact e hyr.symm
      rw [rx_n hyk] at hyr
      have hxk' : x < k := by
        rcases hR r (by omega) hrr with ⟨c1, c2⟩ | ⟨u, c1, c2, c3, c4⟩
        · exact absurd hky (c2 y (by omega) hyr)
        · rw [c1] at hx
          have := (nI_eq (by omega) (by omega)).mp hx
          omega
      have hkx : kd T x = nI 3 := by
        rcases hR r (by omega) hrr with ⟨c1, c2⟩ | ⟨u, c1, c2, c3, c4⟩
        · exact absurd hky (c2 y (by omega) hyr)
        · rw [c1] at hx
          have := (nI_eq (by omega) (by omega)).mp hx
          rw [← this]; exact c4
      have hr2 := s5 r x (by omega) hrr hxk' hx y (by omega) hyr hky
      have sx := (hW.2 x (by omega)).2.2.1 hkx
      have sy := (hW.2 y (by omega)).2.2.1 hky
      have w1 := (hW.2 x (by omega)).2.1 0 (by omega)
      have w2 := (hW.2 x (by omega)).2.1 1 (by omega)
      have w3 := (hW.2 y (by omega)).2.1 0 (by omega)
      have w4 := (hW.2 y (by omega)).2.1 1 (by omega)
      exact ⟨toEq _ _ (by omega) (by omega) hr2.1.nil, toEq _ _ (by omega) (by omega) hr2.2.nil⟩
  · intro u v hu hv hCu hCv hsu hsv hby
    rw [h9] at hsu hsv
    have huk : u ≠ k := fun e => hsu (by rw [e, upd_e])
    have hvk : v ≠ k := fun e => hsv (by rw [e, upd_e])
    rw [upd_n huk] at hsu
    rw [upd_n hvk] at hsv
    exact s6 u v (by omega) (by omega) (by simp) (by simp) hsu hsv (byP_back hW (by omega) (parts u hu) (parts v hv) hby)
  · intro t ht h0 hCt hst
    have htk : t ≠ k := fun e => hCt ((memC t).mpr ⟨e, by rw [← e]; exact h0⟩)
    rw [h9, upd_n htk] at hst
    obtain ⟨u, u1, u2, u3, u4⟩ := s7 t (by omega) h0 (by simp) hst
    refine ⟨u, by omega, byP_back (ro := rx ro k) hW (by omega) (fun i hi => (parts t ht i hi).symm) (fun i hi => (parts u (by omega) i hi).symm) u2, toEq t u (by omega) u1 u3.nil, ?_⟩
    rcases u4 with u4 | u4
    · rw [h9, upd_n (by omega)]; exact Or.inl u4
    · simp at u4
  · intro u hu hCu hsu
    rw [h9] at hsu ⊢
    have huk : u ≠ k := fun e => hsu (by rw [e, upd_e])
    rw [upd_n huk] at hsu ⊢
    rw [s8 u (by omega) (by simp) hsu]
    have hr : ∀ i, rp T (rx ro k) u i = rp T ro u i := fun i => by
      unfold rp
      by_cases hi : i < sz T u
      · rw [if_pos hi, if_pos hi, parts u hu i hi]
      · rw [if_neg hi, if_neg hi]
    unfold sg
    rw [hr 0, hr 1, hr 2]
theorem admit_ok (hp : isPb pb) (hk : k < T.length) (hW : WT T) (hE : ∀ a b, E a b → a < k ∧ b < k) (h : JI T E pb k ro [] [] z) : ∃ z' ro', fX4_admit pb z (nI k) = some z' ∧ JI T E pb (k + 1) ro' [] [] z' ∧ (∀ j, ¬ (23 ≤ j ∧ j ≤ 27) → ¬ (pb ≤ j ∧ j ≤ pb + 9) → z' j = z j) := by
  have hpn := hp.ne
  have hT1 := hW.1
  have h' := h
  obtain ⟨⟨hT, hPl, hS, hN0, hR, hH, hA⟩, _⟩ := h'
  have hcl := cnt_le (fun r => decide (ro r = r)) k
  obtain ⟨t2, t3, t4, t5⟩ := hT.2 k hk
  have hsz := (hW.2 k hk).1
  obtain ⟨z1, hz1⟩ : ∃ y : fS, y = wrr (wrr (wrr (wrr (wrr (wrr (wrr (wrr (wrr z (pb + 1) (upd (z (pb + 1)) k (nI k))) (pb + 2) (upd (z (pb + 2)) k (nI k))) (pb + 3) (upd (z (pb + 3)) k (nI 1))) (pb + 4) (upd (z (pb + 4)) k (nI k))) (pb + 5) (upd (z (pb + 5)) k (if kd T k = nI 1 then nI k else -1))) (pb + 6) (upd (z (pb + 6)) k (if kd T k = nI 3 then nI k else -1))) (pb + 8) (upd (z (pb + 8)) k (-1))) (pb + 9) (upd (z (pb + 9)) k (-1))) pb (upd (upd (z pb) 11 (nI (k + 1))) 12 (z pb 12 + nI 1)) := ⟨_, rfl⟩
  have f1 : ∀ j, ¬ (pb ≤ j ∧ j ≤ pb + 9) → z1 j = z j := fun j c => by
    rw [hz1]; simp (disch := omega) only [wrr_n]
  have hA1 : HA [] [] z1 := hA.fr fun j c1 c2 => f1 j (by omega)
  -- with the term put on the agenda, if it has parts
  obtain ⟨z2, C, g1, g2, g3, g4⟩ : ∃ (z2 : fS) (C : List Nat), (C = if 0 < sz T k then [k] else []) ∧ HA C [] z2 ∧ (∀ j, ¬ (23 ≤ j ∧ j ≤ 27) → z2 j = z1 j) ∧ (if nI (sz T k) ≤ 0 then fX4_join pb z1 (nI k) (nI k) else bp (fX0_putChanged z1 (nI k)) fun z121 => fX4_join pb z121 (nI k) (nI k)) = fX4_join pb z2 (nI k) (nI k) := by
    by_cases q : 0 < sz T k
    · obtain ⟨z2, e1, e2, e3⟩ := putChanged_ok (u := k) hA1 (by omega)
      refine ⟨z2, [k], by rw [if_pos q], ?_, fun j c => e3 j (by omega) (by omega) (by omega), ?_⟩
      · simpa [addC] using e2
      · simp (disch := omega) only [lit, nI_leI, if_neg, e1, bp_s]
    · refine ⟨z1, [], by rw [if_neg q], hA1, fun _ _ => rfl, ?_⟩
      simp (disch := omega) only [lit, nI_leI, if_pos]
  have pre : JI T E pb (k + 1) (rx ro k) C [] z2 := by
    refine admit_pre hp hk hW hE h g1 g2 (fun j c1 c2 => (g3 j c1).trans (f1 j c2)) ?_ ?_ ?_ ?_ ?_ ?_ ?_ ?_ ?_ ?_ ?_ ?_
    all_goals rw [g3 _ (by omega), hz1]
    all_goals simp (disch := omega) only [wrr_n, wrr_e, upd_n, upd_e]
  obtain ⟨z3, e1, e2, e3⟩ := join_ok hp (show k + 1 ≤ T.length by omega) hW pre (a := k) (b := k) (by omega) (by omega)
  have kk1 : ∀ y : fS, (∀ j, j < 11 → y j = z j) → fX7_kindOf y (nI k) = some (kd T k) := fun y hy => by
    unfold fX7_kindOf
    simp (disch := omega) only [inb_t, gd_t, rd_nI, hy 2 (by omega), t2]
  have ss1 : ∀ y : fS, (∀ j, j < 11 → y j = z j) → fX7_sizeOf y (nI k) = some (nI (sz T k)) := fun y hy => by
    unfold fX7_sizeOf
    simp (disch := omega) only [inb_t, gd_t, rd_nI, hy 4 (by omega), t4]
  have hcalc : fX4_admit pb z (nI k) = some z3 := by
    unfold fX4_admit
    simp (disch := omega) only [inb_t, gd_t, wr_nI, bnd_s, wrr_n, lit]
    rw [kk1 _ (fun j hj => by simp (disch := omega) only [wrr_n]), bp_s]
    have fin : ∀ v w : Int32, v = (if kd T k = nI 1 then nI k else -1) → w = (if kd T k = nI 3 then nI k else -1) → jX4_admit_73 pb (nI k) w (nI k) (wrr (wrr (wrr (wrr (wrr z (pb + 1) (upd (z (pb + 1)) k (nI k))) (pb + 2) (upd (z (pb + 2)) k (nI k))) (pb + 3) (upd (z (pb + 3)) k (nI 1))) (pb + 4) (upd (z (pb + 4)) k (nI k))) (pb + 5) (upd (z (pb + 5)) k v)) = some z3 := by
      intro v w hv hw
      subst hv; subst hw
      unfold jX4_admit_73
      simp (disch := omega) only [inb_t, gd_t, wr_nI, wf_w, bnd_s, wrr_n, wrr_e, wrr_wrr, upd_n]
      rw [ss1 _ (fun j hj => by simp (disch := omega) only [wrr_n]), bp_s]
      simp only [lit, nI_add]
      have hz2 := hz1
      simp only [lit] at hz2
      rw [← hz2]
      rw [e1] at g4
      by_cases q : nI (sz T k) ≤ nI 0
      · rw [if_pos q]
        rw [if_pos (show nI (sz T k) ≤ 0 from q)] at g4
        rw [g4, bp_s]
      · rw [if_neg q]
        rw [if_neg (show ¬ nI (sz T k) ≤ 0 from q)] at g4
        obtain ⟨z4, y1, y2⟩ := bp_at g4
        rw [y1, bp_s, y2, bp_s]
    have mid : ∀ v : Int32, v = (if kd T k = nI 1 then nI k else -1) → jX4_admit_50 pb (nI k) v (nI k) (wrr (wrr (wrr (wrr z (pb + 1) (upd (z (pb + 1)) k (nI k))) (pb + 2) (upd (z (pb + 2)) k (nI k))) (pb + 3) (upd (z (pb + 3)) k (nI 1))) (pb + 4) (upd (z (pb + 4)) k (nI k))) = some z3 := by
      intro v hv
      unfold jX4_admit_50
      simp (disch := omega) only [inb_t, gd_t, wr_nI, bnd_s, wrr_n]
      rw [kk1 _ (fun j hj => by simp (disch := omega) only [wrr_n]), bp_s]
      simp only [lit]
      by_cases q : kd T k = nI 3
      · rw [if_pos q]; exact fin v (nI k) hv (by rw [if_pos q])
      · rw [if_neg q]; exact fin v (-1) hv (by rw [if_neg q])
    by_cases q : kd T k = nI 1
    · rw [if_pos q]; exact mid (nI k) (by rw [if_pos q])
    · rw [if_neg q]; exact mid (-1) (by rw [if_neg q])
  have hone : ∀ a b, One T (k + 1) (fun x y => E x y ∨ (x = k ∧ y = k)) a b → One T (k + 1) E a b := fun a b h => h.le fun x y e => by
    rcases e with e | ⟨rfl, rfl⟩
    · exact One.of e
    · exact One.rf
  have hfr : ∀ j, ¬ (23 ≤ j ∧ j ≤ 27) → ¬ (pb ≤ j ∧ j ≤ pb + 9) → z3 j = z j := fun j c1 c2 => (e3 j c1 c2).trans ((g3 j c1).trans (f1 j c2))
  rcases e2.2 with ⟨ro', hJ⟩ | ⟨_, u, v, u1, v1, u2, u3, u4, u5⟩
  · exact ⟨z3, ro', hcalc, hJ.toE hone (fun a b e => Or.inl e), hfr⟩
  · exfalso
    have o1 := hone u v u5
    obtain ⟨x1, x2⟩ := One.ext hW hk hE
    by_cases c1 : u = k
    · rw [c1] at o1 u3
      exact u2 (c1.trans (x2 ((hW.2 k hk).2.2.2.2.1 u3) v v1 o1).symm)
    · by_cases c2 : v = k
      · rw [c2] at o1 u4
        exact u2 ((x2 ((hW.2 k hk).2.2.2.2.1 u4) u u1 o1.sm).trans c2.symm)
      · have o2 := x1 u v (by omega) (by omega) o1
        have hro := (h.closed hW (by omega) u v (by omega) (by omega)).mpr o2
        have r1 := hS.2.2.1 u (by omega)
        rcases hN0.2 (ro u) r1.2.1 r1.2.2 with ⟨_, n2⟩ | ⟨w, _, _, _, _, n5⟩
        · exact n2 u (by omega) rfl u3
        · exact u2 ((n5 u (by omega) rfl u3).trans (n5 v (by omega) hro.symm u4).symm)
end ADM
