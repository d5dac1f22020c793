/-! one turn of join, and all of them -/
section TURN
variable {T : List Tm} {E : Nat → Nat → Prop} {pb k : Nat} {ro : Nat → Nat} {Q : List (Nat × Nat)} {C : List Nat} {z : fS}
theorem Eqv.step {ro' : Nat → Nat} {Q0 Q' : List (Nat × Nat)} {a b x y : Nat} (h1 : ∀ x y, ro x = ro y → ro' x = ro' y) (h2 : ro' a = ro' b) (h3 : ∀ q, q ∈ Q0 → q ∈ Q') (h : Eqv ro (Q0 ++ [(a, b)]) x y) : Eqv ro' Q' x y := by
  refine h.le (fun a b e => Eqv.fb (h1 a b e)) (fun q hq => ?_)
  rcases List.mem_append.mp hq with hq | hq
  · exact Eqv.pr (h3 q hq)
  · have : q = (a, b) := by simpa using hq
    subst this
    exact Eqv.fb h2
theorem mg_eq {a b x y : Nat} (h : ro x = ro y) : mg ro a b x = mg ro a b y := by unfold mg; rw [h]
theorem byP_back (hW : WT T) {ro' : Nat → Nat} {u v : Nat} (hu : u < T.length) (h1 : ∀ i, i < sz T u → ro' (pt T u i) = ro (pt T u i)) (h2 : ∀ i, i < sz T v → ro' (pt T v i) = ro (pt T v i)) (h : ByP T (Rq ro') u v) : ByP T (Rq ro) u v := by
  obtain ⟨g0, g1, g2, g3, g4⟩ := h
  refine ⟨g0, g1, g2, g3, ?_⟩
  rcases g4 with g4 | ⟨g4, g5, g6⟩
  · refine Or.inl fun i hi => ?_
    have := g4 i hi
    rw [Rq, h1 i hi, h2 i (by omega)] at this
    exact this
  · have s2 : sz T u = 2 := (hW.2 u hu).2.2.2.1 g4
    rw [Rq, h1 0 (by omega), h2 1 (by omega)] at g5
    rw [Rq, h1 1 (by omega), h2 0 (by omega)] at g6
    exact Or.inr ⟨g4, g5, g6⟩
/-- a union: the classes of keep and lose become one -/
theorem JI.union {Q0 : List (Nat × Nat)} {a b keep lose : Nat} (hp : isPb pb) (hk : k ≤ T.length) (hW : WT T) (h : JI T E pb k ro C (Q0 ++ [(a, b)]) z) (hq : Q0.length < 240) {z0 : fS} (hz : ∀ j, j ≠ 23 → z0 j = z j) (hA0 : HA C Q0 z0) (hkl : (keep = ro a ∧ lose = ro b) ∨ (keep = ro b ∧ lose = ro a)) (hne : keep ≠ lose) :
    ∃ z1 z2 C' Q', fX4_unite pb z0 (nI keep) (nI lose) = some z1 ∧ fX4_uniteRows pb z1 (nI keep) (nI lose) = some z2 ∧ Q'.length ≤ Q0.length + 2 ∧ HA C' Q' z2 ∧ (∀ j, ¬ (23 ≤ j ∧ j ≤ 27) → ¬ (pb ≤ j ∧ j ≤ pb + 9) → z2 j = z0 j) ∧ cnt (fun r => decide (mg ro keep lose r = r)) k + 1 = cnt (fun r => decide (ro r = r)) k ∧ (JI T E pb k (mg ro keep lose) C' Q' z2 ∨ (z2 pb 13 = nI 1 ∧ ∃ u v, u < k ∧ v < k ∧ u ≠ v ∧ kd T u = nI 1 ∧ kd T v = nI 1 ∧ One T k E u v)) := by
  have hpn := hp.ne
  have hT1 := hW.1
  obtain ⟨⟨hT, hPl, hS, hN, hR, hH, hA⟩, s1, s2, s3, s4, s5, s6, s7, s8⟩ := h
  obtain ⟨p1, p2, p3⟩ := s2 (a, b) (by simp)
  have ra := hS.2.2.1 a p1
  have rb := hS.2.2.1 b p2
  have hkl' : keep < k ∧ lose < k ∧ ro keep = keep ∧ ro lose = lose ∧ One T k E keep lose ∧ mg ro keep lose a = mg ro keep lose b := by
    have oa : One T k E a (ro a) := s1 a (ro a) p1 ra.2.1 ra.2.2.symm
    have ob : One T k E b (ro b) := s1 b (ro b) p2 rb.2.1 rb.2.2.symm
    have oab : One T k E (ro a) (ro b) := (oa.sm.tr p3).tr ob
    rcases hkl with ⟨rfl, rfl⟩ | ⟨rfl, rfl⟩
    · refine ⟨ra.2.1, rb.2.1, ra.2.2, rb.2.2, oab, ?_⟩
      unfold mg; rw [if_neg hne, if_pos rfl]
    · refine ⟨rb.2.1, ra.2.1, rb.2.2, ra.2.2, oab.sm, ?_⟩
      unfold mg; rw [if_pos rfl, if_neg hne]
  obtain ⟨k1, k2, k3, k4, k5, k6⟩ := hkl'
  have hT0 : HT T z0 := hT.fr fun j hj => hz j (by omega)
  have hPl0 : HPl T z0 := hPl.fr fun j hj => hz j (by omega)
  have hS0 : PS pb k ro z0 := hS.fr fun j h1 h2 => hz j (by omega)
  have hN0 : PN T pb k ro z0 := hN.fr fun j h1 h2 => hz j (by omega)
  obtain ⟨z1, C', e1, e2, e3, e4, e5, e6⟩ := unite_ok hp hk hW hS0 hN0 hPl0 hA0 k1 k2 k3 k4 hne
  have hT1' : HT T z1 := hT0.fr fun j hj => e6 j (by omega) (by omega) (by omega) (by omega)
  have f6 : z1 (pb + 6) = z (pb + 6) := (e6 _ (by omega) (by omega) (by omega) (by omega)).trans (hz _ (by omega))
  have hR1 : RwI T pb k ro z1 := hR.fr f6
  obtain ⟨z2, Q', g1, g2, g3, g4, g5⟩ := uniteRows_ok hp hk hW hT1' hR1 e4 hq k1 k2 k3 k4 hne
  have hcnt : cnt (fun r => decide (mg ro keep lose r = r)) k + 1 = cnt (fun r => decide (ro r = r)) k := by
    refine cnt_less (j := lose) (by simp [k4]) ?_ ?_ k2
    · simp only [decide_eq_false_iff_not, mg_root k3 hne]
      rintro (⟨_, q⟩ | ⟨_, _, f⟩)
      · exact q rfl
      · exact f
    · intro i hi
      have : (mg ro keep lose i = i) ↔ (ro i = i) := by
        rw [mg_root k3 hne]
        constructor
        · rintro (⟨q, _⟩ | ⟨_, _, f⟩)
          · exact q
          · exact f.elim
        · intro q; exact Or.inl ⟨q, hi⟩
      simp [this]
  have hfr : ∀ j, ¬ (23 ≤ j ∧ j ≤ 27) → ¬ (pb ≤ j ∧ j ≤ pb + 9) → z2 j = z0 j := fun j c1 c2 => (g5 j (by omega) (by omega) (by omega) (by omega)).trans (e6 j (by omega) (by omega) (by omega) (by omega))
  have hlen : Q'.length ≤ Q0.length + 2 := by
    rcases g4 with ⟨rfl, _⟩ | ⟨x, y, _, _, _, _, _, _, _, _, rfl, _⟩
    · omega
    · simp
  have hsound : ∀ a b, a < k → b < k → mg ro keep lose a = mg ro keep lose b → One T k E a b := by
    have o1 : ∀ t, t < k → One T k E t (mg ro keep lose t) := by
      intro t ht
      have rt := hS.2.2.1 t ht
      have ot : One T k E t (ro t) := s1 t (ro t) ht rt.2.1 rt.2.2.symm
      unfold mg
      by_cases q : ro t = lose
      · rw [if_pos q]
        rw [q] at ot
        exact ot.tr k5.sm
      · rw [if_neg q]; exact ot
    intro a b ha hb e
    have := (o1 b hb).sm
    rw [← e] at this
    exact (o1 a ha).tr this
  have same : ∀ u, u < k → u ∉ C' → ∀ i, i < sz T u → mg ro keep lose (pt T u i) = ro (pt T u i) := by
    intro u hu hCu i hi
    unfold mg
    rw [if_neg fun q => hCu ((e5 u).mpr (Or.inr ⟨hu, i, hi, q⟩))]
  refine ⟨z1, z2, C', Q', e1, g1, hlen, g3, hfr, hcnt, ?_⟩
  rcases e3 with hN1 | ⟨ht1, u, v, u1, v1, u2, u3, u4, u5⟩
  · refine Or.inl ⟨⟨hT1'.fr fun j hj => g5 j (by omega) (by omega) (by omega) (by omega), (hPl0.fr fun j hj => e6 j (by omega) (by omega) (by omega) (by omega)).fr fun j hj => g5 j (by omega) (by omega) (by omega) (by omega), e2.fr fun j h1 h2 => g5 j (by omega) (by omega) (by omega) (by omega), hN1.fr fun j h1 h2 => g5 j (by omega) (by omega) (by omega) (by omega), g2, ?_, g3⟩, hsound, ?_, ?_, ?_, ?_, ?_, ?_, ?_⟩
    · refine (hH.fr fun j h1 h2 => (?_ : z2 j = z j))
      rw [g5 j (by omega) (by omega) (by omega) (by omega), e6 j (by omega) (by omega) (by omega) (by omega), hz j (by omega)]
    · -- pairs
      intro q hq'
      have old : ∀ q, q ∈ Q0 → q.1 < k ∧ q.2 < k ∧ One T k E q.1 q.2 := fun q hq => s2 q (List.mem_append_left _ hq)
      rcases g4 with ⟨rfl, _⟩ | ⟨x, y, _, _, x2, y2, x3, y3, x4, y4, rfl, _⟩
      · exact old q hq'
      · have sx : sz T x = 2 := (hW.2 x (by omega)).2.2.1 x4
        have sy : sz T y = 2 := (hW.2 y (by omega)).2.2.1 y4
        have wx := (hW.2 x (by omega)).2.1
        have wy := (hW.2 y (by omega)).2.1
        have oxy : One T k E x y := hsound x y x2 y2 (by unfold mg; rw [x3, y3, if_neg hne, if_pos rfl])
        have orow := One.row x2 y2 x4 y4 oxy
        simp only [List.mem_append, List.mem_singleton] at hq'
        rcases hq' with (hq' | rfl) | rfl
        · exact old q hq'
        · have := wx 0 (by omega); have := wy 0 (by omega)
          exact ⟨by show pt T x 0 < k; omega, by show pt T y 0 < k; omega, orow.1⟩
        · have := wx 1 (by omega); have := wy 1 (by omega)
          exact ⟨by show pt T x 1 < k; omega, by show pt T y 1 < k; omega, orow.2⟩
    · intro u hu
      rcases (e5 u).mp hu with hu | ⟨h1, i, h2, _⟩
      · exact s3 u hu
      · exact ⟨h1, by omega⟩
    · have hQ : ∀ q, q ∈ Q0 → q ∈ Q' := by
        intro q hq
        rcases g4 with ⟨rfl, _⟩ | ⟨x, y, _, _, _, _, _, _, _, _, rfl, _⟩
        · exact hq
        · simp [hq]
      exact fun a' b' e => (s4 a' b' e).step (fun x y e => mg_eq e) k6 hQ
    · -- rows
      have hQ : ∀ q, q ∈ Q0 → q ∈ Q' := by
        intro q hq
        rcases g4 with ⟨rfl, _⟩ | ⟨x, y, _, _, _, _, _, _, _, _, rfl, _⟩
        · exact hq
        · simp [hq]
      have up : ∀ x y, Eqv ro (Q0 ++ [(a, b)]) x y → Eqv (mg ro keep lose) Q' x y := fun x y e => e.step (fun x y e => mg_eq e) k6 hQ
      intro r x hr hrr hxk hx y hy hyr hky
      rcases (mg_root k3 hne).mp hrr with ⟨c1, c2⟩ | ⟨_, _, f⟩
      · by_cases hrk : r = keep
        · subst hrk
          rcases (mg_keep hne).mp hyr with hy1 | hy1
          · -- y was in keep's class
            rcases g4 with ⟨rfl, ⟨w1, w2⟩ | ⟨w1, w2⟩⟩ | ⟨x0, y0, w1, w2, x2, y2, x3, y3, x4, y4, rfl, w3⟩
            · rcases hR1 r hr c1 with ⟨_, n2⟩ | ⟨x', n1, n2, _, _⟩
              · exact absurd hky (n2 y hy hy1)
              · rw [w1] at n1
                exact absurd n1.symm (nI_m1 (by omega))
            · rw [w2, f6] at hx
              have := s5 r x hr c1 hxk hx y hy hy1 hky
              exact ⟨up _ _ this.1, up _ _ this.2⟩
            · rw [w3, f6] at hx
              have := s5 r x hr c1 hxk hx y hy hy1 hky
              exact ⟨up _ _ this.1, up _ _ this.2⟩
          · rcases g4 with ⟨rfl, ⟨w1, w2⟩ | ⟨w1, w2⟩⟩ | ⟨x0, y0, w1, w2, x2, y2, x3, y3, x4, y4, rfl, w3⟩
            · rw [w2, upd_e, f6] at hx
              have := s5 lose x k2 k4 hxk hx y hy hy1 hky
              exact ⟨up _ _ this.1, up _ _ this.2⟩
            · rcases hR1 lose k2 k4 with ⟨_, n2⟩ | ⟨x', n1, n2, _, _⟩
              · exact absurd hky (n2 y hy hy1)
              · rw [w1] at n1
                exact absurd n1.symm (nI_m1 (by omega))
            · rw [w3] at hx
              have hx0 : x = x0 := by
                rw [w1] at hx
                exact ((nI_eq (by omega) (by omega)).mp hx).symm
              subst hx0
              rw [f6] at w2
              have := s5 lose y0 k2 k4 y2 w2 y hy hy1 hky
              exact ⟨(Eqv.pr (by simp)).tr (up _ _ this.1), (Eqv.pr (by simp)).tr (up _ _ this.2)⟩
        · have hx' : z (pb + 6) r = nI x := by
            rcases g4 with ⟨rfl, ⟨w1, w2⟩ | ⟨w1, w2⟩⟩ | ⟨x0, y0, w1, w2, x2, y2, x3, y3, x4, y4, rfl, w3⟩
            · rw [w2, upd_n hrk, f6] at hx; exact hx
            · rw [w2, f6] at hx; exact hx
            · rw [w3, f6] at hx; exact hx
          have := s5 r x hr c1 hxk hx' y hy ((mg_in k3 hne hrk c2).mp hyr) hky
          exact ⟨up _ _ this.1, up _ _ this.2⟩
      · exact f.elim
    · intro u v hu hv hCu hCv hsu hsv hby
      have f9 : z2 (pb + 9) = z (pb + 9) := by rw [g5 _ (by omega) (by omega) (by omega) (by omega), e6 _ (by omega) (by omega) (by omega) (by omega), hz _ (by omega)]
      rw [f9] at hsu hsv
      exact s6 u v hu hv (fun q => hCu ((e5 u).mpr (Or.inl q))) (fun q => hCv ((e5 v).mpr (Or.inl q))) hsu hsv (byP_back hW (by omega) (same u hu hCu) (same v hv hCv) hby)
    · have hQ : ∀ q, q ∈ Q0 → q ∈ Q' := by
        intro q hq
        rcases g4 with ⟨rfl, _⟩ | ⟨x, y, _, _, _, _, _, _, _, _, rfl, _⟩
        · exact hq
        · simp [hq]
      intro t ht h0 hCt hst
      have f9 : z2 (pb + 9) = z (pb + 9) := by rw [g5 _ (by omega) (by omega) (by omega) (by omega), e6 _ (by omega) (by omega) (by omega) (by omega), hz _ (by omega)]
      rw [f9] at hst
      obtain ⟨u, u1, u2, u3, u4⟩ := s7 t ht h0 (fun q => hCt ((e5 t).mpr (Or.inl q))) hst
      refine ⟨u, u1, u2.mono fun _ _ e => mg_eq e, u3.step (fun x y e => mg_eq e) k6 hQ, ?_⟩
      rw [f9]
      rcases u4 with u4 | u4
      · exact Or.inl u4
      · exact Or.inr ((e5 u).mpr (Or.inl u4))
    · intro u hu hCu hsu
      have f9 : z2 (pb + 9) = z (pb + 9) := by rw [g5 _ (by omega) (by omega) (by omega) (by omega), e6 _ (by omega) (by omega) (by omega) (by omega), hz _ (by omega)]
      rw [f9] at hsu ⊢
      rw [s8 u hu (fun q => hCu ((e5 u).mpr (Or.inl q))) hsu]
      have hr : ∀ i, rp T (mg ro keep lose) u i = rp T ro u i := fun i => by
        unfold rp
        by_cases hi : i < sz T u
        · rw [if_pos hi, if_pos hi, same u hu hCu i hi]
        · rw [if_neg hi, if_neg hi]
      unfold sg
      rw [hr 0, hr 1, hr 2]
  · refine Or.inr ⟨?_, u, v, u1, v1, u2, u3, u4, hsound u v u1 v1 u5⟩
    rw [g5 pb (by omega) (by omega) (by omega) (by omega)]
    exact ht1
/-- a review: one term less is to be looked at -/
theorem JI.review {C0 : List Nat} {t : Nat} (hp : isPb pb) (hk : k ≤ T.length) (hW : WT T) (h : JI T E pb k ro (C0 ++ [t]) [] z) {z0 : fS} (hz : ∀ j, j ≠ 23 → j ≠ 27 → z0 j = z j) (hA0 : HA C0 [] z0) :
    ∃ z1 Q', fX4_review pb z0 (nI t) = some z1 ∧ Q'.length ≤ 1 ∧ JI T E pb k ro C0 Q' z1 ∧ (∀ j, ¬ (23 ≤ j ∧ j ≤ 27) → ¬ (pb ≤ j ∧ j ≤ pb + 9) → z1 j = z0 j) := by
  have hpn := hp.ne
  have hT1 := hW.1
  obtain ⟨⟨hT, hPl, hS, hN, hR, hH, hA⟩, s1, s2, s3, s4, s5, s6, s7, s8⟩ := h
  obtain ⟨t1, t2⟩ := s3 t (by simp)
  have htC : t ∉ C0 := fun hm => (List.nodup_append.mp hA.2.2.2.2.1).2.2 t hm t (by simp) rfl
  have hT0 : HT T z0 := hT.fr fun j hj => hz j (by omega) (by omega)
  have hS0 : PS pb k ro z0 := hS.fr fun j h1 h2 => hz j (by omega) (by omega)
  have hH0 : HH pb k z0 := hH.fr fun j h1 h2 => hz j (by omega) (by omega)
  have f9 : z0 (pb + 9) = z (pb + 9) := hz _ (by omega) (by omega)
  obtain ⟨z1, Q', e1, e2, e3, e4, e5⟩ := review_ok hp hk hW hT0 hS0 hH0 hA0 (by simp) t1 t2
  have fr : ∀ j, ¬ (23 ≤ j ∧ j ≤ 27) → ¬ (pb + 7 ≤ j ∧ j ≤ pb + 9) → z1 j = z j := fun j c1 c2 => (e5 j (by omega) (by omega) (by omega) c2).trans (hz j (by omega) (by omega))
  have base : (HT T z1 ∧ HPl T z1 ∧ PS pb k ro z1 ∧ PN T pb k ro z1 ∧ RwI T pb k ro z1 ∧ HH pb k z1 ∧ HA C0 Q' z1) := ⟨hT.fr fun j hj => fr j (by omega) (by omega), hPl.fr fun j hj => fr j (by omega) (by omega), hS.fr fun j h1 h2 => fr j (by omega) (by omega), hN.fr fun j h1 h2 => fr j (by omega) (by omega), hR.fr (fr _ (by omega) (by omega)), e2, e3⟩
  have f6 : z1 (pb + 6) = z (pb + 6) := fr _ (by omega) (by omega)
  have up : ∀ x y, Eqv ro [] x y → Eqv ro Q' x y := fun x y e => e.le (fun _ _ q => Eqv.fb q) (fun q hq => by simp at hq)
  have c3 : ∀ u, u ∈ C0 → u < k ∧ 0 < sz T u := fun u hu => s3 u (List.mem_append_left _ hu)
  have hfr : ∀ j, ¬ (23 ≤ j ∧ j ≤ 27) → ¬ (pb ≤ j ∧ j ≤ pb + 9) → z1 j = z0 j := fun j c1 c2 => e5 j (by omega) (by omega) (by omega) (by omega)
  have memC : ∀ u, u ∉ C0 → u ≠ t → u ∉ C0 ++ [t] := fun u h1 h2 => by simp [h1, h2]
  rcases e4 with ⟨u, u1, u2, u3, u4, rfl, u5⟩ | ⟨u1, rfl, u5⟩
  · rw [f9] at u3 u5
    refine ⟨z1, _, e1, by simp, ⟨base, s1, ?_, c3, fun a b e => up _ _ (s4 a b e), ?_, ?_, ?_, ?_⟩, hfr⟩
    · intro q hq
      have : q = (t, u) := by simpa using hq
      subst this
      refine ⟨t1, u1, One.cong t1 u1 (ByP.mono (fun a b e => ?_) (show ByP T (fun a b => a < k ∧ b < k ∧ ro a = ro b) t u from ?_))⟩
      · exact s1 a b e.1 e.2.1 e.2.2
      · obtain ⟨g0, g1, g2, g3, g4⟩ := u4
        have wt := (hW.2 t (by omega)).2.1
        have wu := (hW.2 u (by omega)).2.1
        refine ⟨g0, g1, g2, g3, ?_⟩
        rcases g4 with g4 | ⟨g4, g5, g6⟩
        · refine Or.inl fun i hi => ⟨by have := wt i hi; omega, by have := wu i (by omega); omega, g4 i hi⟩
        · have s2' : sz T t = 2 := (hW.2 t (by omega)).2.2.2.1 g4
          have := wt 0 (by omega); have := wt 1 (by omega); have := wu 0 (by omega); have := wu 1 (by omega)
          exact Or.inr ⟨g4, ⟨by omega, by omega, g5⟩, ⟨by omega, by omega, g6⟩⟩
    · intro r x hr hrr hxk hx y hy hyr hky
      rw [f6] at hx
      have := s5 r x hr hrr hxk hx y hy hyr hky
      exact ⟨up _ _ this.1, up _ _ this.2⟩
    · intro v w hv hw hCv hCw hsv hsw hby
      rw [u5] at hsv hsw
      have hvt : v ≠ t := fun e => hsv (by rw [e, upd_e])
      have hwt : w ≠ t := fun e => hsw (by rw [e, upd_e])
      rw [upd_n hvt] at hsv
      rw [upd_n hwt] at hsw
      exact s6 v w hv hw (memC v hCv hvt) (memC w hCw hwt) hsv hsw hby
    · intro w hw h0 hCw hsw
      rw [u5] at hsw ⊢
      have hun : upd (z (pb + 9)) t (-1) u ≠ -1 := by rw [upd_n u2]; exact u3
      by_cases e : w = t
      · subst e
        exact ⟨u, u1, u4, Eqv.pr (by simp), Or.inl hun⟩
      · rw [upd_n e] at hsw
        obtain ⟨x, x1, x2, x3, x4⟩ := s7 w hw h0 (memC w hCw e) hsw
        by_cases e2 : x = t
        · subst e2
          exact ⟨u, u1, x2.tr hW (fun _ _ _ e f => e.trans f) (by omega) u4, (up _ _ x3).tr (Eqv.pr (by simp)), Or.inl hun⟩
        · refine ⟨x, x1, x2, up _ _ x3, ?_⟩
          rw [upd_n e2]
          rcases x4 with x4 | x4
          · exact Or.inl x4
          · simp [e2] at x4
            exact Or.inr x4
    · intro v hv hCv hsv
      rw [u5] at hsv ⊢
      have hvt : v ≠ t := fun e => hsv (by rw [e, upd_e])
      rw [upd_n hvt] at hsv ⊢
      exact s8 v hv (memC v hCv hvt) hsv
  · rw [f9] at u1 u5
    obtain ⟨s, hs, es⟩ := sg_lt T ro t
    have hro : ∀ v, v < k → ∀ i, i < sz T v → ro (pt T v i) < 120 := fun v hv i hi => by
      have := (hW.2 v (by omega)).2.1 i hi
      have := (hS.2.2.1 (pt T v i) (by omega)).2.1
      omega
    have key : ∀ v, v < k → v ∉ C0 → v ≠ t → z (pb + 9) v ≠ -1 → ¬ ByP T (Rq ro) t v := by
      intro v hv hCv hvt hsv hby
      refine u1 v hv hvt ?_ hby
      rw [s8 v hv (memC v hCv hvt) hsv]
      exact (sg_alike hW (by omega) (hro t t1) hby).symm
    refine ⟨z1, _, e1, by simp, ⟨base, s1, fun q hq => by simp at hq, c3, s4, ?_, ?_, ?_, ?_⟩, hfr⟩
    · intro r x hr hrr hxk hx y hy hyr hky
      rw [f6] at hx
      exact s5 r x hr hrr hxk hx y hy hyr hky
    · intro v w hv hw hCv hCw hsv hsw hby
      rw [u5] at hsv hsw
      by_cases hvt : v = t
      · subst hvt
        by_cases hwt : w = v
        · exact hwt.symm
        · rw [upd_n hwt] at hsw
          exact absurd hby (key w hw hCw hwt hsw)
      · rw [upd_n hvt] at hsv
        by_cases hwt : w = t
        · subst hwt
          exact absurd (hby.sm fun _ _ e => e.symm) (key v hv hCv hvt hsv)
        · rw [upd_n hwt] at hsw
          exact s6 v w hv hw (memC v hCv hvt) (memC w hCw hwt) hsv hsw hby
    · intro w hw h0 hCw hsw
      rw [u5] at hsw ⊢
      have hwt : w ≠ t := fun e => by
        rw [e, upd_e, es] at hsw
        exact nI_m1 (by omega) hsw
      rw [upd_n hwt] at hsw
      obtain ⟨x, x1, x2, x3, x4⟩ := s7 w hw h0 (memC w hCw hwt) hsw
      refine ⟨x, x1, x2, x3, ?_⟩
      by_cases e2 : x = t
      · subst e2
        rw [upd_e, es]
        exact Or.inl (nI_m1 (by omega))
      · rw [upd_n e2]
        rcases x4 with x4 | x4
        · exact Or.inl x4
        · simp [e2] at x4
          exact Or.inr x4
    · intro v hv hCv hsv
      rw [u5] at hsv ⊢
      by_cases hvt : v = t
      · subst hvt; rw [upd_e]
      · rw [upd_n hvt] at hsv ⊢
        exact s8 v hv (memC v hCv hvt) hsv
end TURN
