/-! a partition's classes -/
def mg (ro : Nat → Nat) (a b : Nat) : Nat → Nat := fun t => if ro t = b then a else ro t
def PS (pb k : Nat) (ro : Nat → Nat) (z : fS) : Prop :=
  z pb 11 = nI k ∧ k ≤ 120 ∧ (∀ t, t < k → z (pb + 1) t = nI (ro t) ∧ ro t < k ∧ ro (ro t) = ro t) ∧
  (∀ r, r < k → ro r = r → ∃ l, Pth (z (pb + 2)) r l r ∧ (r :: l).Nodup ∧ (∀ t, t ∈ r :: l ↔ (t < k ∧ ro t = r)) ∧ z (pb + 3) r = nI (l.length + 1) ∧ ∃ m, z (pb + 4) r = nI m ∧ m < k ∧ ro m = r ∧ ∀ t, t < k → ro t = r → m ≤ t) ∧
  z pb 12 = nI (cnt (fun r => decide (ro r = r)) k)
def PN (T : List Tm) (pb k : Nat) (ro : Nat → Nat) (z : fS) : Prop :=
  z pb 13 = nI 0 ∧ ∀ r, r < k → ro r = r → (z (pb + 5) r = -1 ∧ ∀ t, t < k → ro t = r → kd T t ≠ nI 1) ∨ ∃ u, z (pb + 5) r = nI u ∧ u < k ∧ ro u = r ∧ kd T u = nI 1 ∧ ∀ t, t < k → ro t = r → kd T t = nI 1 → t = u
/-- two numbers in one class -/
def Tn (T : List Tm) (k : Nat) (ro : Nat → Nat) : Prop := ∃ u v, u < k ∧ v < k ∧ u ≠ v ∧ kd T u = nI 1 ∧ kd T v = nI 1 ∧ ro u = ro v
section UNI
variable {T : List Tm} {pb k keep lose : Nat} {ro : Nat → Nat} {Q : List (Nat × Nat)} {C : List Nat} {z z' : fS}
theorem mg_lt (h : ∀ t, t < k → ro t < k) (hk : keep < k) : ∀ t, t < k → mg ro keep lose t < k := fun t ht => by
  unfold mg; split
  · exact hk
  · exact h t ht
theorem mg_id (h : ∀ t, t < k → ro (ro t) = ro t) (h1 : ro keep = keep) (h2 : keep ≠ lose) : ∀ t, t < k → mg ro keep lose (mg ro keep lose t) = mg ro keep lose t := fun t ht => by
  unfold mg
  by_cases e : ro t = lose
  · rw [if_pos e, h1, if_neg h2]
  · rw [if_neg e, h t ht, if_neg e]
theorem mg_root (h1 : ro keep = keep) (h2 : keep ≠ lose) {r : Nat} : mg ro keep lose r = r ↔ (ro r = r ∧ r ≠ lose) ∨ (ro r = lose ∧ r = keep ∧ False) := by
  unfold mg
  by_cases e : ro r = lose
  · rw [if_pos e]
    constructor
    · intro q; subst q; exact absurd (h1.symm.trans e) h2
    · rintro (⟨q1, q2⟩ | ⟨_, _, f⟩)
      · exact absurd (q1.symm.trans e) q2
      · exact f.elim
  · rw [if_neg e]
    constructor
    · intro q; exact Or.inl ⟨q, fun e2 => e (q.trans e2)⟩
    · rintro (⟨q1, q2⟩ | ⟨_, _, f⟩)
      · exact q1
      · exact f.elim
theorem mg_in (h1 : ro keep = keep) (h2 : keep ≠ lose) {t r : Nat} (hr : r ≠ keep) (hl : r ≠ lose) : mg ro keep lose t = r ↔ ro t = r := by
  unfold mg
  by_cases e : ro t = lose
  · rw [if_pos e, e]
    exact ⟨fun q => absurd q.symm hr, fun q => absurd q.symm hl⟩
  · rw [if_neg e]
theorem mg_keep (h2 : keep ≠ lose) {t : Nat} : mg ro keep lose t = keep ↔ (ro t = keep ∨ ro t = lose) := by
  unfold mg
  by_cases e : ro t = lose
  · rw [if_pos e]; simp [e]
  · rw [if_neg e]; simp [e]
set_option maxHeartbeats 1000000 in
theorem unite_ok (hp : isPb pb) (hk : k ≤ T.length) (hW : WT T) (hS : PS pb k ro z) (hN : PN T pb k ro z) (hPl : HPl T z) (hA : HA C Q z) (h1 : keep < k) (h2 : lose < k) (h3 : ro keep = keep) (h4 : ro lose = lose) (h5 : keep ≠ lose) :
    ∃ z' C', fX4_unite pb z (nI keep) (nI lose) = some z' ∧ PS pb k (mg ro keep lose) z' ∧ (PN T pb k (mg ro keep lose) z' ∨ (z' pb 13 = nI 1 ∧ Tn T k (mg ro keep lose))) ∧ HA C' Q z' ∧ (∀ u, u ∈ C' ↔ u ∈ C ∨ (u < k ∧ ∃ i, i < sz T u ∧ ro (pt T u i) = lose)) ∧ (∀ j, j ≠ 23 → j ≠ 26 → j ≠ 27 → ¬ (pb ≤ j ∧ j ≤ pb + 5) → z' j = z j) := by
  have hpn := hp.ne
  have hT := hW.1
  obtain ⟨s1, s2, s3, s4, s5⟩ := id hS
  obtain ⟨la, a1, a2, a3, a4, ma, a5, a6, a7, a8⟩ := s4 keep h1 h3
  obtain ⟨lb, b1, b2, b3, b4, mb, b5, b6, b7, b8⟩ := s4 lose h2 h4
  have hla : la.length + 1 ≤ 120 := by
    have := nodup_lt a2 (n := 120) (fun x hx => by have := ((a3 x).mp hx).1; omega)
    simpa using this
  have hlb : lb.length + 1 ≤ 120 := by
    have := nodup_lt b2 (n := 120) (fun x hx => by have := ((b3 x).mp hx).1; omega)
    simpa using this
  obtain ⟨z1, C1, e1, e2, e3, e4, e5⟩ := unite_loop (keep := keep) (lose := lose) (s := lb.length + 1) hp hk hW (by omega) (k104 := jX4_unite_104 pb (nI keep) (nI lose)) (Q := Q) lb lose 0 z C FU b1 (fun x hx => ((b3 x).mp hx).1) (by omega) hlb b4 hPl hA s1 (by have := FU_ge; omega)
  have g0 : z1 pb = z pb := e5 _ (by omega) (by omega) (by omega) (by omega)
  have g2 : z1 (pb + 2) = z (pb + 2) := e5 _ (by omega) (by omega) (by omega) (by omega)
  have g3 : z1 (pb + 3) = z (pb + 3) := e5 _ (by omega) (by omega) (by omega) (by omega)
  have g4 : z1 (pb + 4) = z (pb + 4) := e5 _ (by omega) (by omega) (by omega) (by omega)
  have g5 : z1 (pb + 5) = z (pb + 5) := e5 _ (by omega) (by omega) (by omega) (by omega)
  have hc : 0 < cnt (fun r => decide (ro r = r)) k := cnt_pos h1 (by simp [h3])
  have hcn := cnt_le (fun r => decide (ro r = r)) k
  have hcnt : cnt (fun r => decide (mg ro keep lose r = r)) k + 1 = cnt (fun r => decide (ro r = r)) k := by
    refine cnt_less (j := lose) (by simp [h4]) ?_ ?_ h2
    · simp only [decide_eq_false_iff_not, mg_root h3 h5]
      rintro (⟨_, q⟩ | ⟨_, _, f⟩)
      · exact q rfl
      · exact f
    · intro i hi
      have : (mg ro keep lose i = i) ↔ (ro i = i) := by
        rw [mg_root h3 h5]
        constructor
        · rintro (⟨q, _⟩ | ⟨_, _, f⟩)
          · exact q
          · exact f.elim
        · intro q; exact Or.inl ⟨q, hi⟩
      simp [this]
  -- the state behind the joins, but for the numbers
  obtain ⟨zz, hzz⟩ : ∃ y : fS, y = wrr (wrr (wrr (wrr z1 (pb + 2) (upd (upd (z (pb + 2)) keep (z (pb + 2) lose)) lose (z (pb + 2) keep))) (pb + 3) (upd (z (pb + 3)) keep (nI (la.length + 1 + (lb.length + 1))))) (pb + 4) (upd (z (pb + 4)) keep (if mb < ma then nI mb else nI ma))) pb (upd (z pb) 12 (nI (cnt (fun r => decide (mg ro keep lose r = r)) k))) := ⟨_, rfl⟩
  have q1 : zz (pb + 1) = fun j => if j ∈ lose :: lb then nI keep else z (pb + 1) j := by
    rw [hzz]; simp (disch := omega) only [wrr_n]; exact e2
  have q2 : zz (pb + 2) = upd (upd (z (pb + 2)) keep (z (pb + 2) lose)) lose (z (pb + 2) keep) := by
    rw [hzz]; simp (disch := omega) only [wrr_n, wrr_e]
  have q3 : zz (pb + 3) = upd (z (pb + 3)) keep (nI (la.length + 1 + (lb.length + 1))) := by
    rw [hzz]; simp (disch := omega) only [wrr_n, wrr_e]
  have q4 : zz (pb + 4) = upd (z (pb + 4)) keep (if mb < ma then nI mb else nI ma) := by
    rw [hzz]; simp (disch := omega) only [wrr_n, wrr_e]
  have q5 : zz (pb + 5) = z (pb + 5) := by
    rw [hzz]; simp (disch := omega) only [wrr_n]; exact g5
  have q0 : zz pb = upd (z pb) 12 (nI (cnt (fun r => decide (mg ro keep lose r = r)) k)) := by
    rw [hzz, wrr_e]
  have qf : ∀ j, j ≠ 23 → j ≠ 26 → j ≠ 27 → ¬ (pb ≤ j ∧ j ≤ pb + 4) → zz j = z j := by
    intro j c1 c2 c3 c4
    rw [hzz]; simp (disch := omega) only [wrr_n]
    exact e5 j c1 c2 c3 (by omega)
  have qA : HA C1 Q zz := by
    unfold HA
    rw [hzz]
    simp (disch := omega) only [wrr_n]
    exact e3
  have qS : PS pb k (mg ro keep lose) zz := by
    refine ⟨by rw [q0, upd_n (by omega)]; exact s1, s2, fun t ht => ?_, fun r hr hrr => ?_, by rw [q0, upd_e]⟩
    · obtain ⟨c1, c2, c3⟩ := s3 t ht
      refine ⟨?_, mg_lt (fun t h => (s3 t h).2.1) h1 t ht, mg_id (fun t h => (s3 t h).2.2) h3 h5 t ht⟩
      rw [q1]
      show (if t ∈ lose :: lb then _ else _) = nI (mg ro keep lose t)
      unfold mg
      by_cases e : ro t = lose
      · rw [if_pos ((b3 t).mpr ⟨ht, e⟩), if_pos e]
      · rw [if_neg (fun h => e ((b3 t).mp h).2), if_neg e, c1]
    · rcases (mg_root h3 h5).mp hrr with ⟨c1, c2⟩ | ⟨_, _, f⟩
      · by_cases hrk : r = keep
        · subst hrk
          have d1 : r ∉ la := (List.nodup_cons.mp a2).1
          have d2 : lose ∉ lb := (List.nodup_cons.mp b2).1
          have d3 : lose ∉ la := fun h => h5 ((((a3 lose).mp (List.mem_cons_of_mem _ h)).2.symm.trans h4))
          have d4 : r ∉ lb := fun h => h5 (h3.symm.trans ((b3 r).mp (List.mem_cons_of_mem _ h)).2)
          refine ⟨lb ++ lose :: la, by rw [q2]; exact Pth.splice a1 b1 h5 d1 d3 d4 d2, ?_, ?_, ?_, ?_⟩
          · refine List.nodup_cons.mpr ⟨?_, List.nodup_append.mpr ⟨(List.nodup_cons.mp b2).2, List.nodup_cons.mpr ⟨d3, (List.nodup_cons.mp a2).2⟩, ?_⟩⟩
            · intro h
              rcases List.mem_append.mp h with h | h
              · exact d4 h
              · rcases List.mem_cons.mp h with h | h
                · exact h5 h
                · exact d1 h
            · intro x hx y hy e
              subst e
              rcases List.mem_cons.mp hy with rfl | hy
              · exact d2 hx
              · exact h5 (((a3 x).mp (List.mem_cons_of_mem _ hy)).2.symm.trans ((b3 x).mp (List.mem_cons_of_mem _ hx)).2)
          · intro t
            have m1 := a3 t
            have m2 := b3 t
            rw [mg_keep h5]
            simp only [List.mem_cons, List.mem_append] at m1 m2 ⊢
            constructor
            · rintro (h | h | h | h)
              · exact ⟨(m1.mp (Or.inl h)).1, Or.inl (m1.mp (Or.inl h)).2⟩
              · exact ⟨(m2.mp (Or.inr h)).1, Or.inr (m2.mp (Or.inr h)).2⟩
              · exact ⟨(m2.mp (Or.inl h)).1, Or.inr (m2.mp (Or.inl h)).2⟩
              · exact ⟨(m1.mp (Or.inr h)).1, Or.inl (m1.mp (Or.inr h)).2⟩
            · rintro ⟨h, h' | h'⟩
              · rcases m1.mpr ⟨h, h'⟩ with g | g
                · exact Or.inl g
                · exact Or.inr (Or.inr (Or.inr g))
              · rcases m2.mpr ⟨h, h'⟩ with g | g
                · exact Or.inr (Or.inr (Or.inl g))
                · exact Or.inr (Or.inl g)
          · rw [q3, upd_e]
            congr 1
            simp
            omega
          · refine ⟨if mb < ma then mb else ma, by rw [q4, upd_e]; split <;> rfl, by split <;> assumption, ?_, fun t ht hrt => ?_⟩
            · rw [mg_keep h5]
              split
              · exact Or.inr b7
              · exact Or.inl a7
            · rcases (mg_keep h5).mp hrt with h | h
              · have := a8 t ht h
                split <;> omega
              · have := b8 t ht h
                split <;> omega
        · obtain ⟨l, c3, c4, c5, c6, mm, c7, c8, c9, c10⟩ := s4 r hr c1
          have d1 : keep ∉ r :: l := fun h => hrk (((c5 keep).mp h).2.symm.trans h3)
          have d2 : lose ∉ r :: l := fun h => c2 (((c5 lose).mp h).2.symm.trans h4)
          refine ⟨l, ?_, c4, fun t => ?_, by rw [q3, upd_n hrk]; exact c6, mm, by rw [q4, upd_n hrk]; exact c7, c8, (mg_in h3 h5 hrk c2).mpr c9, fun t ht h => c10 t ht ((mg_in h3 h5 hrk c2).mp h)⟩
          · rw [q2]
            refine Pth.head c3 ?_ fun x hx => ?_
            · rw [upd_n c2, upd_n hrk]
            · rw [upd_n (show x ≠ lose from fun e => d2 (e ▸ List.mem_cons_of_mem _ hx)), upd_n (show x ≠ keep from fun e => d1 (e ▸ List.mem_cons_of_mem _ hx))]
          · rw [c5 t, mg_in h3 h5 hrk c2]
      · exact f.elim
  have hun : fX4_unite pb z (nI keep) (nI lose) = jX4_unite_104 pb (nI keep) (nI lose) z1 := e1
  have hmem : ∀ u, u ∈ C1 ↔ u ∈ C ∨ (u < k ∧ ∃ i, i < sz T u ∧ ro (pt T u i) = lose) := by
    intro u
    rw [e4 u]
    constructor
    · rintro (h | ⟨c1, i, c2, c3⟩)
      · exact Or.inl h
      · exact Or.inr ⟨c1, i, c2, ((b3 _).mp c3).2⟩
    · rintro (h | ⟨c1, i, c2, c3⟩)
      · exact Or.inl h
      · have := (hW.2 u (by omega)).2.1 i c2
        exact Or.inr ⟨c1, i, c2, (b3 _).mpr ⟨by omega, c3⟩⟩
  have hstep : jX4_unite_104 pb (nI keep) (nI lose) z1 = if z (pb + 5) lose = (-1 : Int32) then some zz else if z (pb + 5) keep = (-1 : Int32) then some (wrr (wrr zz pb (upd (zz pb) 13 (nI 0))) (pb + 5) (upd (z (pb + 5)) keep (z (pb + 5) lose))) else some (wrr (wrr zz pb (upd (zz pb) 13 (nI 1))) (pb + 5) (upd (z (pb + 5)) keep (z (pb + 5) lose))) := by
    unfold jX4_unite_104 jX4_unite_206
    rw [hzz]
    simp (disch := omega) only [inb_t, gd_t, rd_nI, bnd_s, wr_nI, wf_w, wrr_n, wrr_e, wrr_wrr, g0, g2, g3, g4, g5, upd_n, upd_e, a4, b4, a5, b5, nI_add, lit, s5, hN.1, if_true, nI_ltI, nI_sub]
    rw [show cnt (fun r => decide (ro r = r)) k - 1 = cnt (fun r => decide (mg ro keep lose r = r)) k by omega]
  rw [hun, hstep]
  obtain ⟨n0, n1⟩ := hN
  rcases n1 lose h2 h4 with ⟨x1, x2⟩ | ⟨u, x1, x2, x3, x4, x5⟩
  · rw [if_pos x1]
    refine ⟨zz, C1, rfl, qS, Or.inl ⟨by rw [q0, upd_n (by omega)]; exact n0, fun r hr hrr => ?_⟩, qA, hmem, fun j c1 c2 c3 c4 => qf j c1 c2 c3 (by omega)⟩
    rcases (mg_root h3 h5).mp hrr with ⟨c1, c2⟩ | ⟨_, _, f⟩
    · rw [q5]
      by_cases hrk : r = keep
      · subst hrk
        rcases n1 r hr c1 with ⟨y1, y2⟩ | ⟨v, y1, y2, y3, y4, y5⟩
        · refine Or.inl ⟨y1, fun t ht h => ?_⟩
          rcases (mg_keep h5).mp h with h | h
          · exact y2 t ht h
          · exact x2 t ht h
        · refine Or.inr ⟨v, y1, y2, (mg_keep h5).mpr (Or.inl y3), y4, fun t ht h hk1 => ?_⟩
          rcases (mg_keep h5).mp h with h | h
          · exact y5 t ht h hk1
          · exact absurd hk1 (x2 t ht h)
      · rcases n1 r hr c1 with ⟨y1, y2⟩ | ⟨v, y1, y2, y3, y4, y5⟩
        · exact Or.inl ⟨y1, fun t ht h => y2 t ht ((mg_in h3 h5 hrk c2).mp h)⟩
        · exact Or.inr ⟨v, y1, y2, (mg_in h3 h5 hrk c2).mpr y3, y4, fun t ht h => y5 t ht ((mg_in h3 h5 hrk c2).mp h)⟩
    · exact f.elim
  · rw [if_neg (by rw [x1]; exact nI_m1 (by omega))]
    have fr5 : ∀ (v : Int32) (j : Nat), j ≠ 23 → j ≠ 26 → j ≠ 27 → ¬ (pb ≤ j ∧ j ≤ pb + 5) → wrr (wrr zz pb (upd (zz pb) 13 v)) (pb + 5) (upd (z (pb + 5)) keep (z (pb + 5) lose)) j = z j := by
      intro v j c1 c2 c3 c4
      simp (disch := omega) only [wrr_n]
      exact qf j c1 c2 c3 (by omega)
    have frA : ∀ v : Int32, HA C1 Q (wrr (wrr zz pb (upd (zz pb) 13 v)) (pb + 5) (upd (z (pb + 5)) keep (z (pb + 5) lose))) := by
      intro v
      unfold HA
      simp (disch := omega) only [wrr_n]
      exact qA
    have frS : ∀ v : Int32, PS pb k (mg ro keep lose) (wrr (wrr zz pb (upd (zz pb) 13 v)) (pb + 5) (upd (z (pb + 5)) keep (z (pb + 5) lose))) := by
      intro v
      unfold PS
      simp (disch := omega) only [wrr_n, wrr_e, upd_n]
      exact qS
    rcases n1 keep h1 h3 with ⟨y1, y2⟩ | ⟨v, y1, y2, y3, y4, y5⟩
    · rw [if_pos y1]
      refine ⟨_, C1, rfl, frS _, Or.inl ⟨by simp (disch := omega) only [wrr_n, wrr_e, upd_e], fun r hr hrr => ?_⟩, frA _, hmem, fr5 _⟩
      rcases (mg_root h3 h5).mp hrr with ⟨c1, c2⟩ | ⟨_, _, f⟩
      · rw [wrr_e]
        by_cases hrk : r = keep
        · subst hrk
          refine Or.inr ⟨u, by rw [upd_e]; exact x1, x2, (mg_keep h5).mpr (Or.inr x3), x4, fun t ht h hk1 => ?_⟩
          rcases (mg_keep h5).mp h with h | h
          · exact absurd hk1 (y2 t ht h)
          · exact x5 t ht h hk1
        · rw [upd_n hrk]
          rcases n1 r hr c1 with ⟨w1, w2⟩ | ⟨v, w1, w2, w3, w4, w5⟩
          · exact Or.inl ⟨w1, fun t ht h => w2 t ht ((mg_in h3 h5 hrk c2).mp h)⟩
          · exact Or.inr ⟨v, w1, w2, (mg_in h3 h5 hrk c2).mpr w3, w4, fun t ht h => w5 t ht ((mg_in h3 h5 hrk c2).mp h)⟩
      · exact f.elim
    · rw [if_neg (by rw [y1]; exact nI_m1 (by omega))]
      refine ⟨_, C1, rfl, frS _, Or.inr ⟨by simp (disch := omega) only [wrr_n, wrr_e, upd_e], v, u, y2, x2, ?_, y4, x4, ?_⟩, frA _, hmem, fr5 _⟩
      · intro e
        subst e
        exact h5 (y3.symm.trans x3)
      · unfold mg
        rw [y3, x3, if_neg h5, if_pos rfl]
end UNI
