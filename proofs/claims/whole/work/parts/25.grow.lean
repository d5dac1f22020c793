/-! the table of terms grows -/
def gT (T : List Tm) (t : Nat) : Tm := T.getD t (0, 0, [])
def AgT (T T' : List Tm) (k : Nat) : Prop := ∀ t, t < k → gT T' t = gT T t
section GROW
variable {T T' : List Tm} {k : Nat} {E : Nat → Nat → Prop} {R : Nat → Nat → Prop} {a b t : Nat}
theorem AgT.kd (h : AgT T T' k) (ht : t < k) : kd T' t = kd T t := congrArg (fun x : Tm => x.1) (h t ht)
theorem AgT.sh (h : AgT T T' k) (ht : t < k) : sh T' t = sh T t := congrArg (fun x : Tm => x.2.1) (h t ht)
theorem AgT.pts (h : AgT T T' k) (ht : t < k) : pts T' t = pts T t := congrArg (fun x : Tm => x.2.2) (h t ht)
theorem AgT.sz (h : AgT T T' k) (ht : t < k) : sz T' t = sz T t := congrArg List.length (h.pts ht)
theorem AgT.pt (h : AgT T T' k) (ht : t < k) (i : Nat) : pt T' t i = pt T t i := congrArg (fun l : List Nat => l.getD i 0) (h.pts ht)
theorem AgT.symm (h : AgT T T' k) : AgT T' T k := fun t ht => (h t ht).symm
theorem AgT.byP (h : AgT T T' k) (ha : a < k) (hb : b < k) (hp : ByP T R a b) : ByP T' R a b := by
  unfold ByP at hp ⊢
  rw [h.sz ha, h.kd ha, h.kd hb, h.sh ha, h.sh hb, h.sz hb, h.pt ha 0, h.pt ha 1, h.pt hb 0, h.pt hb 1]
  obtain ⟨h0, h1, h2, h3, h4⟩ := hp
  refine ⟨h0, h1, h2, h3, ?_⟩
  rcases h4 with h4 | h4
  · exact Or.inl fun i hi => by rw [h.pt ha i, h.pt hb i]; exact h4 i hi
  · exact Or.inr h4
theorem AgT.isC (h : AgT T T' k) (hc : IsC T k E R) : IsC T' k E R := by
  obtain ⟨c1, c2, c3, c4, c5, c6⟩ := hc
  refine ⟨c1, c2, c3, c4, fun a b ha hb hp => c5 a b ha hb (h.symm.byP ha hb hp), fun a b ha hb ka kb hr => ?_⟩
  rw [h.kd ha] at ka
  rw [h.kd hb] at kb
  rw [h.pt ha 0, h.pt ha 1, h.pt hb 0, h.pt hb 1]
  exact c6 a b ha hb ka kb hr
theorem AgT.one (h : AgT T T' k) (ho : One T k E a b) : One T' k E a b := fun R hR => ho R (h.symm.isC hR)
theorem JI.growT {pb : Nat} {ro : Nat → Nat} {z z' : fS} (hg : AgT T T' k) (h : JI T E pb k ro [] [] z) (hW : WT T) (hk : k ≤ T.length) (hT : HT T' z') (hPl : HPl T' z') (e : ∀ j, 23 ≤ j → z' j = z j) (hp : isPb pb) : JI T' E pb k ro [] [] z' := by
  have hpn := hp.ne
  obtain ⟨⟨_, _, hS, hN0, hR, hH, hA⟩, s1, s2, s3, s4, s5, s6, s7, s8⟩ := h
  have hN1 : PN T' pb k ro z := by
    refine ⟨hN0.1, fun r hr hrr => ?_⟩
    rcases hN0.2 r hr hrr with ⟨q1, q2⟩ | ⟨u, q1, q2, q3, q4, q5⟩
    · exact Or.inl ⟨q1, fun t ht h => by rw [hg.kd ht]; exact q2 t ht h⟩
    · exact Or.inr ⟨u, q1, q2, q3, by rw [hg.kd q2]; exact q4, fun t ht h k => q5 t ht h (by rw [hg.kd ht] at k; exact k)⟩
  have hR1 : RwI T' pb k ro z := by
    intro r hr hrr
    rcases hR r hr hrr with ⟨q1, q2⟩ | ⟨x, q1, q2, q3, q4⟩
    · exact Or.inl ⟨q1, fun t ht h => by rw [hg.kd ht]; exact q2 t ht h⟩
    · exact Or.inr ⟨x, q1, q2, q3, by rw [hg.kd q2]; exact q4⟩
  refine ⟨⟨hT, hPl, hS.fr fun j h1 h2 => e j (by omega), hN1.fr fun j h1 h2 => e j (by omega), hR1.fr (e _ (by omega)), hH.fr fun j h1 h2 => e j (by omega), hA.fr fun j h1 h2 => e j (by omega)⟩, fun a b ha hb h => hg.one (s1 a b ha hb h), fun q hq => by simp at hq, fun u hu => by simp at hu, s4, ?_, ?_, ?_, ?_⟩
  · rw [e (pb + 6) (by omega)]
    intro r x h1 h2 h3 h4 y h5 h6 h7
    rw [hg.kd h5] at h7
    rw [hg.pt h3 0, hg.pt h3 1, hg.pt h5 0, hg.pt h5 1]
    exact s5 r x h1 h2 h3 h4 y h5 h6 h7
  · rw [e (pb + 9) (by omega)]
    intro u v hu hv h1 h2 h3 h4 h5
    exact s6 u v hu hv h1 h2 h3 h4 (hg.symm.byP hu hv h5)
  · rw [e (pb + 9) (by omega)]
    intro t ht h0 h1 h2
    rw [hg.sz ht] at h0
    obtain ⟨u, u1, u2, u3, u4⟩ := s7 t ht h0 h1 h2
    exact ⟨u, u1, hg.byP ht u1 u2, u3, u4⟩
  · rw [e (pb + 9) (by omega)]
    intro u hu h1 h2
    rw [s8 u hu h1 h2]
    have hr : ∀ i, rp T' ro u i = rp T ro u i := fun i => by
      unfold rp
      rw [hg.sz hu, hg.pt hu i]
    unfold sg
    rw [hr 0, hr 1, hr 2, hg.kd hu, hg.sh hu]
end GROW
/-! the class's tables of terms: chains, places, holes -/
def pe (l : List Nat) (i : Nat) : Int32 := if i < l.length then nI (l.getD i 0) else -1
def hsT (tm : Tm) : Int32 := hsh tm.1 tm.2.1 (pe tm.2.2 0) (pe tm.2.2 1) (pe tm.2.2 2)
def HC (T : List Tm) (z : fS) : Prop := ∀ s, s < 128 → ∃ l, Lst (z 8) (z 7 s) l ∧ l.Pairwise (· > ·) ∧ ∀ t, t ∈ l ↔ t < T.length ∧ hsT (gT T t) = nI s
def HP (T : List Tm) (z : fS) : Prop := ∀ t, t < T.length → ∃ l, Lst (z 10) (z 9 t) l ∧ l.Pairwise (· > ·) ∧ ∀ p, p ∈ l ↔ p / 3 < T.length ∧ p % 3 < sz T (p / 3) ∧ pt T (p / 3) (p % 3) = t
def isHo (tm : Tm) (h : Nat) : Prop := tm.1 = nI 0 ∧ tm.2.1 = nI (90 + h) ∧ h < 3
/-- the bits of the holes that stand in a term -/
def hbit (tm : Tm) : Nat := if tm.1 = nI 0 ∧ tm.2.1 = nI 90 then 1 else if tm.1 = nI 0 ∧ tm.2.1 = nI 91 then 2 else if tm.1 = nI 0 ∧ tm.2.1 = nI 92 then 4 else 0
def orl (H : Nat → Nat) : List Nat → Nat → Nat
  | [], m => m
  | p :: l, m => orl H l (m ||| H p)
def IsH (T : List Tm) (H : Nat → Nat) : Prop := ∀ t, t < T.length → H t = orl H (pts T t) (hbit (gT T t)) ∧ H t < 8
def HB (T : List Tm) (H : Nat → Nat) (z : fS) : Prop := ∀ t, t < T.length → z 6 t = nI (H t)
def Uq (T : List Tm) : Prop := ∀ t u, t < T.length → u < T.length → gT T t = gT T u → t = u
def OkT (n : Nat) (tm : Tm) : Prop := tm.2.2.length ≤ 3 ∧ (∀ p, p ∈ tm.2.2 → p < n) ∧ (tm.1 = nI 3 → tm.2.2.length = 2) ∧ (tm.1 = nI 4 → tm.2.2.length = 2) ∧ (tm.1 = nI 1 → tm.2.2.length = 0) ∧ (tm.1 = nI 0 → tm.2.2.length = 0)
def HX (T : List Tm) (z : fS) : Prop := WT T ∧ Uq T ∧ HT T z ∧ HP T z ∧ HC T z ∧ ∃ H, IsH T H ∧ HB T H z
theorem HP.pl {T : List Tm} {z : fS} (hW : WT T) (h : HP T z) : HPl T z := by
  intro t ht
  obtain ⟨l, l1, l2, l3⟩ := h t ht
  refine ⟨l, l1, nodup_lt (l2.imp fun h e => by omega) fun p hp => ?_, l3⟩
  have := ((l3 p).mp hp).1
  have := hW.1
  omega
section FIND
variable {T : List Tm} {z z' : fS} {tm : Tm}
theorem HX.fr (h : HX T z) (e : ∀ j, j < 11 → z' j = z j) : HX T z' := by
  obtain ⟨h1, h2, h3, h4, h5, H, h6, h7⟩ := h
  refine ⟨h1, h2, h3.fr e, ?_, ?_, H, h6, ?_⟩
  · unfold HP; rw [e 9 (by omega), e 10 (by omega)]; exact h4
  · unfold HC; rw [e 7 (by omega), e 8 (by omega)]; exact h5
  · unfold HB; rw [e 6 (by omega)]; exact h7
theorem gT_l {T R : List Tm} {t : Nat} (h : t < T.length) : gT (T ++ R) t = gT T t := gD_l h
theorem gT_r {T : List Tm} {tm : Tm} : gT (T ++ [tm]) T.length = tm := gD_r
theorem AgT.app (T R : List Tm) {k : Nat} (h : k ≤ T.length) : AgT T (T ++ R) k := fun t ht => gT_l (by omega)
theorem WT.ok (h : WT T) {t : Nat} (ht : t < T.length) : OkT t (gT T t) := by
  obtain ⟨h1, h2, h3, h4, h5, h6⟩ := h.2 t ht
  refine ⟨h1, fun p hp => ?_, h3, h4, h5, h6⟩
  obtain ⟨j, j1, j2⟩ := mem_gD hp
  rw [← j2]
  exact h2 j j1
theorem WT.add (h : WT T) (hl : T.length < 120) (ho : OkT T.length tm) : WT (T ++ [tm]) := by
  refine ⟨by simp; omega, fun t ht => ?_⟩
  by_cases q : t < T.length
  · have hg := AgT.app T [tm] (Nat.le_refl _)
    have := h.2 t q
    rw [hg.kd q, hg.sz q]
    exact ⟨this.1, fun i hi => by rw [hg.pt q i]; exact this.2.1 i hi, this.2.2⟩
  · have e : t = T.length := by simp at ht; omega
    subst e
    have e1 : kd (T ++ [tm]) T.length = tm.1 := congrArg (fun x : Tm => x.1) (gT_r (T := T) (tm := tm))
    have e2 : pts (T ++ [tm]) T.length = tm.2.2 := congrArg (fun x : Tm => x.2.2) (gT_r (T := T) (tm := tm))
    have e3 : sz (T ++ [tm]) T.length = tm.2.2.length := congrArg List.length e2
    rw [e1, e3]
    refine ⟨ho.1, fun i hi => ?_, ho.2.2⟩
    show (pts (T ++ [tm]) T.length).getD i 0 < _
    rw [e2]
    exact ho.2.1 _ (gD_mem hi)
theorem pe_parts (hT : HT T z) {t i : Nat} (ht : t < T.length) (hi : i < 3) : z 5 (3 * t + i) = pe (pts T t) i := (hT.2 t ht).2.2.2 i hi
/-- parts told by three numbers, -1 for none -/
theorem pe_inj {l m : List Nat} (hl : l.length ≤ 3) (hm : m.length ≤ 3) (h1 : ∀ p, p ∈ l → p < 120) (h2 : ∀ p, p ∈ m → p < 120) (e : ∀ i, i < 3 → pe l i = pe m i) : l = m := by
  have step : ∀ i, i < 3 → (i < l.length ↔ i < m.length) ∧ (i < l.length → l.getD i 0 = m.getD i 0) := by
    intro i hi
    have := e i hi
    unfold pe at this
    by_cases q1 : i < l.length
    · have g1 := h1 _ (gD_mem q1)
      by_cases q2 : i < m.length
      · have g2 := h2 _ (gD_mem q2)
        rw [if_pos q1, if_pos q2, nI_eq (by omega) (by omega)] at this
        exact ⟨⟨fun _ => q2, fun _ => q1⟩, fun _ => this⟩
      · rw [if_pos q1, if_neg q2] at this
        exact absurd this (nI_m1 (by omega))
    · by_cases q2 : i < m.length
      · have g2 := h2 _ (gD_mem q2)
        rw [if_neg q1, if_pos q2] at this
        exact absurd this.symm (nI_m1 (by omega))
      · exact ⟨⟨fun h => absurd h q1, fun h => absurd h q2⟩, fun h => absurd h q1⟩
  have s0 := step 0 (by omega)
  have s1 := step 1 (by omega)
  have s2 := step 2 (by omega)
  have el : l.length = m.length := by
    have := s0.1; have := s1.1; have := s2.1
    omega
  refine List.ext_getElem el fun i g1 g2 => ?_
  have := (step i (by omega)).2 g1
  rw [List.getD_eq_getElem?_getD, List.getD_eq_getElem?_getD, List.getElem?_eq_getElem g1, List.getElem?_eq_getElem g2] at this
  exact this
theorem find_loop (hT : HT T z) (hW : WT T) (ho : OkT 120 tm) : ∀ (l : List Nat) (h : Int32) (s N : Nat), Lst (z 8) h l → (∀ t, t ∈ l → t < T.length) → s + l.length ≤ 120 → l.length < N → (∃ t, t ∈ l ∧ gT T t = tm ∧ lX7_find_20 z tm.1 tm.2.1 (pe tm.2.2 0) (pe tm.2.2 1) (pe tm.2.2 2) N h (nI s) = some (nI t)) ∨ ((∀ t, t ∈ l → gT T t ≠ tm) ∧ lX7_find_20 z tm.1 tm.2.1 (pe tm.2.2 0) (pe tm.2.2 1) (pe tm.2.2 2) N h (nI s) = some (-(nI 1))) := by
  have hT1 := hW.1
  intro l
  induction l with
  | nil =>
    intro h s N hl hlt hs hN
    obtain ⟨N, rfl⟩ : ∃ M, N = M + 1 := ⟨N - 1, by omega⟩
    have hh : h = -1 := hl
    refine Or.inr ⟨fun t ht => by simp at ht, ?_⟩
    rw [lX7_find_20.eq_2, hh]
    simp only [litm, if_true, ite_self]
  | cons t l ih =>
    intro h s N hl hlt hs hN
    obtain ⟨N, rfl⟩ : ∃ M, N = M + 1 := ⟨N - 1, by omega⟩
    obtain ⟨hh, hl2⟩ := hl
    have ht := hlt t List.mem_cons_self
    obtain ⟨t2, t3, t4, _⟩ := hT.2 t ht
    have p0 := pe_parts hT ht (i := 0) (by omega)
    have p1 := pe_parts hT ht (i := 1) (by omega)
    have p2 := pe_parts hT ht (i := 2) (by omega)
    rw [Nat.add_zero] at p0
    have wok := hW.ok ht
    have hln : (t :: l).length = l.length + 1 := rfl
    have hs : s + (l.length + 1) ≤ 120 := hs
    have key : gT T t = tm ↔ (kd T t = tm.1 ∧ sh T t = tm.2.1 ∧ pe (pts T t) 0 = pe tm.2.2 0 ∧ pe (pts T t) 1 = pe tm.2.2 1 ∧ pe (pts T t) 2 = pe tm.2.2 2) := by
      constructor
      · intro e
        have e1 : kd T t = tm.1 := congrArg (fun x : Tm => x.1) e
        have e2 : sh T t = tm.2.1 := congrArg (fun x : Tm => x.2.1) e
        have e3 : pts T t = tm.2.2 := congrArg (fun x : Tm => x.2.2) e
        rw [e1, e2, e3]
        exact ⟨rfl, rfl, rfl, rfl, rfl⟩
      · rintro ⟨e1, e2, e3, e4, e5⟩
        have : pts T t = tm.2.2 := pe_inj wok.1 ho.1 (fun p hp => by have := wok.2.1 p hp; omega) ho.2.1 fun i hi => by
          rcases (show i = 0 ∨ i = 1 ∨ i = 2 by omega) with rfl | rfl | rfl
          · exact e3
          · exact e4
          · exact e5
        exact Prod.ext e1 (Prod.ext e2 this)
    have nx : (∃ t', t' ∈ t :: l ∧ gT T t' = tm ∧ lX7_find_20 z tm.1 tm.2.1 (pe tm.2.2 0) (pe tm.2.2 1) (pe tm.2.2 2) N (z 8 t) (nI (s + 1)) = some (nI t')) ∨ ((∀ t', t' ∈ l → gT T t' ≠ tm) ∧ lX7_find_20 z tm.1 tm.2.1 (pe tm.2.2 0) (pe tm.2.2 1) (pe tm.2.2 2) N (z 8 t) (nI (s + 1)) = some (-(nI 1))) := by
      rcases ih (z 8 t) (s + 1) N hl2 (fun t ht => hlt t (List.mem_cons_of_mem _ ht)) (by omega) (by omega) with ⟨u, u1, u2, u3⟩ | h
      · exact Or.inl ⟨u, List.mem_cons_of_mem _ u1, u2, u3⟩
      · exact Or.inr h
    have no : gT T t ≠ tm → ((∃ t', t' ∈ t :: l ∧ gT T t' = tm ∧ lX7_find_20 z tm.1 tm.2.1 (pe tm.2.2 0) (pe tm.2.2 1) (pe tm.2.2 2) N (z 8 t) (nI (s + 1)) = some (nI t')) ∨ ((∀ t', t' ∈ t :: l → gT T t' ≠ tm) ∧ lX7_find_20 z tm.1 tm.2.1 (pe tm.2.2 0) (pe tm.2.2 1) (pe tm.2.2 2) N (z 8 t) (nI (s + 1)) = some (-(nI 1)))) := by
      intro hne
      rcases nx with h | ⟨h1, h2⟩
      · exact Or.inl h
      · refine Or.inr ⟨fun t' ht' => ?_, h2⟩
        rcases List.mem_cons.mp ht' with rfl | ht'
        · exact hne
        · exact h1 t' ht'
    rw [lX7_find_20.eq_2, hh]
    simp (disch := omega) only [lit, litm, nI_leI, if_neg, nI_m1n, if_false, bnd_s, inb_t, gd_t, nI_mul, nI_add, rd_nI, t2, t3, p0, p1, p2]
    by_cases q1 : kd T t = tm.1
    · rw [if_pos q1]
      by_cases q2 : sh T t = tm.2.1
      · rw [if_pos q2]
        by_cases q3 : pe (pts T t) 0 = pe tm.2.2 0
        · rw [if_pos q3]
          by_cases q4 : pe (pts T t) 1 = pe tm.2.2 1
          · rw [if_pos q4]
            by_cases q5 : pe (pts T t) 2 = pe tm.2.2 2
            · rw [if_pos q5]
              exact Or.inl ⟨t, List.mem_cons_self, key.mpr ⟨q1, q2, q3, q4, q5⟩, rfl⟩
            · rw [if_neg q5]
              exact no fun e => q5 (key.mp e).2.2.2.2
          · rw [if_neg q4]
            exact no fun e => q4 (key.mp e).2.2.2.1
        · rw [if_neg q3]
          exact no fun e => q3 (key.mp e).2.2.1
      · rw [if_neg q2]
        exact no fun e => q2 (key.mp e).2.1
    · rw [if_neg q1]
      exact no fun e => q1 (key.mp e).1
theorem find_ok (h : HX T z) (ho : OkT 120 tm) : (∃ t, t < T.length ∧ gT T t = tm ∧ fX7_find z tm.1 tm.2.1 (pe tm.2.2 0) (pe tm.2.2 1) (pe tm.2.2 2) = some (nI t)) ∨ ((∀ t, t < T.length → gT T t ≠ tm) ∧ fX7_find z tm.1 tm.2.1 (pe tm.2.2 0) (pe tm.2.2 1) (pe tm.2.2 2) = some (-(nI 1))) := by
  obtain ⟨hW, hU, hT, hP, hC, _⟩ := h
  obtain ⟨s, s1, s2⟩ := hsh_lt tm.1 tm.2.1 (pe tm.2.2 0) (pe tm.2.2 1) (pe tm.2.2 2)
  obtain ⟨l, l1, l2, l3⟩ := hC s s1
  have hT1 := hW.1
  have hlen : l.length ≤ 120 := nodup_lt (l2.imp fun h e => by omega) fun t ht => by have := ((l3 t).mp ht).1; omega
  unfold fX7_find
  rw [slotFor_ok, bp_s, s2]
  simp (disch := omega) only [inb_t, gd_t, rd_nI, bnd_s, lit]
  rcases find_loop hT hW ho l (z 7 s) 0 FU l1 (fun t ht => ((l3 t).mp ht).1) (by omega) (by have := FU_ge; omega) with ⟨t, t1, t2, t3⟩ | ⟨t1, t2⟩
  · exact Or.inl ⟨t, ((l3 t).mp t1).1, t2, t3⟩
  · refine Or.inr ⟨fun t ht e => t1 t ((l3 t).mpr ⟨ht, ?_⟩) e, t2⟩
    rw [e]; exact s2
end FIND
