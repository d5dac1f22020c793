/-! pairs, rows, and the table of terms by the roots of their parts -/
theorem putPair_ok {C : List Nat} {Q : List (Nat × Nat)} {z : fS} {a b : Nat} (h : HA C Q z) (hq : Q.length < 242) : ∃ z', fX0_putPair z (nI a) (nI b) = some z' ∧ HA C (Q ++ [(a, b)]) z' ∧ (∀ j, j ≠ 23 → j ≠ 24 → j ≠ 25 → z' j = z j) := by
  obtain ⟨h1, h2, h3, h4, h5, h6, h7⟩ := h
  refine ⟨wrr (wrr (wrr z 24 (upd (z 24) Q.length (nI a))) 25 (upd (z 25) Q.length (nI b))) 23 (upd (z 23) 4 (nI (Q.length + 1))), ?_, ?_, ?_⟩
  · unfold fX0_putPair
    simp (disch := omega) only [lit, h1, nI_leI, if_neg, inb_t, gd_t, wr_nI, bnd_s, wrr_n, wrr_e, wf_w, nI_add]
  · refine ⟨?_, ?_, ?_, ?_, h5, h6, ?_⟩
    · simp (disch := omega) only [wrr_n, wrr_e, upd_e, List.length_append, List.length_singleton]
    · intro i hi
      simp (disch := omega) only [wrr_n, wrr_e]
      rcases Nat.lt_or_ge i Q.length with q | q
      · rw [upd_n (by omega), upd_n (by omega), gD_l q]; exact h2 i q
      · have e : i = Q.length := by simp at hi; omega
        subst e
        rw [upd_e, upd_e, gD_r]
        exact ⟨rfl, rfl⟩
    · simp (disch := omega) only [wrr_n, wrr_e, upd_n]; exact h3
    · intro i hi
      simp (disch := omega) only [wrr_n]; exact h4 i hi
    · intro u hu
      simp (disch := omega) only [wrr_n]; exact h7 u hu
  · intro j c1 c2 c3
    simp (disch := omega) only [wrr_n]
def RwI (T : List Tm) (pb k : Nat) (ro : Nat → Nat) (z : fS) : Prop :=
  ∀ r, r < k → ro r = r → (z (pb + 6) r = -1 ∧ ∀ t, t < k → ro t = r → kd T t ≠ nI 3) ∨ ∃ x, z (pb + 6) r = nI x ∧ x < k ∧ ro x = r ∧ kd T x = nI 3
theorem HT.part {T : List Tm} {z : fS} (h : HT T z) {t i : Nat} (ht : t < T.length) (hi : i < sz T t) (h3 : i < 3) : z 5 (3 * t + i) = nI (pt T t i) := by
  rw [(h.2 t ht).2.2.2 i h3, if_pos hi]
theorem nI_lt360 {x i : Nat} (hx : x < 120) (hi : i < 3) : 3 * x + i < 360 := by omega
section ROWS
variable {T : List Tm} {pb k keep lose : Nat} {ro : Nat → Nat} {Q : List (Nat × Nat)} {C : List Nat} {z : fS}
theorem uniteRows_ok (hp : isPb pb) (hk : k ≤ T.length) (hW : WT T) (hT : HT T z) (hR : RwI T pb k ro z) (hA : HA C Q z) (hq : Q.length < 240) (h1 : keep < k) (h2 : lose < k) (h3 : ro keep = keep) (h4 : ro lose = lose) (h5 : keep ≠ lose) :
    ∃ z' Q', fX4_uniteRows pb z (nI keep) (nI lose) = some z' ∧ RwI T pb k (mg ro keep lose) z' ∧ HA C Q' z' ∧ ((Q' = Q ∧ ((z (pb + 6) keep = -1 ∧ z' (pb + 6) = upd (z (pb + 6)) keep (z (pb + 6) lose)) ∨ (z (pb + 6) lose = -1 ∧ z' (pb + 6) = z (pb + 6)))) ∨ ∃ x y, z (pb + 6) keep = nI x ∧ z (pb + 6) lose = nI y ∧ x < k ∧ y < k ∧ ro x = keep ∧ ro y = lose ∧ kd T x = nI 3 ∧ kd T y = nI 3 ∧ Q' = Q ++ [(pt T x 0, pt T y 0)] ++ [(pt T x 1, pt T y 1)] ∧ z' (pb + 6) = z (pb + 6)) ∧ (∀ j, j ≠ 23 → j ≠ 24 → j ≠ 25 → j ≠ pb + 6 → z' j = z j) := by
  have hpn := hp.ne
  have hT1 := hW.1
  have other : ∀ z' : fS, z' (pb + 6) keep = z (pb + 6) keep ∨ z' (pb + 6) keep = z (pb + 6) lose → (∀ r, r ≠ keep → z' (pb + 6) r = z (pb + 6) r) → ((z' (pb + 6) keep = -1 ∧ ∀ t, t < k → mg ro keep lose t = keep → kd T t ≠ nI 3) ∨ ∃ x, z' (pb + 6) keep = nI x ∧ x < k ∧ mg ro keep lose x = keep ∧ kd T x = nI 3) → RwI T pb k (mg ro keep lose) z' := by
    intro z' _ hr hkk r hr1 hr2
    rcases (mg_root h3 h5).mp hr2 with ⟨c1, c2⟩ | ⟨_, _, f⟩
    · by_cases e : r = keep
      · subst e; exact hkk
      · rw [hr r e]
        rcases hR r hr1 c1 with ⟨d1, d2⟩ | ⟨x, d1, d2, d3, d4⟩
        · exact Or.inl ⟨d1, fun t ht h => d2 t ht ((mg_in h3 h5 e c2).mp h)⟩
        · exact Or.inr ⟨x, d1, d2, (mg_in h3 h5 e c2).mpr d3, d4⟩
    · exact f.elim
  rcases hR keep h1 h3 with ⟨x1, x2⟩ | ⟨x, x1, x2, x3, x4⟩
  · refine ⟨wrr z (pb + 6) (upd (z (pb + 6)) keep (z (pb + 6) lose)), Q, ?_, ?_, ?_, Or.inl ⟨rfl, Or.inl ⟨x1, wrr_e⟩⟩, fun j c1 c2 c3 c4 => wrr_n c4⟩
    · unfold fX4_uniteRows
      simp (disch := omega) only [inb_t, gd_t, rd_nI, bnd_s, x1, if_true, wr_nI]
    · refine other _ (Or.inr (by rw [wrr_e, upd_e])) (fun r hr => by rw [wrr_e, upd_n hr]) ?_
      rw [wrr_e, upd_e]
      rcases hR lose h2 h4 with ⟨y1, y2⟩ | ⟨y, y1, y2, y3, y4⟩
      · refine Or.inl ⟨y1, fun t ht h => ?_⟩
        rcases (mg_keep h5).mp h with h | h
        · exact x2 t ht h
        · exact y2 t ht h
      · exact Or.inr ⟨y, y1, y2, (mg_keep h5).mpr (Or.inr y3), y4⟩
    · unfold HA
      simp (disch := omega) only [wrr_n]
      exact hA
  · rcases hR lose h2 h4 with ⟨y1, y2⟩ | ⟨y, y1, y2, y3, y4⟩
    · refine ⟨z, Q, ?_, ?_, hA, Or.inl ⟨rfl, Or.inr ⟨y1, rfl⟩⟩, fun j _ _ _ _ => rfl⟩
      · unfold fX4_uniteRows
        simp (disch := omega) only [inb_t, gd_t, rd_nI, bnd_s, x1, y1, litm, nI_m1n, if_false, if_true]
      · exact other _ (Or.inl rfl) (fun r hr => rfl) (Or.inr ⟨x, x1, x2, (mg_keep h5).mpr (Or.inl x3), x4⟩)
    · have sx : sz T x = 2 := (hW.2 x (by omega)).2.2.1 x4
      have sy : sz T y = 2 := (hW.2 y (by omega)).2.2.1 y4
      have px0 := hT.part (t := x) (i := 0) (by omega) (by omega) (by omega)
      have py0 := hT.part (t := y) (i := 0) (by omega) (by omega) (by omega)
      have px1 := hT.part (t := x) (i := 1) (by omega) (by omega) (by omega)
      have py1 := hT.part (t := y) (i := 1) (by omega) (by omega) (by omega)
      obtain ⟨z1, e1, e2, e3⟩ := putPair_ok (a := pt T x 0) (b := pt T y 0) hA (by omega)
      obtain ⟨z2, f1, f2, f3⟩ := putPair_ok (a := pt T x 1) (b := pt T y 1) e2 (by simp; omega)
      have g5 : z1 5 = z 5 := e3 5 (by omega) (by omega) (by omega)
      have g6 : z2 (pb + 6) = z (pb + 6) := (f3 _ (by omega) (by omega) (by omega)).trans (e3 _ (by omega) (by omega) (by omega))
      refine ⟨z2, _, ?_, ?_, f2, Or.inr ⟨x, y, x1, y1, x2, y2, x3, y3, x4, y4, rfl, g6⟩, fun j c1 c2 c3 _ => (f3 j c1 c2 c3).trans (e3 j c1 c2 c3)⟩
      · unfold fX4_uniteRows
        simp only [Nat.add_zero] at px0 py0
        simp (disch := omega) only [inb_t, gd_t, rd_nI, bnd_s, x1, y1, litm, nI_m1n, if_false, lit, nI_mul, nI_add, px0, py0, e1, bp_s, g5, px1, py1, f1]
      · exact other _ (Or.inl (by rw [g6])) (fun r hr => by rw [g6]) (Or.inr ⟨x, by rw [g6]; exact x1, x2, (mg_keep h5).mpr (Or.inl x3), x4⟩)
end ROWS
/-! hashes -/
def hx5 (a b c d e : Int32) : Int32 := ((((((((a * (31 : Int32)) + b) * (127 : Int32)) + c) * (127 : Int32)) + d) * (127 : Int32)) + e)
def hsh (a b c d e : Int32) : Int32 := ((hx5 a b c d e * (-1640531535 : Int32)).toUInt32 >>> ((25 : Int32).toUInt32 &&& Int32.toUInt32 31)).toInt32
theorem nI_ofBV (x : Int32) : x = nI x.toBitVec.toNat := by
  apply Int32.toBitVec_inj.1
  apply BitVec.eq_of_toNat_eq
  have h : x.toBitVec.toNat < 2 ^ 32 := x.toBitVec.isLt
  rw [pk_tn h]
theorem hsh_lt (a b c d e : Int32) : ∃ h, h < 128 ∧ hsh a b c d e = nI h := by
  refine ⟨(hsh a b c d e).toBitVec.toNat, ?_, nI_ofBV _⟩
  unfold hsh
  rw [pk_ushr _ _ 25 (by decide)]
  have h : ∀ x : Int32, x.toBitVec.toNat < 2 ^ 32 := fun x => x.toBitVec.isLt
  have := h (hx5 a b c d e * (-1640531535 : Int32))
  omega
theorem slotFor_ok (z : fS) (a b c d e : Int32) : fX8_slotFor z a b c d e = some (hsh a b c d e) := by
  unfold fX8_slotFor hsh hx5
  rw [bnd_s]
/-! the table -/
def HH (pb k : Nat) (z : fS) : Prop :=
  (∀ u, u < k → z (pb + 9) u = -1 ∨ ∃ s, s < 128 ∧ z (pb + 9) u = nI s) ∧ (∀ s, s < 128 → ∃ l, Lst (z (pb + 8)) (z (pb + 7) s) l ∧ l.Nodup ∧ ∀ u, u ∈ l ↔ u < k ∧ z (pb + 9) u = nI s)
/-- one cell less of a chain -/
theorem Lst.cut {nx : Nat → Int32} {x : Nat} : ∀ {l1 : List Nat} {p : Nat} {l2 : List Nat} {h : Int32}, Lst nx h (l1 ++ p :: x :: l2) → (l1 ++ p :: x :: l2).Nodup → Lst (upd nx p (nx x)) h (l1 ++ p :: l2)
  | [], p, l2, h, hL, hn => by
    simp only [List.nil_append] at hL hn ⊢
    obtain ⟨h1, h2, h3⟩ := hL
    refine ⟨h1, ?_⟩
    rw [upd_e]
    have hn1 := (List.nodup_cons.mp hn).1
    exact h3.ext fun y hy => upd_n (fun e => hn1 (e ▸ List.mem_cons_of_mem _ hy))
  | y :: l1, p, l2, h, hL, hn => by
    simp only [List.cons_append] at hL hn ⊢
    have hn1 := (List.nodup_cons.mp hn).1
    have hyp : y ≠ p := fun e => hn1 (by rw [e]; simp)
    refine ⟨hL.1, ?_⟩
    rw [upd_n hyp]
    exact Lst.cut hL.2 (List.nodup_cons.mp hn).2
section TAB
variable {T : List Tm} {pb k : Nat} {ro : Nat → Nat} {Q : List (Nat × Nat)} {C : List Nat} {z : fS}
theorem takeOut_loop {t : Nat} (ht : t < 120) : ∀ (l1 : List Nat) (p : Nat) (l2 : List Nat) (h : Int32) (s N : Nat), Lst (z (pb + 8)) h (l1 ++ p :: t :: l2) → (∀ x, x ∈ l1 ++ p :: t :: l2 → x < 120) → (l1 ++ p :: t :: l2).Nodup → s + l1.length < 120 → l1.length < N → lX4_takeOut_53 pb z (nI t) N h (nI s) = some (wrr z (pb + 8) (upd (z (pb + 8)) p (z (pb + 8) t)))
  | [], p, l2, h, s, N, hL, hb, hn, hs, hN => by
    obtain ⟨N, rfl⟩ : ∃ M, N = M + 1 := ⟨N - 1, by omega⟩
    simp only [List.nil_append] at hL hb hn
    obtain ⟨rfl, h2, h3⟩ := hL
    have hp := hb p List.mem_cons_self
    simp only [List.length_nil] at hs
    rw [lX4_takeOut_53.eq_2]
    simp (disch := omega) only [lit, litm, nI_leI, if_neg, nI_m1n, if_false, inb_t, gd_t, rd_nI, h2, if_true, bnd_s, wr_nI]
  | y :: l1, p, l2, h, s, N, hL, hb, hn, hs, hN => by
    obtain ⟨N, rfl⟩ : ∃ M, N = M + 1 := ⟨N - 1, by omega⟩
    simp only [List.cons_append] at hL hb hn
    simp only [List.length_cons] at hs hN
    obtain ⟨rfl, hL⟩ := hL
    have hy := hb y List.mem_cons_self
    have ih := takeOut_loop ht l1 p l2 (z (pb + 8) y) (s + 1) N hL (fun x hx => hb x (List.mem_cons_of_mem _ hx)) (List.nodup_cons.mp hn).2 (by omega) (by omega)
    -- the next one isn't t
    have hnt : ∃ w, z (pb + 8) y = nI w ∧ w < 120 ∧ w ≠ t := by
      cases l1 with
      | nil =>
        simp only [List.nil_append] at hL hn
        refine ⟨p, hL.1, hb p (by simp), fun e => ?_⟩
        have := (List.nodup_cons.mp (List.nodup_cons.mp hn).2).1
        exact this (by rw [e]; simp)
      | cons w l1 =>
        simp only [List.cons_append] at hL hn
        refine ⟨w, hL.1, hb w (by simp), fun e => ?_⟩
        have := (List.nodup_cons.mp (List.nodup_cons.mp hn).2).1
        exact this (by rw [e]; simp)
    obtain ⟨w, w1, w2, w3⟩ := hnt
    rw [w1] at ih
    rw [lX4_takeOut_53.eq_2]
    simp (disch := omega) only [lit, litm, nI_leI, if_neg, nI_m1n, if_false, inb_t, gd_t, rd_nI, w1, nI_eq, bnd_s, nI_add]
    exact ih
theorem takeOut_ok {t : Nat} (hp : isPb pb) (hk : k ≤ 120) (hH : HH pb k z) (ht : t < k) : ∃ z', fX4_takeOut pb z (nI t) = some z' ∧ HH pb k z' ∧ z' (pb + 9) = upd (z (pb + 9)) t (-1) ∧ (∀ j, j ≠ pb + 7 → j ≠ pb + 8 → j ≠ pb + 9 → z' j = z j) := by
  have hpn := hp.ne
  rcases hH.1 t ht with h | ⟨s, hs, h⟩
  · refine ⟨z, ?_, hH, ?_, fun _ _ _ _ => rfl⟩
    · unfold fX4_takeOut
      simp (disch := omega) only [inb_t, gd_t, rd_nI, h, bnd_s, if_true]
    · rw [← h, upd_id]
  · obtain ⟨l, l1, l2, l3⟩ := hH.2 s hs
    have hm : t ∈ l := (l3 t).mpr ⟨ht, h⟩
    have hb : ∀ x, x ∈ l → x < 120 := fun x hx => by have := ((l3 x).mp hx).1; omega
    have hlen : l.length ≤ 120 := nodup_lt l2 hb
    -- other buckets
    have oth : ∀ (s' : Nat), s' < 128 → s' ≠ s → ∃ l', Lst (z (pb + 8)) (z (pb + 7) s') l' ∧ l'.Nodup ∧ (∀ u, u ∈ l' ↔ u < k ∧ upd (z (pb + 9)) t (-1) u = nI s') ∧ ∀ x, x ∈ l → x ∉ l' := by
      intro s' hs' hne
      obtain ⟨l', a1, a2, a3⟩ := hH.2 s' hs'
      refine ⟨l', a1, a2, fun u => ?_, fun x hx hx' => ?_⟩
      · rw [a3 u]
        by_cases e : u = t
        · subst e
          rw [upd_e, h]
          constructor
          · rintro ⟨_, q⟩; exact absurd ((nI_eq (by omega) (by omega)).mp q).symm hne
          · rintro ⟨_, q⟩; exact absurd q.symm (nI_m1 (by omega))
        · rw [upd_n e]
      · have e1 := ((l3 x).mp hx).2
        have e2 := ((a3 x).mp hx').2
        rw [e1] at e2
        exact hne ((nI_eq (by omega) (by omega)).mp e2).symm
    have slots : ∀ u, u < k → upd (z (pb + 9)) t (-1) u = -1 ∨ ∃ s, s < 128 ∧ upd (z (pb + 9)) t (-1) u = nI s := by
      intro u hu
      by_cases e : u = t
      · subst e; rw [upd_e]; exact Or.inl rfl
      · rw [upd_n e]; exact hH.1 u hu
    obtain ⟨la, lb, hl⟩ := List.append_of_mem hm
    subst hl
    have memE : ∀ u, (u ∈ la ∨ u ∈ lb) ↔ u < k ∧ upd (z (pb + 9)) t (-1) u = nI s := by
      intro u
      have hu := l3 u
      have hnd := List.nodup_append.mp l2
      by_cases e : u = t
      · subst e
        rw [upd_e]
        constructor
        · rintro (q | q)
          · exact absurd rfl (hnd.2.2 u q u List.mem_cons_self)
          · exact absurd q (List.nodup_cons.mp hnd.2.1).1
        · rintro ⟨_, q⟩; exact absurd q.symm (nI_m1 (by omega))
      · rw [upd_n e, ← hu]
        simp [e]
    cases la with
    | nil =>
      simp only [List.nil_append] at l1 l2 l3 hb memE
      obtain ⟨b1, b2⟩ := l1
      refine ⟨wrr (wrr z (pb + 9) (upd (z (pb + 9)) t (-1))) (pb + 7) (upd (z (pb + 7)) s (z (pb + 8) t)), ?_, ⟨?_, ?_⟩, ?_, ?_⟩
      · unfold fX4_takeOut
        simp (disch := omega) only [inb_t, gd_t, rd_nI, h, bnd_s, litm, nI_m1n, if_false, wr_nI, wrr_n, b1, if_true]
      · intro u hu
        simp (disch := omega) only [wrr_n, wrr_e]
        exact slots u hu
      · intro s' hs'
        simp (disch := omega) only [wrr_n, wrr_e]
        by_cases e : s' = s
        · subst e
          rw [upd_e]
          exact ⟨lb, b2, (List.nodup_cons.mp l2).2, fun u => by rw [← memE u]; simp⟩
        · rw [upd_n e]
          obtain ⟨l', c1, c2, c3, c4⟩ := oth s' hs' e
          exact ⟨l', c1, c2, c3⟩
      · simp (disch := omega) only [wrr_n, wrr_e]
      · intro j c1 c2 c3
        simp (disch := omega) only [wrr_n]
    | cons x la =>
      -- the cell ahead of t
      obtain ⟨l0, p, hlp⟩ : ∃ l0 p, x :: la = l0 ++ [p] := ⟨(x :: la).dropLast, (x :: la).getLast (by simp), (List.dropLast_concat_getLast (by simp)).symm⟩
      rw [hlp] at l1 l2 l3 hb hm memE hlen
      simp only [List.append_assoc, List.singleton_append] at l1 l2 l3 hb hm
      have hxt : x ≠ t := by
        intro e
        have hnd := List.nodup_append.mp (show ((x :: la) ++ t :: lb).Nodup by rw [hlp]; simpa using l2)
        exact hnd.2.2 x List.mem_cons_self t List.mem_cons_self e
      have hxh : z (pb + 7) s = nI x := by
        have : Lst (z (pb + 8)) (z (pb + 7) s) ((x :: la) ++ t :: lb) := by rw [hlp]; simpa using l1
        exact this.1
      have hx120 : x < 120 := hb x (by
        have : x ∈ (x :: la) ++ t :: lb := by simp
        rw [hlp] at this; simpa using this)
      have lp := takeOut_loop (z := wrr z (pb + 9) (upd (z (pb + 9)) t (-1))) (pb := pb) (show t < 120 by omega) l0 p lb (z (pb + 7) s) 0 FU (by rw [wrr_n (by omega)]; exact l1) hb l2 (by simp at hlen; omega) (by have := FU_ge; simp at hlen; omega)
      rw [wrr_n (show pb + 8 ≠ pb + 9 by omega), hxh] at lp
      refine ⟨wrr (wrr z (pb + 9) (upd (z (pb + 9)) t (-1))) (pb + 8) (upd (z (pb + 8)) p (z (pb + 8) t)), ?_, ⟨?_, ?_⟩, ?_, ?_⟩
      · unfold fX4_takeOut
        simp (disch := omega) only [inb_t, gd_t, rd_nI, h, bnd_s, litm, nI_m1n, if_false, wr_nI, wrr_n, hxh, nI_eq, if_neg, lit]
        exact lp
      · intro u hu
        simp (disch := omega) only [wrr_n, wrr_e]
        exact slots u hu
      · intro s' hs'
        simp (disch := omega) only [wrr_n, wrr_e]
        by_cases e : s' = s
        · subst e
          refine ⟨l0 ++ p :: lb, Lst.cut l1 l2, ?_, fun u => ?_⟩
          · have hnd := List.nodup_append.mp l2
            refine List.nodup_append.mpr ⟨hnd.1, ?_, fun a ha b hb' => ?_⟩
            · have h2 := List.nodup_cons.mp hnd.2.1
              exact List.nodup_cons.mpr ⟨fun q => h2.1 (List.mem_cons_of_mem _ q), (List.nodup_cons.mp h2.2).2⟩
            · refine hnd.2.2 a ha b ?_
              rcases List.mem_cons.mp hb' with rfl | hb'
              · exact List.mem_cons_self
              · exact List.mem_cons_of_mem _ (List.mem_cons_of_mem _ hb')
          · rw [← memE u]
            simp [or_assoc]
        · obtain ⟨l', c1, c2, c3, c4⟩ := oth s' hs' e
          refine ⟨l', c1.ext fun y hy => ?_, c2, c3⟩
          have hpy : y ≠ p := by
            intro e2
            refine c4 p ?_ (e2 ▸ hy)
            rw [hlp]; simp
          rw [upd_n hpy]
      · simp (disch := omega) only [wrr_n, wrr_e]
      · intro j c1 c2 c3
        simp (disch := omega) only [wrr_n]
end TAB
