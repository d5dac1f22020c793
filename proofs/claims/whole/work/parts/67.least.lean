/-! least: sets of sayings, in their order -/
def pl (tk : Nat → Bool) : Nat → List Nat
  | 0 => []
  | n + 1 => if tk n = true then pl tk n ++ [n] else pl tk n
theorem pl_t {tk : Nat → Bool} {n : Nat} (h : tk n = true) : pl tk (n + 1) = pl tk n ++ [n] := if_pos h
theorem pl_f {tk : Nat → Bool} {n : Nat} (h : tk n = false) : pl tk (n + 1) = pl tk n := if_neg (by rw [h]; simp)
theorem pl_len {tk : Nat → Bool} : ∀ n, (pl tk n).length = cnt tk n
  | 0 => rfl
  | n + 1 => by
    rw [cnt_s]
    cases h : tk n
    · rw [pl_f h, pl_len n]; simp
    · rw [pl_t h, List.length_append, pl_len n]; simp
theorem pl_mem {tk : Nat → Bool} {s : Nat} : ∀ {n}, s ∈ pl tk n → s < n ∧ tk s = true
  | 0, h => by cases h
  | n + 1, h => by
    cases q : tk n
    · rw [pl_f q] at h
      have := pl_mem h
      exact ⟨by omega, this.2⟩
    · rw [pl_t q] at h
      rcases List.mem_append.mp h with h | h
      · have := pl_mem h
        exact ⟨by omega, this.2⟩
      · have e : s = n := by simpa using h
        subst e
        exact ⟨by omega, q⟩
theorem pl_get {tk : Nat → Bool} {n k : Nat} (h : k < cnt tk n) : (pl tk n).getD k 0 < n ∧ tk ((pl tk n).getD k 0) = true := pl_mem (gD_mem (by rw [pl_len]; exact h))
/-- a choice of m among n, in rising order -/
def Cb (n m : Nat) (c : Nat → Nat) : Prop := (∀ i j, i < j → j < m → c i < c j) ∧ ∀ i, i < m → c i < n
def Lx (m : Nat) (c d : Nat → Nat) : Prop := ∃ k, k < m ∧ (∀ j, j < k → c j = d j) ∧ c k < d k
def Ist (L : List Nat) (m : Nat) (c : Nat → Nat) : Nat → Prop := fun s => ∃ k, k < m ∧ s = L.getD (c k) 0
section CBN
variable {n m : Nat} {c d : Nat → Nat} {L : List Nat} {P : (Nat → Prop) → Prop}
theorem Cb.up (h : Cb n m c) {i : Nat} : ∀ (e : Nat), i + e < m → c i + e ≤ c (i + e)
  | 0, _ => Nat.le_refl _
  | e + 1, he => by
    have h1 := h.up e (i := i) (by omega)
    have h2 := h.1 (i + e) (i + (e + 1)) (by omega) he
    omega
theorem Cb.top (h : Cb n m c) {i : Nat} (hi : i < m) : c i + m ≤ n + i := by
  have h1 := h.up (i := i) (m - 1 - i) (by omega)
  have h2 := h.2 (m - 1) (by omega)
  rw [show i + (m - 1 - i) = m - 1 by omega] at h1
  omega
theorem lx_tri (c d : Nat → Nat) : ∀ m, (∀ j, j < m → c j = d j) ∨ Lx m c d ∨ Lx m d c
  | 0 => Or.inl fun j hj => by omega
  | m + 1 => by
    rcases lx_tri c d m with h | ⟨k, k1, k2, k3⟩ | ⟨k, k1, k2, k3⟩
    · rcases Nat.lt_trichotomy (c m) (d m) with q | q | q
      · exact Or.inr (Or.inl ⟨m, by omega, h, q⟩)
      · refine Or.inl fun j hj => ?_
        rcases Nat.eq_or_lt_of_le (Nat.le_of_lt_succ hj) with rfl | hj
        · exact q
        · exact h j hj
      · exact Or.inr (Or.inr ⟨m, by omega, fun j hj => (h j hj).symm, q⟩)
    · exact Or.inr (Or.inl ⟨k, by omega, k2, k3⟩)
    · exact Or.inr (Or.inr ⟨k, by omega, k2, k3⟩)
theorem Ist.cong (h : ∀ j, j < m → c j = d j) : Ist L m c = Ist L m d := by
  funext s
  refine propext ⟨?_, ?_⟩
  · rintro ⟨k, k1, k2⟩; exact ⟨k, k1, by rw [← h k k1]; exact k2⟩
  · rintro ⟨k, k1, k2⟩; exact ⟨k, k1, by rw [h k k1]; exact k2⟩
theorem Ist.s {i : Nat} : Ist L (i + 1) c = (fun t => Ist L i c t ∨ t = L.getD (c i) 0) := by
  funext t
  refine propext ⟨?_, ?_⟩
  · rintro ⟨k, k1, k2⟩
    rcases Nat.eq_or_lt_of_le (Nat.le_of_lt_succ k1) with rfl | k1
    · exact Or.inr k2
    · exact Or.inl ⟨k, k1, k2⟩
  · rintro (⟨k, k1, k2⟩ | h)
    · exact ⟨k, by omega, k2⟩
    · exact ⟨i, by omega, h⟩
def NoB (P : (Nat → Prop) → Prop) (L : List Nat) (n m : Nat) (c : Nat → Nat) : Prop := ∀ d, Cb n m d → Lx m d c → ¬ P (Ist L m d)
def NoA (P : (Nat → Prop) → Prop) (L : List Nat) (n m : Nat) : Prop := ∀ d, Cb n m d → ¬ P (Ist L m d)
theorem noB_first : NoB P L n m (fun j => j) := by
  rintro d hd ⟨k, k1, k2, k3⟩
  have h := hd.up (i := 0) k (by omega)
  rw [Nat.zero_add] at h
  have : d k < k := k3
  omega
theorem cb_first (h : m ≤ n) : Cb n m (fun j => j) := ⟨fun _ _ h _ => h, fun i hi => by show i < n; omega⟩
theorem cb_cases (h : Cb n m c) : (∀ i, i < m → c i + m = n + i) ∨ ∃ i, i < m ∧ c i + m < n + i ∧ ∀ j, i < j → j < m → c j + m = n + j := by
  have key : ∀ e, e ≤ m → (∀ i, m - e ≤ i → i < m → c i + m = n + i) ∨ ∃ i, i < m ∧ c i + m < n + i ∧ ∀ j, i < j → j < m → c j + m = n + j := by
    intro e
    induction e with
    | zero => intro _; exact Or.inl fun i h1 h2 => by omega
    | succ e ih =>
      intro he
      rcases ih (by omega) with q | q
      · have t := h.top (i := m - (e + 1)) (by omega)
        rcases Nat.eq_or_lt_of_le t with t | t
        · refine Or.inl fun i h1 h2 => ?_
          rcases Nat.eq_or_lt_of_le h1 with h1 | h1
          · rw [← h1]; exact t
          · exact q i (by omega) h2
        · exact Or.inr ⟨m - (e + 1), by omega, t, fun j h1 h2 => q j (by omega) h2⟩
      · exact Or.inr q
  rcases key m (Nat.le_refl m) with q | q
  · exact Or.inl fun i hi => q i (by omega) hi
  · exact Or.inr q
def nxc (c : Nat → Nat) (i : Nat) : Nat → Nat := fun j => if j < i then c j else c i + 1 + (j - i)
theorem nxc_l {i j : Nat} (h : j < i) : nxc c i j = c j := if_pos h
theorem nxc_r {i j : Nat} (h : i ≤ j) : nxc c i j = c i + 1 + (j - i) := if_neg (by omega)
theorem cb_next (h : Cb n m c) {i : Nat} (hi : i < m) (h1 : c i + m < n + i) : Cb n m (nxc c i) := by
  refine ⟨fun j k hj hk => ?_, fun j hj => ?_⟩
  · rcases Nat.lt_or_ge k i with q | q
    · rw [nxc_l q, nxc_l (by omega)]; exact h.1 j k hj hk
    · rw [nxc_r q]
      rcases Nat.lt_or_ge j i with q2 | q2
      · rw [nxc_l q2]
        have := h.1 j i q2 hi
        omega
      · rw [nxc_r q2]; omega
  · rcases Nat.lt_or_ge j i with q | q
    · rw [nxc_l q]; exact h.2 j hj
    · rw [nxc_r q]; omega
theorem noB_eq (hB : NoB P L n m c) (hn : ¬ P (Ist L m c)) {d : Nat → Nat} (hd : Cb n m d) (h : ¬ Lx m c d) : ¬ P (Ist L m d) := by
  rcases lx_tri d c m with q | q | q
  · rw [Ist.cong q]; exact hn
  · exact hB d hd q
  · exact absurd q h
theorem noB_next {i : Nat} (h1 : ∀ j, i < j → j < m → c j + m = n + j) (hB : NoB P L n m c) (hn : ¬ P (Ist L m c)) : NoB P L n m (nxc c i) := by
  rintro d hd ⟨k, k1, k2, k3⟩
  refine noB_eq hB hn hd ?_
  rintro ⟨l, l1, l2, l3⟩
  rcases Nat.lt_trichotomy k i with q | q | q
  · rw [nxc_l q] at k3
    rcases Nat.lt_trichotomy k l with r | r | r
    · have := l2 k r; omega
    · subst r; omega
    · have := k2 l r
      rw [nxc_l (by omega)] at this
      omega
  · subst q
    rw [nxc_r (Nat.le_refl _)] at k3
    rcases Nat.lt_trichotomy k l with r | r | r
    · have t := hd.top l1
      have := h1 l r l1
      omega
    · subst r; omega
    · have := k2 l r
      rw [nxc_l (by omega)] at this
      omega
  · have e := k2 i q
    rw [nxc_r (Nat.le_refl _)] at e
    rw [nxc_r (by omega)] at k3
    have u := hd.up (i := i) (k - i) (by omega)
    rw [show i + (k - i) = k by omega] at u
    omega
theorem noA_last (h1 : ∀ i, i < m → c i + m = n + i) (hB : NoB P L n m c) (hn : ¬ P (Ist L m c)) : NoA P L n m := by
  intro d hd
  refine noB_eq hB hn hd ?_
  rintro ⟨l, l1, l2, l3⟩
  have t := hd.top l1
  have := h1 l l1
  omega
def dlc (c : Nat → Nat) (k : Nat) : Nat → Nat := fun j => if j < k then c j else c (j + 1)
theorem cb_del (h : Cb n (m + 1) c) {k : Nat} : Cb n m (dlc c k) := by
  refine ⟨fun i j hi hj => ?_, fun i hi => ?_⟩
  · unfold dlc
    by_cases q1 : i < k
    · by_cases q2 : j < k
      · rw [if_pos q1, if_pos q2]; exact h.1 _ _ hi (by omega)
      · rw [if_pos q1, if_neg q2]; exact h.1 _ _ (by omega) (by omega)
    · rw [if_neg q1, if_neg (by omega)]; exact h.1 _ _ (by omega) (by omega)
  · unfold dlc
    by_cases q : i < k
    · rw [if_pos q]; exact h.2 _ (by omega)
    · rw [if_neg q]; exact h.2 _ (by omega)
theorem Ist.del {k : Nat} (hk : k < m + 1) : Ist L (m + 1) c = (fun t => Ist L m (dlc c k) t ∨ t = L.getD (c k) 0) := by
  funext t
  refine propext ⟨?_, ?_⟩
  · rintro ⟨j, j1, j2⟩
    rcases Nat.lt_trichotomy j k with q | q | q
    · exact Or.inl ⟨j, by omega, by unfold dlc; rw [if_pos q]; exact j2⟩
    · subst q; exact Or.inr j2
    · refine Or.inl ⟨j - 1, by omega, ?_⟩
      unfold dlc
      rw [if_neg (by omega), show j - 1 + 1 = j by omega]
      exact j2
  · rintro (⟨j, j1, j2⟩ | h)
    · unfold dlc at j2
      by_cases q : j < k
      · rw [if_pos q] at j2; exact ⟨j, by omega, j2⟩
      · rw [if_neg q] at j2; exact ⟨j + 1, by omega, j2⟩
    · exact ⟨k, hk, h⟩
end CBN
/-- a saying that can help two to be one -/
noncomputable def hpB (T : List Tm) (S : List Sy) (s : Nat) : Bool := @decide (sm S s = true ∧ ¬ One T T.length (fun _ _ => False) (sa S s) (sb S s)) (Classical.propDecidable _)
section XLE
variable {T : List Tm} {S : List Sy} {tk : Nat → Bool} {z z' : fS} {ps pt n m : Nat} {c : Nat → Nat} {L : List Nat} {a b : Nat} {ro : Nat → Nat}
theorem hpB_t {s : Nat} (h1 : sm S s = true) (h2 : ¬ One T T.length (fun _ _ => False) (sa S s) (sb S s)) : hpB T S s = true := by unfold hpB; exact @decide_eq_true _ (Classical.propDecidable _) ⟨h1, h2⟩
theorem hpB_f {s : Nat} (h : ¬ (sm S s = true ∧ ¬ One T T.length (fun _ _ => False) (sa S s) (sb S s))) : hpB T S s = false := by unfold hpB; exact @decide_eq_false _ (Classical.propDecidable _) h
theorem hpB_i {s : Nat} (h : hpB T S s = true) : sm S s = true ∧ ¬ One T T.length (fun _ _ => False) (sa S s) (sb S s) := @of_decide_eq_true _ (Classical.propDecidable _) h
theorem hpB_n {s : Nat} (h : hpB T S s = false) : ¬ (sm S s = true ∧ ¬ One T T.length (fun _ _ => False) (sa S s) (sb S s)) := @of_decide_eq_false _ (Classical.propDecidable _) h
def Pol (T : List Tm) (S : List Sy) (tk : Nat → Bool) (i : Nat) (z : fS) : Prop := ∀ k, k < cnt tk i → z 20 k = nI ((pl tk i).getD k 0) ∧ z 21 k = bI (hpB T S ((pl tk i).getD k 0))
theorem pol_step {i : Nat} (ht : tk i = true) (h : Pol T S tk i z) {v : Int32} (hv : v = bI (hpB T S i)) : Pol T S tk (i + 1) (wrr (wrr z 20 (upd (z 20) (cnt tk i) (nI i))) 21 (upd (z 21) (cnt tk i) v)) := by
  intro k hk
  rw [cnt_s, ht] at hk
  simp at hk
  rw [pl_t ht]
  rcases Nat.eq_or_lt_of_le (Nat.le_of_lt_succ hk) with rfl | hk
  · have e : (pl tk i ++ [i]).getD (cnt tk i) 0 = i := by rw [← pl_len]; exact gD_r
    rw [e, wrr_e, upd_e, wrr_n (by omega), wrr_e, upd_e]
    exact ⟨rfl, hv⟩
  · rw [gD_l (by rw [pl_len]; exact hk), wrr_e, upd_n (by omega), wrr_n (by omega), wrr_e, upd_n (by omega)]
    exact h k hk
theorem pool_loop (hW : WT T) (hS : WS T.length S) : ∀ (d i N : Nat) (z : fS), i + d = S.length → d < N → XSy S tk z → JI T (fun _ _ => False) 28 T.length ro [] [] z → Pol T S tk i z → ∃ z', lX2_fillPool_4 N (nI (cnt tk i)) (nI i) z = some (nI (cnt tk S.length), z') ∧ Pol T S tk S.length z' ∧ (∀ j, j ≠ 20 → j ≠ 21 → z' j = z j) := by
  have hl := hS.1
  intro d
  induction d with
  | zero =>
    intro i N z hi hN hx hj hp
    obtain ⟨N, rfl⟩ : ∃ M, N = M + 1 := ⟨N - 1, by omega⟩
    have e : i = S.length := by omega
    subst e
    refine ⟨z, ?_, hp, fun _ _ _ => rfl⟩
    rw [lX2_fillPool_4.eq_2]
    simp (disch := omega) only [scount_ok hx, bp_s, nI_leI, if_pos]
  | succ d ih =>
    intro i N z hi hN hx hj hp
    obtain ⟨N, rfl⟩ : ∃ M, N = M + 1 := ⟨N - 1, by omega⟩
    rw [lX2_fillPool_4.eq_2]
    have hc := scount_ok hx
    have i1 := isTaken_ok hx (show i < 100 by omega)
    have hcn := cnt_le tk i
    cases q1 : tk i
    · rw [q1, bI_f] at i1
      have hp' : Pol T S tk (i + 1) z := by
        intro k hk
        rw [cnt_s, q1] at hk
        rw [pl_f q1]
        exact hp k (by simpa using hk)
      obtain ⟨z', e1, e2⟩ := ih (i + 1) N z (by omega) (by omega) hx hj hp'
      refine ⟨z', ?_, e2⟩
      rw [cnt_s, q1] at e1
      simp (disch := omega) only [hc, bp_s, nI_leI, if_neg, lit, i1, if_true, bnd_s, nI_add]
      simpa using e1
    · rw [q1, bI_t] at i1
      have hz : XSy S tk (wrr z 20 (upd (z 20) (cnt tk i) (nI i))) := hx.fr fun j h1 h2 => wrr_n (by omega)
      have hzj : JI T (fun _ _ => False) 28 T.length ro [] [] (wrr z 20 (upd (z 20) (cnt tk i) (nI i))) := hj.fr fun j h1 => wrr_n (by omega)
      have i2 := isSame_ok hz hl (show i < S.length by omega)
      have i3 := left_ok hz hl (show i < S.length by omega)
      have i4 := right_ok hz hl (show i < S.length by omega)
      obtain ⟨r, i5, i6⟩ := isOne_ok hW hzj (hS.2 i (by omega)).1 (hS.2 i (by omega)).2
      have go : ∀ v, v = bI (hpB T S i) → ∃ z', lX2_fillPool_4 N (nI (cnt tk i + 1)) (nI (i + 1)) (wrr (wrr z 20 (upd (z 20) (cnt tk i) (nI i))) 21 (upd (z 21) (cnt tk i) v)) = some (nI (cnt tk S.length), z') ∧ Pol T S tk S.length z' ∧ (∀ j, j ≠ 20 → j ≠ 21 → z' j = z j) := by
        intro v hv
        obtain ⟨z', e1, e2, e3⟩ := ih (i + 1) N _ (by omega) (by omega) (hz.fr fun j h1 h2 => wrr_n (by omega)) (hzj.fr fun j h1 => wrr_n (by omega)) (pol_step q1 hp hv)
        refine ⟨z', ?_, e2, fun j h1 h2 => by rw [e3 j h1 h2, wrr_n h2, wrr_n h1]⟩
        rw [cnt_s, q1] at e1
        simpa using e1
      cases q2 : sm S i
      · rw [q2, bI_f] at i2
        obtain ⟨z', e1, e2⟩ := go (nI 0) (by rw [hpB_f (fun h => by rw [q2] at h; exact absurd h.1 (by simp)), bI_f])
        refine ⟨z', ?_, e2⟩
        simp (disch := omega) only [hc, bp_s, nI_leI, if_neg, lit, i1, nI_eq, inb_t, gd_t, bnd_s, wr_nI, i2, if_true, zb_0, wrr_n, nI_add]
        exact e1
      · rw [q2, bI_t] at i2
        rcases i6 with ⟨rfl, i6⟩ | ⟨rfl, i6⟩
        · obtain ⟨z', e1, e2⟩ := go (nI 0) (by rw [hpB_f (fun h => h.2 i6), bI_f])
          refine ⟨z', ?_, e2⟩
          simp (disch := omega) only [hc, bp_s, nI_leI, if_neg, lit, i1, nI_eq, inb_t, gd_t, bnd_s, wr_nI, i2, i3, i4, i5, if_true, zb_0, wrr_n, nI_add]
          exact e1
        · obtain ⟨z', e1, e2⟩ := go (nI 1) (by rw [hpB_t q2 i6, bI_t])
          refine ⟨z', ?_, e2⟩
          simp (disch := omega) only [hc, bp_s, nI_leI, if_neg, lit, i1, nI_eq, inb_t, gd_t, bnd_s, wr_nI, i2, i3, i4, i5, if_true, zb_1, wrr_n, nI_add]
          exact e1
theorem fillPool_ok (hW : WT T) (hS : WS T.length S) (hk : XTk T S tk ps pt z) : ∃ z', fX2_fillPool z = some (nI (cnt tk S.length), z') ∧ Pol T S tk S.length z' ∧ (∀ j, j ≠ 20 → j ≠ 21 → z' j = z j) := by
  obtain ⟨_, hx, ro, hj⟩ := hk
  have h := pool_loop hW hS S.length 0 FU z (by omega) (by have := FU_ge; have := hS.1; omega) hx hj (fun k hk => by simp [cnt] at hk)
  unfold fX2_fillPool
  exact h
theorem help_loop (hm : m ≤ 100) (hn : n ≤ 100) {hp : Nat → Bool} (h1 : ∀ k, k < n → z 21 k = bI (hp k)) (h2 : ∀ k, k < m → z 22 k = nI (c k)) (hc : ∀ k, k < m → c k < n) {k32 : Option (Int32 × fS)} {v2 v3 : Int32} : ∀ (d i N : Nat), i + d = m → d < N → (lX2_isOneByPicks_3 k32 z (nI m) v2 v3 N (nI i) = k32 ∧ ∀ k, i ≤ k → k < m → hp (c k) = true) ∨ ∃ k, k < m ∧ hp (c k) = false ∧ lX2_isOneByPicks_3 k32 z (nI m) v2 v3 N (nI i) = some (nI 0, z) := by
  intro d
  induction d with
  | zero =>
    intro i N hi hN
    obtain ⟨N, rfl⟩ : ∃ M, N = M + 1 := ⟨N - 1, by omega⟩
    refine Or.inl ⟨?_, fun k q1 q2 => by omega⟩
    rw [lX2_isOneByPicks_3.eq_2]
    simp (disch := omega) only [nI_leI, if_pos]
  | succ d ih =>
    intro i N hi hN
    obtain ⟨N, rfl⟩ : ∃ M, N = M + 1 := ⟨N - 1, by omega⟩
    have e2 := h2 i (by omega)
    have ec := hc i (by omega)
    have e1 := h1 (c i) ec
    rw [lX2_isOneByPicks_3.eq_2]
    cases q : hp (c i)
    · rw [q, bI_f] at e1
      refine Or.inr ⟨i, by omega, q, ?_⟩
      simp (disch := omega) only [nI_leI, if_neg, inb_t, gd_t, rd_nI, e2, e1, lit, if_true]
    · rw [q, bI_t] at e1
      simp (disch := omega) only [nI_leI, if_neg, inb_t, gd_t, rd_nI, e2, e1, lit, nI_eq, bnd_s, nI_add]
      rcases ih (i + 1) N (by omega) (by omega) with ⟨e3, e4⟩ | e3
      · refine Or.inl ⟨e3, fun k q1 q2 => ?_⟩
        rcases Nat.eq_or_lt_of_le q1 with rfl | q1
        · exact q
        · exact e4 k q1 q2
      · exact Or.inr e3
theorem pjoin_loop (hW : WT T) (hS : WS T.length S) (hcon : ¬ Cl T T.length (EX S (TK tk) none) (UX S (TK tk) none)) (ha : a < T.length) (hb : b < T.length) (hm : m ≤ 100) (hn : n ≤ 100) (hL : ∀ k, k < n → L.getD k 0 < S.length ∧ tk (L.getD k 0) = true) (hc : ∀ k, k < m → c k < n ∧ sm S (L.getD (c k) 0) = true) : ∀ (d i N : Nat) (ro : Nat → Nat) (z : fS), i + d = m → d < N → Pq ps pt z → XSy S tk z → (∀ k, k < n → z 20 k = nI (L.getD k 0)) → (∀ k, k < m → z 22 k = nI (c k)) → JI T (EX S (Ist L i c) none) pt T.length ro [] [] z → ∃ r z', lX2_isOneByPicks_46 (nI m) (nI a) (nI b) N (nI i) z = some (nI r, z') ∧ ((r = 1 ∧ One T T.length (EX S (Ist L m c) none) a b) ∨ (r = 0 ∧ ¬ One T T.length (EX S (Ist L m c) none) a b)) ∧ HA [] [] z' ∧ (∀ j, ¬ (23 ≤ j ∧ j ≤ 27) → ¬ (pt ≤ j ∧ j ≤ pt + 9) → z' j = z j) := by
  have hl := hS.1
  intro d
  induction d with
  | zero =>
    intro i N ro z hi hN hq hx h20 h22 h
    obtain ⟨N, rfl⟩ : ∃ M, N = M + 1 := ⟨N - 1, by omega⟩
    have e : i = m := by omega
    subst e
    obtain ⟨r, e1, e2⟩ := isOne_ok hW h ha hb
    refine ⟨r, z, ?_, e2, h.agenda, fun _ _ _ => rfl⟩
    rw [lX2_isOneByPicks_46.eq_2]
    have hr : isb (nI r) = true := by rcases e2 with ⟨rfl, _⟩ | ⟨rfl, _⟩; exact isb_1; exact isb_0
    simp (disch := omega) only [nI_leI, if_pos, hq.2.1, e1, bp_s, hr, gd_t]
  | succ d ih =>
    intro i N ro z hi hN hq hx h20 h22 h
    have hnu := hq.num
    obtain ⟨N, rfl⟩ : ∃ M, N = M + 1 := ⟨N - 1, by omega⟩
    have ec := hc i (by omega)
    have e22 := h22 i (by omega)
    have e20 := h20 (c i) ec.1
    have eL := hL (c i) ec.1
    have i3 := left_ok hx hl eL.1
    have i4 := right_ok hx hl eL.1
    obtain ⟨z1, b1, ⟨b4, b5⟩, b3⟩ := join_ok hq.isT (Nat.le_refl _) hW h (hS.2 _ eL.1).1 (hS.2 _ eL.1).2
    have e' := EX_step (S := S) (x := none) (J := Ist L i c) eL.1 ec.2
    rw [e', ← Ist.s] at b5
    rcases b5 with ⟨ro1, b5⟩ | ⟨_, u, v, u1, u2, u3, u4, u5, u6⟩
    · obtain ⟨r, z', e1, e2, e3, e4⟩ := ih (i + 1) N ro1 z1 (by omega) (by omega) (hq.fr (b3 17 (by omega) (by omega))) (hx.fr fun j h1 h2 => b3 j (by omega) (by omega)) (by rw [b3 20 (by omega) (by omega)]; exact h20) (by rw [b3 22 (by omega) (by omega)]; exact h22) b5
      refine ⟨r, z', ?_, e2, e3, fun j h1 h2 => (e4 j h1 h2).trans (b3 j h1 h2)⟩
      rw [lX2_isOneByPicks_46.eq_2]
      simp (disch := omega) only [nI_leI, if_neg, inb_t, gd_t, rd_nI, e22, e20, bnd_s, i3, i4, bp_s, hq.2.1, b1, lit, nI_add]
      exact e1
    · refine absurd (Or.inr ⟨u, v, u1, u2, u3, u4, u5, u6.mono fun _ _ q => EX_mono ?_ q⟩) hcon
      rintro s ⟨k, k1, rfl⟩
      exact (hL (c k) (hc k (by omega)).1).2
def XPk (m : Nat) (c : Nat → Nat) (z : fS) : Prop := ∀ k, k < m → z 22 k = nI (c k)
theorem picks_ok (hW : WT T) (hS : WS T.length S) (ht : ∀ s, tk s = true → s < S.length) (hcon : ¬ Cl T T.length (EX S (TK tk) none) (UX S (TK tk) none)) (ha : a < T.length) (hb : b < T.length) (hk : XTk T S tk ps pt z) (hp : Pol T S tk S.length z) (h2 : XPk m c z) (hc : Cb (cnt tk S.length) m c) (hm : m ≤ cnt tk S.length) : ∃ r z', fX2_isOneByPicks z (nI m) (nI a) (nI b) = some (nI r, z') ∧ ((r = 1 ∧ One T T.length (EX S (Ist (pl tk S.length) m c) none) a b) ∨ (r = 0 ∧ ((∃ k, k < m ∧ hpB T S ((pl tk S.length).getD (c k) 0) = false) ∨ ¬ One T T.length (EX S (Ist (pl tk S.length) m c) none) a b))) ∧ HA [] [] z' ∧ (∀ j, ¬ (23 ≤ j ∧ j ≤ 27) → ¬ (pt ≤ j ∧ j ≤ pt + 9) → z' j = z j) := by
  have hl := hS.1
  have hcl := cnt_le tk S.length
  obtain ⟨hq, hx, ro, hj⟩ := hk
  have hnu := hq.num
  unfold fX2_isOneByPicks
  rcases help_loop (n := cnt tk S.length) (hp := fun k => hpB T S ((pl tk S.length).getD k 0)) (by omega) (by omega) (fun k hk => (hp k hk).2) h2 hc.2 (k32 := jX2_isOneByPicks_32 z (nI m) (nI a) (nI b)) (v2 := nI a) (v3 := nI b) m 0 FU (by omega) (by have := FU_ge; omega) with ⟨e1, e2⟩ | ⟨k, k1, k2, k3⟩
  · obtain ⟨z1, a1, a2, a3⟩ := copyFrom_ok hq.isT (Or.inl rfl) (by omega) hj
    rw [show (fun _ _ => False) = EX S (Ist (pl tk S.length) 0 c) none from (EX_no (fun s h => by obtain ⟨k, k1, _⟩ := h; omega)).symm] at a2
    obtain ⟨r, z2, c1, c2, c3, c4⟩ := pjoin_loop (n := cnt tk S.length) (c := c) (m := m) hW hS hcon ha hb (by omega) (by omega) (fun k hk => pl_get hk) (fun k hk => ⟨hc.2 k hk, (hpB_i (e2 k (by omega) hk)).1⟩) m 0 FU ro z1 (by omega) (by have := FU_ge; omega) (hq.fr (a3 17 (by omega))) (hx.fr fun j h1 h2 => a3 j (by omega)) (by rw [a3 20 (by omega)]; exact fun k hk => (hp k hk).1) (by rw [a3 22 (by omega)]; exact h2) a2
    refine ⟨r, z2, ?_, ?_, c3, fun j h1 h2 => (c4 j h1 h2).trans (a3 j h2)⟩
    · simp only [lit]
      rw [e1]
      unfold jX2_isOneByPicks_32
      simp only [hq.2.1, a1, bp_s, lit]
      exact c1
    · rcases c2 with c2 | ⟨c2, c5⟩
      · exact Or.inl c2
      · exact Or.inr ⟨c2, Or.inr c5⟩
  · refine ⟨0, z, ?_, Or.inr ⟨rfl, Or.inl ⟨k, k1, k2⟩⟩, hj.agenda, fun _ _ _ => rfl⟩
    simp only [lit]
    exact k3
/-- one that cannot help may be left out -/
theorem nohelp {k : Nat} (hk : k < m + 1) (h : hpB T S (L.getD (c k) 0) = false) (hP : One T T.length (EX S (Ist L (m + 1) c) none) a b) : One T T.length (EX S (Ist L m (dlc c k)) none) a b := by
  have h := hpB_n h
  rw [Ist.del hk] at hP
  cases q : sm S (L.getD (c k) 0)
  · rw [EX_skip q] at hP
    exact hP
  · have ho : One T T.length (fun _ _ => False) (sa S (L.getD (c k) 0)) (sb S (L.getD (c k) 0)) := Classical.byContradiction fun hn => h ⟨q, hn⟩
    exact One.step (ho.mono fun _ _ e => e.elim) hP
end XLE
section NXT
variable {n m : Nat} {c : Nat → Nat} {z : fS}
theorem scanX {k28 : Int32 → Option (Int32 × fS)} (hm : m ≤ n) (hn : n ≤ 100) (h2 : ∀ k, k < m → z 22 k = nI (c k)) (hc : ∀ k, k < m → c k + m ≤ n + k) {e : Nat} (h4 : e = 0 ∨ c (e - 1) + m < n + (e - 1)) : ∀ (d i N : Nat), i = e + d → i ≤ m → d < N → (∀ j, e ≤ j → j < i → c j + m = n + j) → lX2_pickNext_4 k28 z (nI m) (nI n) N (pI i) = k28 (pI e) := by
  intro d
  induction d with
  | zero =>
    intro i N hi him hN h3
    obtain ⟨N, rfl⟩ : ∃ M, N = M + 1 := ⟨N - 1, by omega⟩
    have ei : i = e := by omega
    subst ei
    rw [lX2_pickNext_4.eq_2]
    rcases Nat.eq_zero_or_pos i with q | q
    · subst q
      simp only [pI_0, lit, m1_lt0, if_true]
    · obtain ⟨i, rfl⟩ : ∃ M, i = M + 1 := ⟨i - 1, by omega⟩
      have e2 := h2 i (by omega)
      have h4 := h4.resolve_left (by omega)
      rw [Nat.add_sub_cancel] at h4
      simp (disch := omega) only [pI_s, Nat.add_sub_cancel, lit, nI_ltI, if_neg, inb_t, gd_t, rd_nI, e2, nI_sub, nI_add, if_pos]
  | succ d ih =>
    intro i N hi him hN h3
    obtain ⟨N, rfl⟩ : ∃ M, N = M + 1 := ⟨N - 1, by omega⟩
    obtain ⟨i, rfl⟩ : ∃ M, i = M + 1 := ⟨i - 1, by omega⟩
    have e2 := h2 i (by omega)
    have e3 := h3 i (by omega) (by omega)
    have e4 := hc i (by omega)
    have hih := ih i N (by omega) (by omega) (by omega) fun j h1 h2 => h3 j h1 (by omega)
    rw [lX2_pickNext_4.eq_2]
    simp (disch := omega) only [pI_s, Nat.add_sub_cancel, lit, litm, nI_ltI, if_neg, inb_t, gd_t, rd_nI, e2, nI_sub, nI_add, pI_dec, bnd_s]
    exact hih
theorem fillX {i0 : Nat} (hm : m ≤ 100) : ∀ (d j N : Nat) (z : fS), j + d = m → d < N → i0 < j → (∀ k, k < j → z 22 k = nI (nxc c i0 k)) → ∃ z', lX2_pickNext_49 (nI m) N (nI j) z = some (nI 1, z') ∧ (∀ k, k < m → z' 22 k = nI (nxc c i0 k)) ∧ (∀ k, k ≠ 22 → z' k = z k) := by
  intro d
  induction d with
  | zero =>
    intro j N z hj hN hi h
    obtain ⟨N, rfl⟩ : ∃ M, N = M + 1 := ⟨N - 1, by omega⟩
    have e : j = m := by omega
    subst e
    refine ⟨z, ?_, h, fun _ _ => rfl⟩
    rw [lX2_pickNext_49.eq_2]
    simp (disch := omega) only [nI_leI, if_pos, lit]
  | succ d ih =>
    intro j N z hj hN hi h
    obtain ⟨N, rfl⟩ : ∃ M, N = M + 1 := ⟨N - 1, by omega⟩
    have e1 := h (j - 1) (by omega)
    have e2 : nxc c i0 (j - 1) + 1 = nxc c i0 j := by rw [nxc_r (by omega), nxc_r (by omega)]; omega
    obtain ⟨z', g1, g2, g3⟩ := ih (j + 1) N (wrr z 22 (upd (z 22) j (nI (nxc c i0 j)))) (by omega) (by omega) (by omega) (fun k hk => by
      rw [wrr_e]
      by_cases q : k = j
      · rw [q, upd_e]
      · rw [upd_n q]; exact h k (by omega))
    refine ⟨z', ?_, g2, fun k hk => (g3 k hk).trans (wrr_n hk)⟩
    rw [lX2_pickNext_49.eq_2]
    simp (disch := omega) only [nI_leI, if_neg, lit, nI_sub, inb_t, gd_t, rd_nI, e1, nI_add, e2, wr_nI, bnd_s]
    exact g1
theorem nextX_0 (hm : m ≤ n) (hn : n ≤ 100) (h2 : ∀ k, k < m → z 22 k = nI (c k)) (h : ∀ i, i < m → c i + m = n + i) : fX2_pickNext z (nI m) (nI n) = some (nI 0, z) := by
  have e := scanX (k28 := jX2_pickNext_28 z (nI m)) hm hn h2 (fun k hk => Nat.le_of_eq (h k hk)) (e := 0) (Or.inl rfl) m m FU (by omega) (Nat.le_refl _) (by have := FU_ge; omega) fun j _ hj => h j hj
  unfold fX2_pickNext
  simp only [lit, pI_sub, bnd_s]
  rw [e]
  unfold jX2_pickNext_28
  simp (disch := omega) only [pI_0, lit, m1_le0, if_false]
theorem nextX_1 (hm : m ≤ n) (hn : n ≤ 100) (h2 : ∀ k, k < m → z 22 k = nI (c k)) (hc : Cb n m c) {i0 : Nat} (hi : i0 < m) (h : c i0 + m < n + i0) (h3 : ∀ j, i0 < j → j < m → c j + m = n + j) : ∃ z', fX2_pickNext z (nI m) (nI n) = some (nI 1, z') ∧ (∀ k, k < m → z' 22 k = nI (nxc c i0 k)) ∧ (∀ k, k ≠ 22 → z' k = z k) := by
  have e := scanX (k28 := jX2_pickNext_28 z (nI m)) hm hn h2 (fun k hk => hc.top hk) (e := i0 + 1) (Or.inr (by rw [Nat.add_sub_cancel]; exact h)) (m - (i0 + 1)) m FU (by omega) (Nat.le_refl _) (by have := FU_ge; omega) fun j hj hj2 => h3 j (by omega) hj2
  have e2 := h2 i0 hi
  obtain ⟨z', g1, g2, g3⟩ := fillX (c := c) (i0 := i0) (m := m) (by omega) (m - (i0 + 1)) (i0 + 1) FU (wrr z 22 (upd (z 22) i0 (nI (c i0 + 1)))) (by omega) (by have := FU_ge; omega) (by omega) (fun k hk => by
    rw [wrr_e]
    by_cases q : k = i0
    · rw [q, upd_e, nxc_r (Nat.le_refl _)]; congr 1; omega
    · rw [upd_n q, nxc_l (by omega)]; exact h2 k (by omega))
  refine ⟨z', ?_, g2, fun k hk => (g3 k hk).trans (wrr_n hk)⟩
  unfold fX2_pickNext
  simp only [lit, pI_sub, bnd_s]
  rw [e]
  unfold jX2_pickNext_28
  simp (disch := omega) only [pI_s, Nat.add_sub_cancel, lit, nI_leI, if_pos, inb_t, gd_t, rd_nI, e2, nI_add, wr_nI, bnd_s]
  exact g1
theorem firstX {v1 v2 v3 v5 v6 : Int32} {v4 : Nat} {k50 : fS → Option (Int32 × fS)} (hm : m ≤ 100) : ∀ (d j N : Nat) (z : fS), j + d = m → d < N → (∀ k, k < j → z 22 k = nI k) → ∃ z', lX2_findFewest_28 v4 k50 v1 v2 v3 v5 v6 (nI m) N (nI j) z = k50 z' ∧ (∀ k, k < m → z' 22 k = nI k) ∧ (∀ k, k ≠ 22 → z' k = z k) := by
  intro d
  induction d with
  | zero =>
    intro j N z hj hN h
    obtain ⟨N, rfl⟩ : ∃ M, N = M + 1 := ⟨N - 1, by omega⟩
    have e : j = m := by omega
    subst e
    refine ⟨z, ?_, h, fun _ _ => rfl⟩
    rw [lX2_findFewest_28.eq_2]
    simp (disch := omega) only [nI_leI, if_pos]
  | succ d ih =>
    intro j N z hj hN h
    obtain ⟨N, rfl⟩ : ∃ M, N = M + 1 := ⟨N - 1, by omega⟩
    obtain ⟨z', g1, g2, g3⟩ := ih (j + 1) N (wrr z 22 (upd (z 22) j (nI j))) (by omega) (by omega) (fun k hk => by
      rw [wrr_e]
      by_cases q : k = j
      · rw [q, upd_e]
      · rw [upd_n q]; exact h k (by omega))
    refine ⟨z', ?_, g2, fun k hk => (g3 k hk).trans (wrr_n hk)⟩
    rw [lX2_findFewest_28.eq_2]
    simp (disch := omega) only [nI_leI, if_neg, inb_t, gd_t, wr_nI, bnd_s, lit, nI_add]
    exact g1
theorem scanM {k28 : Int32 → Option (Int32 × fS)} (hm : m ≤ n) (hn : n ≤ 100) (h2 : ∀ k, k < m → z 23 k = nI (c k)) (hc : ∀ k, k < m → c k + m ≤ n + k) {e : Nat} (h4 : e = 0 ∨ c (e - 1) + m < n + (e - 1)) : ∀ (d i N : Nat), i = e + d → i ≤ m → d < N → (∀ j, e ≤ j → j < i → c j + m = n + j) → lX9_nextSet_4 k28 z (nI n) (nI m) N (pI i) = k28 (pI e) := by
  intro d
  induction d with
  | zero =>
    intro i N hi him hN h3
    obtain ⟨N, rfl⟩ : ∃ M, N = M + 1 := ⟨N - 1, by omega⟩
    have ei : i = e := by omega
    subst ei
    rw [lX9_nextSet_4.eq_2]
    rcases Nat.eq_zero_or_pos i with q | q
    · subst q
      simp only [pI_0, lit, m1_lt0, if_true]
    · obtain ⟨i, rfl⟩ : ∃ M, i = M + 1 := ⟨i - 1, by omega⟩
      have e2 := h2 i (by omega)
      have h4 := h4.resolve_left (by omega)
      rw [Nat.add_sub_cancel] at h4
      simp (disch := omega) only [pI_s, Nat.add_sub_cancel, lit, nI_ltI, if_neg, inb_t, gd_t, rd_nI, e2, nI_sub, nI_add, nI_eq]
  | succ d ih =>
    intro i N hi him hN h3
    obtain ⟨N, rfl⟩ : ∃ M, N = M + 1 := ⟨N - 1, by omega⟩
    obtain ⟨i, rfl⟩ : ∃ M, i = M + 1 := ⟨i - 1, by omega⟩
    have e2 := h2 i (by omega)
    have e3 := h3 i (by omega) (by omega)
    have e4 := hc i (by omega)
    have hih := ih i N (by omega) (by omega) (by omega) fun j h1 h2 => h3 j h1 (by omega)
    rw [lX9_nextSet_4.eq_2]
    simp (disch := omega) only [pI_s, Nat.add_sub_cancel, lit, litm, nI_ltI, if_neg, inb_t, gd_t, rd_nI, e2, nI_sub, nI_add, nI_eq, if_pos, pI_dec, bnd_s]
    exact hih
theorem fillM {i0 : Nat} (hm : m ≤ 100) : ∀ (d j N : Nat) (z : fS), j + d = m → d < N → i0 < j → (∀ k, k < j → z 23 k = nI (nxc c i0 k)) → ∃ z', lX9_nextSet_49 (nI m) N (nI j) z = some (nI 1, z') ∧ (∀ k, k < m → z' 23 k = nI (nxc c i0 k)) ∧ (∀ k, k ≠ 23 → z' k = z k) := by
  intro d
  induction d with
  | zero =>
    intro j N z hj hN hi h
    obtain ⟨N, rfl⟩ : ∃ M, N = M + 1 := ⟨N - 1, by omega⟩
    have e : j = m := by omega
    subst e
    refine ⟨z, ?_, h, fun _ _ => rfl⟩
    rw [lX9_nextSet_49.eq_2]
    simp (disch := omega) only [nI_leI, if_pos, lit]
  | succ d ih =>
    intro j N z hj hN hi h
    obtain ⟨N, rfl⟩ : ∃ M, N = M + 1 := ⟨N - 1, by omega⟩
    have e1 := h (j - 1) (by omega)
    have e2 : nxc c i0 (j - 1) + 1 = nxc c i0 j := by rw [nxc_r (by omega), nxc_r (by omega)]; omega
    obtain ⟨z', g1, g2, g3⟩ := ih (j + 1) N (wrr z 23 (upd (z 23) j (nI (nxc c i0 j)))) (by omega) (by omega) (by omega) (fun k hk => by
      rw [wrr_e]
      by_cases q : k = j
      · rw [q, upd_e]
      · rw [upd_n q]; exact h k (by omega))
    refine ⟨z', ?_, g2, fun k hk => (g3 k hk).trans (wrr_n hk)⟩
    rw [lX9_nextSet_49.eq_2]
    simp (disch := omega) only [nI_leI, if_neg, lit, nI_sub, inb_t, gd_t, rd_nI, e1, nI_add, e2, wr_nI, bnd_s]
    exact g1
theorem nextM_0 (hm : m ≤ n) (hn : n ≤ 100) (h2 : ∀ k, k < m → z 23 k = nI (c k)) (h : ∀ i, i < m → c i + m = n + i) : fX9_nextSet z (nI n) (nI m) = some (nI 0, z) := by
  have e := scanM (k28 := jX9_nextSet_28 z (nI m)) hm hn h2 (fun k hk => Nat.le_of_eq (h k hk)) (e := 0) (Or.inl rfl) m m FU (by omega) (Nat.le_refl _) (by have := FU_ge; omega) fun j _ hj => h j hj
  unfold fX9_nextSet
  simp only [lit, pI_sub, bnd_s]
  rw [e]
  unfold jX9_nextSet_28
  simp (disch := omega) only [pI_0, lit, m1_le0, if_false]
theorem nextM_1 (hm : m ≤ n) (hn : n ≤ 100) (h2 : ∀ k, k < m → z 23 k = nI (c k)) (hc : Cb n m c) {i0 : Nat} (hi : i0 < m) (h : c i0 + m < n + i0) (h3 : ∀ j, i0 < j → j < m → c j + m = n + j) : ∃ z', fX9_nextSet z (nI n) (nI m) = some (nI 1, z') ∧ (∀ k, k < m → z' 23 k = nI (nxc c i0 k)) ∧ (∀ k, k ≠ 23 → z' k = z k) := by
  have e := scanM (k28 := jX9_nextSet_28 z (nI m)) hm hn h2 (fun k hk => hc.top hk) (e := i0 + 1) (Or.inr (by rw [Nat.add_sub_cancel]; exact h)) (m - (i0 + 1)) m FU (by omega) (Nat.le_refl _) (by have := FU_ge; omega) fun j hj hj2 => h3 j (by omega) hj2
  have e2 := h2 i0 hi
  obtain ⟨z', g1, g2, g3⟩ := fillM (c := c) (i0 := i0) (m := m) (by omega) (m - (i0 + 1)) (i0 + 1) FU (wrr z 23 (upd (z 23) i0 (nI (c i0 + 1)))) (by omega) (by have := FU_ge; omega) (by omega) (fun k hk => by
    rw [wrr_e]
    by_cases q : k = i0
    · rw [q, upd_e, nxc_r (Nat.le_refl _)]; congr 1; omega
    · rw [upd_n q, nxc_l (by omega)]; exact h2 k (by omega))
  refine ⟨z', ?_, g2, fun k hk => (g3 k hk).trans (wrr_n hk)⟩
  unfold fX9_nextSet
  simp only [lit, pI_sub, bnd_s]
  rw [e]
  unfold jX9_nextSet_28
  simp (disch := omega) only [pI_s, Nat.add_sub_cancel, lit, nI_leI, if_pos, inb_t, gd_t, rd_nI, e2, nI_add, wr_nI, bnd_s]
  exact g1
theorem firstM {v1 v2 v4 v5 : Int32} {k50 : fS → Option (Int32 × fS)} (hm : m ≤ 100) : ∀ (d j N : Nat) (z : fS), j + d = m → d < N → (∀ k, k < j → z 23 k = nI k) → ∃ z', lX9_least_109 k50 v1 v2 v4 v5 (nI m) N (nI j) z = k50 z' ∧ (∀ k, k < m → z' 23 k = nI k) ∧ (∀ k, k ≠ 23 → z' k = z k) := by
  intro d
  induction d with
  | zero =>
    intro j N z hj hN h
    obtain ⟨N, rfl⟩ : ∃ M, N = M + 1 := ⟨N - 1, by omega⟩
    have e : j = m := by omega
    subst e
    refine ⟨z, ?_, h, fun _ _ => rfl⟩
    rw [lX9_least_109.eq_2]
    simp (disch := omega) only [nI_leI, if_pos]
  | succ d ih =>
    intro j N z hj hN h
    obtain ⟨N, rfl⟩ : ∃ M, N = M + 1 := ⟨N - 1, by omega⟩
    obtain ⟨z', g1, g2, g3⟩ := ih (j + 1) N (wrr z 23 (upd (z 23) j (nI j))) (by omega) (by omega) (fun k hk => by
      rw [wrr_e]
      by_cases q : k = j
      · rw [q, upd_e]
      · rw [upd_n q]; exact h k (by omega))
    refine ⟨z', ?_, g2, fun k hk => (g3 k hk).trans (wrr_n hk)⟩
    rw [lX9_least_109.eq_2]
    simp (disch := omega) only [nI_leI, if_neg, inb_t, gd_t, wr_nI, bnd_s, lit, nI_add]
    exact g1
end NXT
section MLE
variable {T : List Tm} {S : List Sy} {tk : Nat → Bool} {z z' : fS} {n m : Nat} {c : Nat → Nat} {L : List Nat} {a b : Nat}
theorem clr_loop {k24 : fS → Option (Int32 × fS)} {v1 v2 v3 : Int32} : ∀ (d i N : Nat) (z : fS), i + d = 101 → d < N → (∀ s, s < i → z 21 s = nI 0) → ∃ z', lX9_isEnough_3 k24 v1 v2 v3 N (nI i) z = k24 z' ∧ (∀ s, s < 101 → z' 21 s = nI 0) ∧ (∀ j, j ≠ 21 → z' j = z j) := by
  intro d
  induction d with
  | zero =>
    intro i N z hi hN h
    obtain ⟨N, rfl⟩ : ∃ M, N = M + 1 := ⟨N - 1, by omega⟩
    refine ⟨z, ?_, fun s hs => h s (by omega), fun _ _ => rfl⟩
    rw [lX9_isEnough_3.eq_2]
    simp (disch := omega) only [lit, nI_ltI, if_pos]
  | succ d ih =>
    intro i N z hi hN h
    obtain ⟨N, rfl⟩ : ∃ M, N = M + 1 := ⟨N - 1, by omega⟩
    obtain ⟨z', g1, g2, g3⟩ := ih (i + 1) N (wrr z 21 (upd (z 21) i (nI 0))) (by omega) (by omega) (fun k hk => by
      rw [wrr_e]
      by_cases q : k = i
      · rw [q, upd_e]
      · rw [upd_n q]; exact h k (by omega))
    refine ⟨z', ?_, g2, fun k hk => (g3 k hk).trans (wrr_n hk)⟩
    rw [lX9_isEnough_3.eq_2]
    simp (disch := omega) only [lit, nI_ltI, if_neg, inb_t, gd_t, zb_0, wr_nI, bnd_s, nI_add]
    exact g1
theorem set_loop (hm : m ≤ 100) (hn : n ≤ 100) (hL : ∀ k, k < n → L.getD k 0 < 100) (hc : ∀ k, k < m → c k < n) {k57 : fS → Option (Int32 × fS)} {v2 v3 : Int32} : ∀ (d i N : Nat) (z : fS), i + d = m → d < N → (∀ k, k < n → z 22 k = nI (L.getD k 0)) → (∀ k, k < m → z 23 k = nI (c k)) → (∀ s, s < 100 → (Ist L i c s ∧ z 21 s = nI 1) ∨ (¬ Ist L i c s ∧ z 21 s = nI 0)) → z 21 100 = nI 0 → ∃ z', lX9_isEnough_27 k57 (nI m) v2 v3 N (nI i) z = k57 z' ∧ (∀ s, s < 100 → (Ist L m c s ∧ z' 21 s = nI 1) ∨ (¬ Ist L m c s ∧ z' 21 s = nI 0)) ∧ z' 21 100 = nI 0 ∧ (∀ j, j ≠ 21 → z' j = z j) := by
  intro d
  induction d with
  | zero =>
    intro i N z hi hN h22 h23 h h100
    obtain ⟨N, rfl⟩ : ∃ M, N = M + 1 := ⟨N - 1, by omega⟩
    have e : i = m := by omega
    subst e
    refine ⟨z, ?_, h, h100, fun _ _ => rfl⟩
    rw [lX9_isEnough_27.eq_2]
    simp (disch := omega) only [nI_leI, if_pos]
  | succ d ih =>
    intro i N z hi hN h22 h23 h h100
    obtain ⟨N, rfl⟩ : ∃ M, N = M + 1 := ⟨N - 1, by omega⟩
    have e23 := h23 i (by omega)
    have ec := hc i (by omega)
    have e22 := h22 (c i) ec
    have eL := hL (c i) ec
    obtain ⟨z', g1, g2, g3, g4⟩ := ih (i + 1) N (wrr z 21 (upd (z 21) (L.getD (c i) 0) (nI 1))) (by omega) (by omega) (by rw [wrr_n (by omega)]; exact h22) (by rw [wrr_n (by omega)]; exact h23) (fun s hs => by
      rw [wrr_e, Ist.s]
      by_cases q : s = L.getD (c i) 0
      · rw [q, upd_e]; exact Or.inl ⟨Or.inr rfl, rfl⟩
      · rw [upd_n q]
        rcases h s hs with ⟨h1, h2⟩ | ⟨h1, h2⟩
        · exact Or.inl ⟨Or.inl h1, h2⟩
        · exact Or.inr ⟨fun h => h.elim h1 q, h2⟩) (by rw [wrr_e, upd_n (by omega)]; exact h100)
    refine ⟨z', ?_, g2, g3, fun k hk => (g4 k hk).trans (wrr_n hk)⟩
    rw [lX9_isEnough_27.eq_2]
    simp (disch := omega) only [nI_leI, if_neg, inb_t, gd_t, rd_nI, e23, e22, lit, zb_1, wr_nI, bnd_s, nI_add]
    exact g1
theorem enough_ok (hW : WT T) (hS : WS T.length S) (h : RM T S tk z) (ha : a < T.length) (hb : b < T.length) (h22 : ∀ k, k < cnt tk S.length → z 22 k = nI ((pl tk S.length).getD k 0)) (h23 : ∀ k, k < m → z 23 k = nI (c k)) (hc : Cb (cnt tk S.length) m c) (hm : m ≤ cnt tk S.length) : ∃ r z', fX9_isEnough z (nI m) (nI a) (nI b) = some (nI r, z') ∧ ((r = 1 ∧ One T T.length (EX S (Ist (pl tk S.length) m c) none) a b) ∨ (r = 0 ∧ ¬ One T T.length (EX S (Ist (pl tk S.length) m c) none) a b)) ∧ RM T S tk z' ∧ (∀ j, j ≠ 0 → j ≠ 20 → j ≠ 21 → z' j = z j) ∧ (∀ f, f ≠ 30 → z' 0 f = z 0 f) := by
  have hl := hS.1
  have hn := hW.1
  have hcl := cnt_le tk S.length
  obtain ⟨h1, h2, h3⟩ := h
  obtain ⟨z1, a1, a2, a3⟩ := clr_loop (k24 := jX9_isEnough_24 (nI m) (nI a) (nI b)) (v1 := nI m) (v2 := nI a) (v3 := nI b) 101 0 FU z (by omega) (by have := FU_ge; omega) (fun s hs => by omega)
  obtain ⟨z2, b1, b2, b3, b4⟩ := set_loop (k57 := jX9_isEnough_57 (nI a) (nI b)) (v2 := nI a) (v3 := nI b) (m := m) (n := cnt tk S.length) (L := pl tk S.length) (c := c) (by omega) (by omega) (fun k hk => by have := (pl_get hk).1; omega) hc.2 m 0 FU z1 (by omega) (by have := FU_ge; omega) (by rw [a3 22 (by omega)]; exact h22) (by rw [a3 23 (by omega)]; exact h23) (fun s hs => Or.inr ⟨fun h => by obtain ⟨k, k1, _⟩ := h; omega, a2 s (by omega)⟩) (a2 100 (by omega))
  have e : ∀ j, j ≠ 21 → z2 j = z j := fun j hj => (b4 j hj).trans (a3 j hj)
  have hT2 : MT T z2 := h1.fr (by rw [e 0 (by omega)]) fun j g1 g2 => e j (by omega)
  have hS2 : MSy S tk z2 := h2.fr (by rw [e 0 (by omega)]) (fun j g1 g2 s hs => by rw [e j (by omega)]) hl
  have hX : MX S (Ist (pl tk S.length) m c) none z2 := by
    refine ⟨b2, ?_, Or.inl ⟨rfl, b3⟩⟩
    rintro s ⟨k, k1, rfl⟩
    exact (pl_get (hc.2 k k1)).1
  obtain ⟨z3, c1, ⟨on, c2, c3⟩, c4, c5⟩ := findOnes_ok hW hT2 (MI_of hS (fun _ _ _ q => by cases q) hS2 hX)
  have oa := c2 a ha
  have ob := c2 b hb
  have R : RM T S tk z3 := ⟨hT2.fr (by rw [c5, upd_n (by omega)]) fun j g1 g2 => c4 j (by omega) (by omega), hS2.fr (by rw [c5, upd_n (by omega)]) (fun j g1 g2 s hs => by rw [c4 j (by omega) (by omega)]) hl, Or.inl (by rw [c5, upd_e])⟩
  have f1 : ∀ j, j ≠ 0 → j ≠ 20 → j ≠ 21 → z3 j = z j := fun j g0 g1 g2 => (c4 j g1 g0).trans (e j g2)
  have f2 : ∀ f, f ≠ 30 → z3 0 f = z 0 f := fun f g => by rw [c5, upd_n g, e 0 (by omega)]
  have st : fX9_isEnough z (nI m) (nI a) (nI b) = if on a = on b then some (nI 1, z3) else some (nI 0, z3) := by
    unfold fX9_isEnough
    simp only [lit]
    rw [a1]
    unfold jX9_isEnough_24
    simp only [lit]
    rw [b1]
    unfold jX9_isEnough_57
    simp (disch := omega) only [c1, bp_s, inb_t, gd_t, rd_nI, oa.1, ob.1, nI_eq, lit]
  by_cases q : on a = on b
  · exact ⟨1, z3, by rw [st, if_pos q], Or.inl ⟨rfl, (c3 a b ha hb).mp q⟩, R, f1, f2⟩
  · exact ⟨0, z3, by rw [st, if_neg q], Or.inr ⟨rfl, fun h => q ((c3 a b ha hb).mpr h)⟩, R, f1, f2⟩
theorem mpool_loop (hS : WS T.length S) {k93 : Int32 → fS → Option (Int32 × fS)} {v1 v2 v3 : Int32} : ∀ (d i N : Nat) (z : fS), i + d = S.length → d < N → MSy S tk z → (∀ k, k < cnt tk i → z 22 k = nI ((pl tk i).getD k 0)) → ∃ z', lX9_least_56 k93 v1 v2 v3 N (nI (cnt tk i)) (nI i) z = k93 (nI (cnt tk S.length)) z' ∧ (∀ k, k < cnt tk S.length → z' 22 k = nI ((pl tk S.length).getD k 0)) ∧ (∀ j, j ≠ 22 → z' j = z j) := by
  have hl := hS.1
  intro d
  induction d with
  | zero =>
    intro i N z hi hN hM hp
    obtain ⟨N, rfl⟩ : ∃ M, N = M + 1 := ⟨N - 1, by omega⟩
    have e : i = S.length := by omega
    subst e
    refine ⟨z, ?_, hp, fun _ _ => rfl⟩
    rw [lX9_least_56.eq_2]
    simp (disch := omega) only [hM.1, nI_leI, if_pos]
  | succ d ih =>
    intro i N z hi hN hM hp
    obtain ⟨N, rfl⟩ : ∃ M, N = M + 1 := ⟨N - 1, by omega⟩
    rw [lX9_least_56.eq_2]
    have h0 := hM.1
    have i1 := (hM.2 i (by omega)).2.2.2
    have hcn := cnt_le tk i
    cases q1 : tk i
    · rw [q1, bI_f] at i1
      obtain ⟨z', e1, e2⟩ := ih (i + 1) N z (by omega) (by omega) hM (fun k hk => by
        rw [cnt_s, q1] at hk
        rw [pl_f q1]
        exact hp k (by simpa using hk))
      refine ⟨z', ?_, e2⟩
      rw [cnt_s, q1] at e1
      simp (disch := omega) only [h0, nI_leI, if_neg, inb_t, gd_t, rd_nI, i1, lit, if_true, bnd_s, nI_add]
      simpa using e1
    · rw [q1, bI_t] at i1
      obtain ⟨z', e1, e2, e3⟩ := ih (i + 1) N (wrr z 22 (upd (z 22) (cnt tk i) (nI i))) (by omega) (by omega) (hM.fr (by rw [wrr_n (by omega)]) (fun j g1 g2 s hs => by rw [wrr_n (by omega)]) hl) (fun k hk => by
        rw [cnt_s, q1] at hk
        simp at hk
        rw [pl_t q1, wrr_e]
        rcases Nat.eq_or_lt_of_le (Nat.le_of_lt_succ hk) with rfl | hk
        · have e : (pl tk i ++ [i]).getD (cnt tk i) 0 = i := by rw [← pl_len]; exact gD_r
          rw [e, upd_e]
        · rw [gD_l (by rw [pl_len]; exact hk), upd_n (by omega)]
          exact hp k hk)
      refine ⟨z', ?_, e2, fun j g1 => (e3 j g1).trans (wrr_n g1)⟩
      rw [cnt_s, q1] at e1
      simp (disch := omega) only [h0, nI_leI, if_neg, inb_t, gd_t, rd_nI, i1, lit, nI_eq, wr_nI, bnd_s, nI_add]
      simpa using e1
end MLE
