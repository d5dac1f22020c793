/-! what an instance is -/
def hix (tm : Tm) : Nat := hbit tm / 2
def imgs (g : Nat → List Tm → Option (Nat × List Tm)) : List Nat → List Tm → Option (List Nat × List Tm)
  | [], T => some ([], T)
  | p :: l, T => match g p T with
    | none => none
    | some (r, T1) => match imgs g l T1 with
      | none => none
      | some (rs, T2) => some (r :: rs, T2)
noncomputable def img (T0 : List Tm) (f : Nat → Nat) : Nat → Nat → List Tm → Option (Nat × List Tm)
  | 0, _, _ => none
  | n + 1, t, T => if hbit (gT T0 t) = 0 then (match imgs (img T0 f n) (pts T0 t) T with
      | none => none
      | some (l, T1) => mkT T1 (kd T0 t, sh T0 t, l)) else some (f (hix (gT T0 t)), T)
noncomputable def In (T0 : List Tm) (f : Nat → Nat) (t : Nat) (T : List Tm) : Option (Nat × List Tm) := img T0 f (t + 1) t T
def Gd (T0 T : List Tm) : Prop := (∃ R, T = T0 ++ R) ∧ WT T ∧ Uq T
theorem imgs_cong {g g' : Nat → List Tm → Option (Nat × List Tm)} : ∀ (l : List Nat) (T : List Tm), (∀ p, p ∈ l → ∀ T, g p T = g' p T) → imgs g l T = imgs g' l T
  | [], _, _ => rfl
  | p :: l, T, h => by
    unfold imgs
    rw [h p List.mem_cons_self T]
    cases g' p T with
    | none => rfl
    | some q =>
      obtain ⟨r, T1⟩ := q
      show (match imgs g l T1 with | none => none | some (rs, T2) => some (r :: rs, T2)) = (match imgs g' l T1 with | none => none | some (rs, T2) => some (r :: rs, T2))
      rw [imgs_cong l T1 fun p hp => h p (List.mem_cons_of_mem _ hp)]
section IMG
variable {T0 T T' : List Tm} {f : Nat → Nat} {t u r : Nat} {tm : Tm}
theorem pts_lt (hW : WT T0) (ht : t < T0.length) {p : Nat} (hp : p ∈ pts T0 t) : p < t := (hW.ok ht).2.1 p hp
theorem img_fuel (hW : WT T0) : ∀ (n m t : Nat) (T : List Tm), t < T0.length → t < n → t < m → img T0 f n t T = img T0 f m t T := by
  intro n
  induction n with
  | zero => intro m t T _ h; omega
  | succ n ih =>
    intro m t T ht h1 h2
    obtain ⟨m, rfl⟩ : ∃ M, m = M + 1 := ⟨m - 1, by omega⟩
    show (if hbit (gT T0 t) = 0 then _ else _) = (if hbit (gT T0 t) = 0 then _ else _)
    by_cases q : hbit (gT T0 t) = 0
    · rw [if_pos q, if_pos q, imgs_cong (g := img T0 f n) (g' := img T0 f m) (pts T0 t) T fun p hp T => ih m p T (by have := pts_lt hW ht hp; omega) (by have := pts_lt hW ht hp; omega) (by have := pts_lt hW ht hp; omega)]
    · rw [if_neg q, if_neg q]
theorem In_eq (hW : WT T0) (ht : t < T0.length) (q : hbit (gT T0 t) = 0) (T : List Tm) : In T0 f t T = match imgs (In T0 f) (pts T0 t) T with
    | none => none
    | some (l, T1) => mkT T1 (kd T0 t, sh T0 t, l) := by
  show (if hbit (gT T0 t) = 0 then _ else _) = _
  rw [if_pos q, imgs_cong (g := img T0 f t) (g' := In T0 f) (pts T0 t) T fun p hp T => by
    have := pts_lt hW ht hp
    exact img_fuel hW t (p + 1) p T (by omega) this (by omega)]
theorem In_hole (q : hbit (gT T0 t) ≠ 0) (T : List Tm) : In T0 f t T = some (f (hix (gT T0 t)), T) := by
  show (if hbit (gT T0 t) = 0 then _ else _) = _
  rw [if_neg q]
theorem hix_lt (tm : Tm) : hix tm < 3 := by
  unfold hix
  rcases hbit_cases tm with h | ⟨_, ⟨_, h⟩ | ⟨_, h⟩ | ⟨_, h⟩⟩ <;> omega
theorem hix_sub (q : hbit tm ≠ 0) : tm.2.1 - nI 90 = nI (hix tm) := by
  unfold hix
  rcases hbit_cases tm with h | ⟨_, ⟨e, h⟩ | ⟨e, h⟩ | ⟨e, h⟩⟩
  · exact absurd h q
  · rw [e, h, nI_sub (by omega)]
  · rw [e, h, nI_sub (by omega)]
  · rw [e, h, nI_sub (by omega)]
theorem mkT_good (h : Gd T0 T) (ho : OkT T.length tm) (e : mkT T tm = some (r, T')) : Gd T0 T' ∧ (∃ R, T' = T ++ R) ∧ r < T'.length ∧ gT T' r = tm := by
  obtain ⟨⟨R, hR⟩, hW, hU⟩ := h
  by_cases q : ∃ t, t < T.length ∧ gT T t = tm
  · obtain ⟨t, t1, t2⟩ := q
    rw [mkT_old hU t1 t2] at e
    cases e
    exact ⟨⟨⟨R, hR⟩, hW, hU⟩, ⟨[], by simp⟩, t1, t2⟩
  · have q' : ∀ t, t < T.length → gT T t ≠ tm := fun t h1 h2 => q ⟨t, h1, h2⟩
    by_cases w : T.length < 120
    · rw [mkT_new q' w] at e
      cases e
      refine ⟨⟨⟨R ++ [tm], by rw [hR, List.append_assoc]⟩, hW.add w ho, ?_⟩, ⟨[tm], rfl⟩, by simp, gT_r⟩
      intro a b ha hb hab
      have la : a ≤ T.length := by simp at ha; omega
      have lb : b ≤ T.length := by simp at hb; omega
      rcases Nat.eq_or_lt_of_le la with rfl | la
      · rcases Nat.eq_or_lt_of_le lb with rfl | lb
        · rfl
        · rw [gT_r, gT_l lb] at hab
          exact absurd hab.symm (q' b lb)
      · rcases Nat.eq_or_lt_of_le lb with rfl | lb
        · rw [gT_r, gT_l la] at hab
          exact absurd hab (q' a la)
        · rw [gT_l la, gT_l lb] at hab
          exact hU a b la lb hab
    · rw [mkT_full q' w] at e
      cases e
theorem Gd.le (h : Gd T0 T) : T0.length ≤ T.length := by
  obtain ⟨⟨R, rfl⟩, _⟩ := h
  simp
theorem Gd.gt (h : Gd T0 T) (ht : t < T0.length) : gT T t = gT T0 t := by
  obtain ⟨⟨R, rfl⟩, _⟩ := h
  exact gT_l ht
/-- what parts become is fit for what they are parts of -/
theorem okT_map (hW : WT T0) (ht : t < T0.length) {l : List Nat} {n : Nat} (hl : l.length = (pts T0 t).length) (hn : ∀ p, p ∈ l → p < n) : OkT n (kd T0 t, sh T0 t, l) := by
  obtain ⟨h1, h2, h3, h4, h5, h6⟩ := hW.ok ht
  refine ⟨?_, hn, ?_, ?_, ?_, ?_⟩
  · show l.length ≤ 3; rw [hl]; exact h1
  · intro e; show l.length = 2; rw [hl]; exact h3 e
  · intro e; show l.length = 2; rw [hl]; exact h4 e
  · intro e; show l.length = 0; rw [hl]; exact h5 e
  · intro e; show l.length = 0; rw [hl]; exact h6 e
theorem imgs_cons {g : Nat → List Tm → Option (Nat × List Tm)} {p : Nat} {l rs : List Nat} (h : imgs g (p :: l) T = some (rs, T')) : ∃ r rs' T1, g p T = some (r, T1) ∧ imgs g l T1 = some (rs', T') ∧ rs = r :: rs' := by
  unfold imgs at h
  cases q : g p T with
  | none => rw [q] at h; cases h
  | some w =>
    obtain ⟨r, T1⟩ := w
    rw [q] at h
    cases q2 : imgs g l T1 with
    | none => simp only [q2] at h; cases h
    | some w2 =>
      obtain ⟨rs', T2⟩ := w2
      simp only [q2] at h
      cases h
      exact ⟨r, rs', T1, rfl, q2, rfl⟩
theorem imgs_good {l : List Nat} (hg : ∀ p, p ∈ l → ∀ T r T', Gd T0 T → In T0 f p T = some (r, T') → Gd T0 T' ∧ (∃ R, T' = T ++ R) ∧ r < T'.length) : ∀ (T : List Tm) (rs : List Nat) (T' : List Tm), Gd T0 T → imgs (In T0 f) l T = some (rs, T') → Gd T0 T' ∧ (∃ R, T' = T ++ R) ∧ rs.length = l.length ∧ ∀ x, x ∈ rs → x < T'.length := by
  induction l with
  | nil =>
    intro T rs T' hT h
    unfold imgs at h
    cases h
    exact ⟨hT, ⟨[], by simp⟩, rfl, fun x hx => by cases hx⟩
  | cons p l ih =>
    intro T rs T' hT h
    obtain ⟨r, rs', T1, h1, h2, rfl⟩ := imgs_cons h
    obtain ⟨g1, ⟨R1, e1⟩, g3⟩ := hg p List.mem_cons_self T r T1 hT h1
    obtain ⟨i1, ⟨R2, e2⟩, i3, i4⟩ := ih (fun q hq => hg q (List.mem_cons_of_mem _ hq)) T1 rs' T' g1 h2
    have hl : T1.length ≤ T'.length := by rw [e2]; simp
    refine ⟨i1, ⟨R1 ++ R2, by rw [e2, e1, List.append_assoc]⟩, by simp [i3], fun x hx => ?_⟩
    rcases List.mem_cons.mp hx with rfl | hx
    · omega
    · exact i4 x hx
theorem In_good (hW : WT T0) (hf : ∀ h, h < 3 → f h < T0.length) : ∀ (n t : Nat), t < n → t < T0.length → ∀ (T : List Tm) (r : Nat) (T' : List Tm), Gd T0 T → In T0 f t T = some (r, T') → Gd T0 T' ∧ (∃ R, T' = T ++ R) ∧ r < T'.length := by
  intro n
  induction n with
  | zero => intro t h; omega
  | succ n ih =>
    intro t hn ht T r T' hT h
    by_cases q : hbit (gT T0 t) = 0
    · rw [In_eq hW ht q] at h
      cases q2 : imgs (In T0 f) (pts T0 t) T with
      | none => rw [q2] at h; cases h
      | some w =>
        obtain ⟨l, T1⟩ := w
        rw [q2] at h
        obtain ⟨g1, ⟨R1, e1⟩, g3, g4⟩ := imgs_good (fun p hp => ih p (by have := pts_lt hW ht hp; omega) (by have := pts_lt hW ht hp; omega)) T l T1 hT q2
        obtain ⟨m1, ⟨R2, e2⟩, m3, _⟩ := mkT_good g1 (okT_map hW ht g3 g4) h
        exact ⟨m1, ⟨R1 ++ R2, by rw [e2, e1, List.append_assoc]⟩, m3⟩
    · rw [In_hole q] at h
      cases h
      have := hT.le
      have := hf _ (hix_lt (gT T0 t))
      exact ⟨hT, ⟨[], by simp⟩, by omega⟩
theorem imgs_set {l : List Nat} (hg : ∀ p, p ∈ l → ∀ T r T', Gd T0 T → In T0 f p T = some (r, T') → (Gd T0 T' ∧ (∃ R, T' = T ++ R)) ∧ ∀ T2, Gd T0 T2 → (∃ R, T2 = T' ++ R) → In T0 f p T2 = some (r, T2)) : ∀ (T : List Tm) (rs : List Nat) (T' : List Tm), Gd T0 T → imgs (In T0 f) l T = some (rs, T') → (∃ R, T' = T ++ R) ∧ ∀ T2, Gd T0 T2 → (∃ R, T2 = T' ++ R) → imgs (In T0 f) l T2 = some (rs, T2) := by
  induction l with
  | nil =>
    intro T rs T' hT h
    unfold imgs at h
    cases h
    exact ⟨⟨[], by simp⟩, fun T2 _ _ => rfl⟩
  | cons p l ih =>
    intro T rs T' hT h
    obtain ⟨r, rs', T1, h1, h2, rfl⟩ := imgs_cons h
    obtain ⟨⟨g1, R1, e1⟩, g3⟩ := hg p List.mem_cons_self T r T1 hT h1
    obtain ⟨⟨R2, e2⟩, i2⟩ := ih (fun q hq => hg q (List.mem_cons_of_mem _ hq)) T1 rs' T' g1 h2
    refine ⟨⟨R1 ++ R2, by rw [e2, e1, List.append_assoc]⟩, fun T2 hT2 hR => ?_⟩
    obtain ⟨R, e⟩ := hR
    have w1 := g3 T2 hT2 ⟨R2 ++ R, by rw [e, e2, List.append_assoc]⟩
    have w2 := i2 T2 hT2 ⟨R, e⟩
    unfold imgs
    simp only [w1, w2]
/-- once made, it is there -/
theorem In_set (hW : WT T0) (hf : ∀ h, h < 3 → f h < T0.length) : ∀ (n t : Nat), t < n → t < T0.length → ∀ (T : List Tm) (r : Nat) (T' : List Tm), Gd T0 T → In T0 f t T = some (r, T') → ∀ T2, Gd T0 T2 → (∃ R, T2 = T' ++ R) → In T0 f t T2 = some (r, T2) := by
  intro n
  induction n with
  | zero => intro t h; omega
  | succ n ih =>
    intro t hn ht T r T' hT h T2 hT2 hR
    by_cases q : hbit (gT T0 t) = 0
    · rw [In_eq hW ht q] at h ⊢
      cases q2 : imgs (In T0 f) (pts T0 t) T with
      | none => rw [q2] at h; cases h
      | some w =>
        obtain ⟨l, T1⟩ := w
        rw [q2] at h
        obtain ⟨g1, ⟨R1, e1⟩, g3, g4⟩ := imgs_good (fun p hp => In_good hW hf (p + 1) p (by omega) (by have := pts_lt hW ht hp; omega)) T l T1 hT q2
        obtain ⟨m1, ⟨R2, e2⟩, m3, m4⟩ := mkT_good g1 (okT_map hW ht g3 g4) h
        obtain ⟨_, s2⟩ := imgs_set (fun p hp T r T' hT h => by
          have hp' := pts_lt hW ht hp
          obtain ⟨a1, a2, _⟩ := In_good hW hf (p + 1) p (by omega) (by omega) T r T' hT h
          exact ⟨⟨a1, a2⟩, ih p (by omega) (by omega) T r T' hT h⟩) T l T1 hT q2
        obtain ⟨R, e⟩ := hR
        rw [s2 T2 hT2 ⟨R2 ++ R, by rw [e, e2, List.append_assoc]⟩]
        show mkT T2 _ = _
        refine mkT_old hT2.2.2 (by rw [e]; simp; omega) ?_
        rw [e, gT_l m3]
        exact m4
    · rw [In_hole q] at h ⊢
      cases h
      rfl
/-- parts that are there are passed over -/
theorem imgs_skip {g : Nat → Nat} : ∀ (l : List Nat), (∀ p, p ∈ l → In T0 f p T = some (g p, T)) → imgs (In T0 f) l T = some (l.map g, T)
  | [], _ => rfl
  | p :: l, h => by
    unfold imgs
    rw [h p List.mem_cons_self]
    show (match imgs (In T0 f) l T with | none => none | some (rs, T2) => some (g p :: rs, T2)) = _
    rw [imgs_skip l fun q hq => h q (List.mem_cons_of_mem _ hq)]
    rfl
theorem In_all (hW : WT T0) (ht : t < T0.length) (q : hbit (gT T0 t) = 0) {g : Nat → Nat} (h : ∀ p, p ∈ pts T0 t → In T0 f p T = some (g p, T)) : In T0 f t T = mkT T (kd T0 t, sh T0 t, (pts T0 t).map g) := by
  rw [In_eq hW ht q, imgs_skip _ h]
theorem imgs_step {p r : Nat} {g : Nat → Nat} (h1 : In T0 f p T = some (r, T')) (h2 : In T0 f p T' = some (r, T')) : ∀ (l : List Nat) (i : Nat), i < l.length → l.getD i 0 = p → (∀ j, j < i → In T0 f (l.getD j 0) T = some (g (l.getD j 0), T) ∧ In T0 f (l.getD j 0) T' = some (g (l.getD j 0), T')) → imgs (In T0 f) l T = imgs (In T0 f) l T'
  | [], i, hi, _, _ => by simp at hi
  | q :: l, 0, _, hp, _ => by
    have e : q = p := hp
    subst e
    unfold imgs
    rw [h1, h2]
  | q :: l, i + 1, hi, hp, h => by
    have h0 := h 0 (by omega)
    have e0 : (q :: l).getD 0 0 = q := rfl
    rw [e0] at h0
    have ih := imgs_step h1 h2 l i (by simpa using hi) hp fun j hj => h (j + 1) (by omega)
    unfold imgs
    rw [h0.1, h0.2]
    show (match imgs (In T0 f) l T with | none => none | some (rs, T2) => some (g q :: rs, T2)) = (match imgs (In T0 f) l T' with | none => none | some (rs, T2) => some (g q :: rs, T2))
    rw [ih]
theorem imgs_stop {p : Nat} {g : Nat → Nat} (h1 : In T0 f p T = none) : ∀ (l : List Nat) (i : Nat), i < l.length → l.getD i 0 = p → (∀ j, j < i → In T0 f (l.getD j 0) T = some (g (l.getD j 0), T)) → imgs (In T0 f) l T = none
  | [], i, hi, _, _ => by simp at hi
  | q :: l, 0, _, hp, _ => by
    have e : q = p := hp
    subst e
    unfold imgs
    rw [h1]
  | q :: l, i + 1, hi, hp, h => by
    have h0 := h 0 (by omega)
    have e0 : (q :: l).getD 0 0 = q := rfl
    rw [e0] at h0
    have ih := imgs_stop h1 l i (by simpa using hi) hp fun j hj => h (j + 1) (by omega)
    unfold imgs
    rw [h0]
    show (match imgs (In T0 f) l T with | none => none | some (rs, T2) => some (g q :: rs, T2)) = _
    rw [ih]
/-- one part more has been seen to -/
theorem In_step (hW : WT T0) (hf : ∀ h, h < 3 → f h < T0.length) (hT : Gd T0 T) (hu : u < T0.length) (q : hbit (gT T0 u) = 0) {i : Nat} (hi : i < sz T0 u) {g : Nat → Nat} (hg : ∀ j, j < i → In T0 f (pt T0 u j) T = some (g (pt T0 u j), T)) (h : In T0 f (pt T0 u i) T = some (r, T')) : In T0 f u T = In T0 f u T' := by
  have hp : ∀ j, j < sz T0 u → pt T0 u j < u := (hW.2 u hu).2.1
  have hpi := hp i hi
  obtain ⟨g1, g2, _⟩ := In_good hW hf _ _ (Nat.lt_succ_self _) (by omega) T r T' hT h
  rw [In_eq hW hu q, In_eq hW hu q, imgs_step h (In_set hW hf _ _ (Nat.lt_succ_self _) (by omega) T r T' hT h T' g1 ⟨[], by simp⟩) (pts T0 u) i hi rfl fun j hj => ⟨hg j hj, In_set hW hf _ _ (Nat.lt_succ_self _) (by have := hp j (by omega); omega) T _ T hT (hg j hj) T' g1 g2⟩]
theorem In_stop (hW : WT T0) (hu : u < T0.length) (q : hbit (gT T0 u) = 0) {i : Nat} (hi : i < sz T0 u) {g : Nat → Nat} (hg : ∀ j, j < i → In T0 f (pt T0 u j) T = some (g (pt T0 u j), T)) (h : In T0 f (pt T0 u i) T = none) : In T0 f u T = none := by
  rw [In_eq hW hu q, imgs_stop h (pts T0 u) i hi rfl hg]
theorem orl_0 {H : Nat → Nat} : ∀ {l : List Nat} {m : Nat}, orl H l m = 0 → m = 0 ∧ ∀ p, p ∈ l → H p = 0
  | [], m, h => ⟨h, fun p hp => by cases hp⟩
  | q :: l, m, h => by
    obtain ⟨h1, h2⟩ := orl_0 (l := l) (m := m ||| H q) h
    have h3 : m = 0 ∧ H q = 0 := Nat.or_eq_zero_iff.mp h1
    refine ⟨h3.1, fun p hp => ?_⟩
    rcases List.mem_cons.mp hp with rfl | hp
    · exact h3.2
    · exact h2 p hp
/-- a term in which no hole stands is its own instance -/
theorem In_free (hW : WT T0) (hT : Gd T0 T) {H : Nat → Nat} (hH : IsH T H) : ∀ (n t : Nat), t < n → t < T0.length → H t = 0 → In T0 f t T = some (t, T) := by
  intro n
  induction n with
  | zero => intro t h; omega
  | succ n ih =>
    intro t hn ht h0
    have hl := hT.le
    have hh := (hH t (by omega)).1
    rw [h0] at hh
    obtain ⟨b1, b2⟩ := orl_0 hh.symm
    have eg := hT.gt ht
    have ep : pts T t = pts T0 t := congrArg (fun x : Tm => x.2.2) eg
    rw [ep] at b2
    rw [eg] at b1
    rw [In_all hW ht b1 (g := fun p => p) fun p hp => ih p (by have := pts_lt hW ht hp; omega) (by have := pts_lt hW ht hp; omega) (b2 p hp), List.map_id' (pts T0 t)]
    exact mkT_old hT.2.2 (by omega) eg
end IMG
