/-! terms, and what is one by a set of pairs -/
abbrev Tm : Type := Int32 × Int32 × List Nat
def kd (T : List Tm) (t : Nat) : Int32 := (T.getD t (0, 0, [])).1
def sh (T : List Tm) (t : Nat) : Int32 := (T.getD t (0, 0, [])).2.1
def pts (T : List Tm) (t : Nat) : List Nat := (T.getD t (0, 0, [])).2.2
def pt (T : List Tm) (t i : Nat) : Nat := (pts T t).getD i 0
def sz (T : List Tm) (t : Nat) : Nat := (pts T t).length
/-- a table of terms: at most 120, parts ahead of what they are parts of, the kinds' sizes -/
def WT (T : List Tm) : Prop := T.length ≤ 120 ∧ ∀ t, t < T.length → sz T t ≤ 3 ∧ (∀ i, i < sz T t → pt T t i < t) ∧ (kd T t = nI 3 → sz T t = 2) ∧ (kd T t = nI 4 → sz T t = 2) ∧ (kd T t = nI 1 → sz T t = 0) ∧ (kd T t = nI 0 → sz T t = 0)
/-- built alike, their parts in R -/
def ByP (T : List Tm) (R : Nat → Nat → Prop) (a b : Nat) : Prop :=
  0 < sz T a ∧ kd T a = kd T b ∧ sh T a = sh T b ∧ sz T a = sz T b ∧ ((∀ i, i < sz T a → R (pt T a i) (pt T b i)) ∨ (kd T a = nI 4 ∧ R (pt T a 0) (pt T b 1) ∧ R (pt T a 1) (pt T b 0)))
/-- R is closed, over the first k terms -/
def IsC (T : List Tm) (k : Nat) (E R : Nat → Nat → Prop) : Prop :=
  (∀ a, R a a) ∧ (∀ a b, R a b → R b a) ∧ (∀ a b c, R a b → R b c → R a c) ∧ (∀ a b, E a b → R a b) ∧
  (∀ a b, a < k → b < k → ByP T R a b → R a b) ∧ (∀ a b, a < k → b < k → kd T a = nI 3 → kd T b = nI 3 → R a b → R (pt T a 0) (pt T b 0) ∧ R (pt T a 1) (pt T b 1))
def One (T : List Tm) (k : Nat) (E : Nat → Nat → Prop) (a b : Nat) : Prop := ∀ R, IsC T k E R → R a b
section ONE
variable {T : List Tm} {k : Nat} {E F : Nat → Nat → Prop} {a b c : Nat}
theorem ByP.mono {R R' : Nat → Nat → Prop} (h : ∀ a b, R a b → R' a b) (hp : ByP T R a b) : ByP T R' a b := by
  obtain ⟨h0, h1, h2, h3, h4⟩ := hp
  refine ⟨h0, h1, h2, h3, ?_⟩
  rcases h4 with h4 | ⟨h4, h5, h6⟩
  · exact Or.inl fun i hi => h _ _ (h4 i hi)
  · exact Or.inr ⟨h4, h _ _ h5, h _ _ h6⟩
theorem One.rf : One T k E a a := fun R h => h.1 a
theorem One.sm (h : One T k E a b) : One T k E b a := fun R hR => hR.2.1 _ _ (h R hR)
theorem One.tr (h : One T k E a b) (h2 : One T k E b c) : One T k E a c := fun R hR => hR.2.2.1 _ _ _ (h R hR) (h2 R hR)
theorem One.of (h : E a b) : One T k E a b := fun R hR => hR.2.2.2.1 _ _ h
theorem One.cong (ha : a < k) (hb : b < k) (h : ByP T (One T k E) a b) : One T k E a b := fun R hR => hR.2.2.2.2.1 a b ha hb (h.mono fun _ _ q => q R hR)
theorem One.row (ha : a < k) (hb : b < k) (ka : kd T a = nI 3) (kb : kd T b = nI 3) (h : One T k E a b) : One T k E (pt T a 0) (pt T b 0) ∧ One T k E (pt T a 1) (pt T b 1) :=
  ⟨fun R hR => (hR.2.2.2.2.2 a b ha hb ka kb (h R hR)).1, fun R hR => (hR.2.2.2.2.2 a b ha hb ka kb (h R hR)).2⟩
theorem One.isC : IsC T k E (One T k E) := ⟨fun _ => One.rf, fun _ _ => One.sm, fun _ _ _ => One.tr, fun _ _ => One.of, fun _ _ ha hb => One.cong ha hb, fun _ _ ha hb ka kb => One.row ha hb ka kb⟩
theorem One.le (h : ∀ a b, E a b → One T k F a b) (q : One T k E a b) : One T k F a b := q _ ⟨fun _ => One.rf, fun _ _ => One.sm, fun _ _ _ => One.tr, h, fun _ _ ha hb => One.cong ha hb, fun _ _ ha hb ka kb => One.row ha hb ka kb⟩
theorem One.mono (h : ∀ a b, E a b → F a b) (q : One T k E a b) : One T k F a b := q.le fun a b e => One.of (h a b e)
theorem One.grow {k' : Nat} (hk : k ≤ k') (q : One T k E a b) : One T k' E a b := q _ ⟨fun _ => One.rf, fun _ _ => One.sm, fun _ _ _ => One.tr, fun _ _ => One.of, fun _ _ ha hb => One.cong (by omega) (by omega), fun _ _ ha hb ka kb => One.row (by omega) (by omega) ka kb⟩
end ONE
/-- the least equivalence that holds a function's fibres and some pairs -/
def Eqv (ro : Nat → Nat) (Q : List (Nat × Nat)) (a b : Nat) : Prop := ∀ R : Nat → Nat → Prop, (∀ a, R a a) → (∀ a b, R a b → R b a) → (∀ a b c, R a b → R b c → R a c) → (∀ a b, ro a = ro b → R a b) → (∀ q, q ∈ Q → R q.1 q.2) → R a b
section EQV
variable {ro ro' : Nat → Nat} {Q Q' : List (Nat × Nat)} {a b c : Nat}
theorem Eqv.rf : Eqv ro Q a a := fun R h _ _ _ _ => h a
theorem Eqv.sm (h : Eqv ro Q a b) : Eqv ro Q b a := fun R h1 h2 h3 h4 h5 => h2 _ _ (h R h1 h2 h3 h4 h5)
theorem Eqv.tr (h : Eqv ro Q a b) (g : Eqv ro Q b c) : Eqv ro Q a c := fun R h1 h2 h3 h4 h5 => h3 _ _ _ (h R h1 h2 h3 h4 h5) (g R h1 h2 h3 h4 h5)
theorem Eqv.fb (h : ro a = ro b) : Eqv ro Q a b := fun R _ _ _ h4 _ => h4 _ _ h
theorem Eqv.pr (h : (a, b) ∈ Q) : Eqv ro Q a b := fun R _ _ _ _ h5 => h5 _ h
theorem Eqv.le (h1 : ∀ a b, ro a = ro b → Eqv ro' Q' a b) (h2 : ∀ q, q ∈ Q → Eqv ro' Q' q.1 q.2) (h : Eqv ro Q a b) : Eqv ro' Q' a b := h _ (fun _ => Eqv.rf) (fun _ _ => Eqv.sm) (fun _ _ _ => Eqv.tr) h1 h2
theorem Eqv.nil (h : Eqv ro [] a b) : ro a = ro b := h (fun a b => ro a = ro b) (fun _ => rfl) (fun _ _ e => e.symm) (fun _ _ _ e f => e.trans f) (fun _ _ e => e) (fun q hq => by simp at hq)
end EQV
