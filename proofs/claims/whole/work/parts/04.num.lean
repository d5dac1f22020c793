/-! numbers, reads and writes of the pure functions -/
theorem lit (n : Nat) : (OfNat.ofNat n : Int32) = nI n := id rfl
theorem litm : (-1 : Int32) = -(nI 1) := id rfl
def nN (x : Int32) : Nat := x.toNatClampNeg
theorem nN_nI {n : Nat} (h : n < 2 ^ 31) : nN (nI n) = n := nI_clamp h
theorem inb_t {i n : Nat} (h : i < n) (hn : n < 2 ^ 31) : inb (nI i) n = true := by
  have h1 : vp_in (nI i) n := vp_in_nI h hn
  exact decide_eq_true h1
theorem gd_t {α : Type} (x : Option α) : gd true x = x := id rfl
theorem bp_s {α β : Type} (a : α) (k : α → Option β) : bp (some a) k = k a := id rfl
theorem bd_s {α β : Type} (a : α) (σ : fS) (k : α → fS → Option β) : bd (some (a, σ)) k = k a σ := id rfl
theorem bnd_s {α β : Type} (e : α) (k : α → β) : bnd e k = k e := id rfl
theorem rd_nI {z : fS} {k i : Nat} (h : i < 2 ^ 31) : rd z k (nI i) = z k i := by unfold rd; rw [nI_clamp h]
theorem wr_nI {z : fS} {k i : Nat} {v : Int32} (h : i < 2 ^ 31) : wr z k (nI i) v = wrr z k (upd (z k) i v) := by unfold wr; rw [nI_clamp h]
theorem wf_w {z : fS} {k i : Nat} {v : Int32} : wf z k i v = wrr z k (upd (z k) i v) := id rfl
theorem wrr_e {z : fS} {k : Nat} {r : Nat → Int32} : wrr z k r k = r := by simp [wrr]
theorem wrr_n {z : fS} {k j : Nat} {r : Nat → Int32} (h : j ≠ k) : wrr z k r j = z j := by simp [wrr, h]
theorem upd_e {f : Nat → Int32} {k : Nat} {x : Int32} : upd f k x k = x := by simp [upd]
theorem upd_n {f : Nat → Int32} {k j : Nat} {x : Int32} (h : j ≠ k) : upd f k x j = f j := by simp [upd, h]
theorem wrr_wrr {z : fS} {k : Nat} {r r' : Nat → Int32} : wrr (wrr z k r) k r' = wrr z k r' := by
  funext j; by_cases h : j = k <;> simp [wrr, h]
theorem wrr_id {z : fS} {k : Nat} : wrr z k (z k) = z := by
  funext j; by_cases h : j = k <;> simp [wrr, h]
theorem upd_id {f : Nat → Int32} {k : Nat} : upd f k (f k) = f := by
  funext j; by_cases h : j = k <;> simp [upd, h]
theorem nI_m1 {n : Nat} (h : n < 2 ^ 31) : ¬ nI n = (-1 : Int32) := by
  intro e
  have := congrArg Int32.toInt e
  rw [nI_toInt h] at this
  have e2 : (-1 : Int32).toInt = -1 := by decide
  rw [e2] at this
  omega
theorem nI_m1n {n : Nat} (h : n < 2 ^ 31) : (nI n = -(nI 1)) ↔ False := ⟨fun e => nI_m1 h e, False.elim⟩
theorem m1_nI {n : Nat} (h : n < 2 ^ 31) : (-(nI 1) = nI n) ↔ False := ⟨fun e => nI_m1 h e.symm, False.elim⟩
theorem m1_le {n : Nat} (h : n < 2 ^ 31) : (nI n ≤ -(nI 1)) ↔ False := by
  refine ⟨fun e => ?_, False.elim⟩
  rw [Int32.le_iff_toInt_le, nI_toInt h] at e
  have e2 : (-(nI 1)).toInt = -1 := by decide
  omega
theorem m1_lt {n : Nat} (h : n < 2 ^ 31) : (-(nI 1) < nI n) ↔ True := by
  refine ⟨fun _ => trivial, fun _ => ?_⟩
  rw [Int32.lt_iff_toInt_lt, nI_toInt h]
  have e2 : (-(nI 1)).toInt = -1 := by decide
  omega
theorem m1_lt0 : (-(nI 1) < nI 0) ↔ True := m1_lt (by decide)
theorem m1_le0 : (nI 0 ≤ -(nI 1)) ↔ False := m1_le (by decide)
theorem m1_leN {n : Nat} (h : n < 2 ^ 31) : (-(nI 1) ≤ nI n) ↔ True := by
  refine ⟨fun _ => trivial, fun _ => ?_⟩
  rw [Int32.le_iff_toInt_le, nI_toInt h]
  have e2 : (-(nI 1)).toInt = -1 := by decide
  omega
theorem nI_sub {a b : Nat} (h : b ≤ a) : nI a - nI b = nI (a - b) := pk_sub h
theorem nI_dec {a : Nat} (h : 0 < a) : nI a + -(nI 1) = nI (a - 1) := sb_m1 h
theorem nI_mul (a b : Nat) : nI a * nI b = nI (a * b) := pk_mul a b
theorem m1_inc : -(nI 1) + nI 1 = nI 0 := by decide
theorem z_dec : nI 0 - nI 1 = -(nI 1) := by decide
theorem z_decA : nI 0 + -(nI 1) = -(nI 1) := by decide
theorem isb_0 : isb (nI 0) = true := by decide
theorem isb_1 : isb (nI 1) = true := by decide
theorem zb_0 : zb (nI 0) = nI 0 := by decide +kernel
theorem zb_1 : zb (nI 1) = nI 1 := by decide +kernel
def cnt (p : Nat → Bool) : Nat → Nat
  | 0 => 0
  | n + 1 => cnt p n + if p n then 1 else 0
theorem cnt_le (p : Nat → Bool) : ∀ n, cnt p n ≤ n
  | 0 => Nat.le_refl 0
  | n + 1 => by
    have h := cnt_le p n
    unfold cnt
    split <;> omega
theorem cnt_mono (p : Nat → Bool) {a b : Nat} (h : a ≤ b) : cnt p a ≤ cnt p b := by
  induction b with
  | zero => rw [show a = 0 by omega]; exact Nat.le_refl _
  | succ b ihb =>
    rcases Nat.lt_or_ge a (b + 1) with q | q
    · have := ihb (by omega)
      show _ ≤ cnt p b + _
      omega
    · rw [show a = b + 1 by omega]; exact Nat.le_refl _
theorem cnt_cong {p q : Nat → Bool} : ∀ {n : Nat}, (∀ i, i < n → p i = q i) → cnt p n = cnt q n
  | 0, _ => rfl
  | n + 1, h => by
    unfold cnt
    rw [cnt_cong (fun i hi => h i (by omega)), h n (by omega)]
theorem cnt_s {p : Nat → Bool} {n : Nat} : cnt p (n + 1) = cnt p n + if p n then 1 else 0 := rfl
/-- one less: q is p but for one place that p has -/
theorem cnt_less {p q : Nat → Bool} {j : Nat} (hp : p j = true) (hq : q j = false) (ho : ∀ i, i ≠ j → q i = p i) : ∀ {n : Nat}, j < n → cnt q n + 1 = cnt p n
  | 0, h => absurd h (Nat.not_lt_zero j)
  | n + 1, h => by
    rcases Nat.lt_or_ge j n with g | g
    · have ih := cnt_less hp hq ho g
      rw [cnt_s, cnt_s, ho n (by omega)]
      omega
    · have e : j = n := by omega
      subst e
      rw [cnt_s, cnt_s, hp, hq, cnt_cong (p := q) (q := p) (fun i hi => ho i (by omega))]
      simp
theorem cnt_pos {p : Nat → Bool} {j n : Nat} (hj : j < n) (hp : p j = true) : 0 < cnt p n := by
  have h1 := cnt_mono p (show j + 1 ≤ n by omega)
  rw [cnt_s, hp] at h1
  simp at h1
  omega
