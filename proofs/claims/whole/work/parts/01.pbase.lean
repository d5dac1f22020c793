/-! words of the pure functions -/
abbrev fS : Type := Nat → Nat → Int32
def rd (σ : fS) (k : Nat) (i : Int32) : Int32 := σ k i.toNatClampNeg
def wrr (σ : fS) (k : Nat) (row : Nat → Int32) : fS := fun j => if j = k then row else σ j
def wr (σ : fS) (k : Nat) (i : Int32) (v : Int32) : fS := wrr σ k (upd (σ k) i.toNatClampNeg v)
def wf (σ : fS) (k f : Nat) (v : Int32) : fS := wrr σ k (upd (σ k) f v)
def inb (i : Int32) (n : Nat) : Bool := decide (¬ (i < 0 ∨ n ≤ i.toNatClampNeg))
theorem inb_vp {i : Int32} {n : Nat} (h : inb i n = true) : vp_in i n := by
  have h2 : ¬ (i < 0 ∨ n ≤ i.toNatClampNeg) := of_decide_eq_true h
  exact h2
def isb (v : Int32) : Bool := decide (v = 0 ∨ v = 1)
def zb (v : Int32) : Int32 := vp_nar .boolean v
def bnd {α β : Type} (e : α) (k : α → β) : β := k e
theorem bnd_at {α β : Type} {e : α} {k : α → β} {r : β} {x : α} (h : bnd e k = r) (hx : x = e) : k x = r := by subst hx; exact h
def gd {α : Type} (c : Bool) (x : Option α) : Option α := match c with
  | true => x
  | false => none
theorem gd_at {α : Type} {c : Bool} {x : Option α} {r : α} (h : gd c x = some r) : c = true ∧ x = some r := by
  cases c with
  | true => exact ⟨rfl, h⟩
  | false => exact absurd h (by simp [gd])
def bp {α β : Type} (x : Option α) (k : α → Option β) : Option β := match x with
  | none => none
  | some a => k a
theorem bp_at {α β : Type} {x : Option α} {k : α → Option β} {r : β} (h : bp x k = some r) : ∃ a, x = some a ∧ k a = some r := by
  cases x with
  | none => exact absurd h (by simp [bp])
  | some a => exact ⟨a, rfl, h⟩
def bd {α β : Type} (x : Option (α × fS)) (k : α → fS → Option β) : Option β := match x with
  | none => none
  | some (a, σ) => k a σ
theorem bd_at {α β : Type} {x : Option (α × fS)} {k : α → fS → Option β} {r : β} (h : bd x k = some r) : ∃ a σ, x = some (a, σ) ∧ k a σ = some r := by
  cases x with
  | none => exact absurd h (by simp [bd])
  | some q => exact ⟨q.1, q.2, rfl, h⟩
theorem if_t {α : Type} {c : Prop} [Decidable c] {a b r : α} (h : (if c then a else b) = r) (hc : c) : a = r := by rw [if_pos hc] at h; exact h
theorem if_f {α : Type} {c : Prop} [Decidable c] {a b r : α} (h : (if c then a else b) = r) (hc : ¬ c) : b = r := by rw [if_neg hc] at h; exact h
def cpb (sp dp n : Int32) (n0 n1 : Nat) : Bool := decide (¬ sp < 0 ∧ ¬ dp < 0 ∧ ¬ n < 0 ∧ sp.toNatClampNeg + n.toNatClampNeg ≤ n0 ∧ dp.toNatClampNeg + n.toNatClampNeg ≤ n1)
def cpy (σ : fS) (k0 : Nat) (sp : Int32) (k1 : Nat) (dp n : Int32) : fS := wrr σ k1 (va_cpy (σ k0) (σ k1) sp.toNatClampNeg dp.toNatClampNeg n.toNatClampNeg)
theorem FU_ex : ∃ n : Nat, 2000000 ≤ n := ⟨2000000, Nat.le_refl _⟩
noncomputable def FU : Nat := Classical.choose FU_ex
theorem FU_ge : 2000000 ≤ FU := Classical.choose_spec FU_ex
def pcell (v : Int32) : Nat := if v = 0 then 38 else 48
def fillr (f : Nat → Int32) (v : Int32) (n : Nat) : Nat → Int32 := fun j => if j < n then v else f j
