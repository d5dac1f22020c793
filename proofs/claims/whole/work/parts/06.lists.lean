/-! chains in arrays -/
def Lst (nx : Nat → Int32) : Int32 → List Nat → Prop
  | h, [] => h = -1
  | h, x :: l => h = nI x ∧ Lst nx (nx x) l
def Pth (nx : Nat → Int32) : Nat → List Nat → Nat → Prop
  | a, [], b => nx a = nI b
  | a, x :: l, b => nx a = nI x ∧ Pth nx x l b
theorem Lst.ext {nx nx' : Nat → Int32} : ∀ {l : List Nat} {h : Int32}, Lst nx h l → (∀ x, x ∈ l → nx' x = nx x) → Lst nx' h l
  | [], _, h, _ => h
  | x :: l, _, h, e => ⟨h.1, by rw [e x List.mem_cons_self]; exact h.2.ext fun y hy => e y (List.mem_cons_of_mem _ hy)⟩
theorem Pth.head {nx nx' : Nat → Int32} : ∀ {l : List Nat} {a a' b : Nat}, Pth nx a l b → nx' a' = nx a → (∀ x, x ∈ l → nx' x = nx x) → Pth nx' a' l b
  | [], _, _, _, h, e, _ => e.trans h
  | x :: l, _, _, _, h, e, g => ⟨e.trans h.1, h.2.head (g x List.mem_cons_self) fun y hy => g y (List.mem_cons_of_mem _ hy)⟩
theorem Pth.app {nx : Nat → Int32} : ∀ {l1 l2 : List Nat} {a x b : Nat}, Pth nx a l1 x → Pth nx x l2 b → Pth nx a (l1 ++ x :: l2) b
  | [], _, _, _, _, h, g => ⟨h, g⟩
  | y :: l1, _, _, _, _, h, g => ⟨h.1, h.2.app g⟩
/-- two rounds become one -/
theorem Pth.splice {nx : Nat → Int32} {a b : Nat} {la lb : List Nat} (ha : Pth nx a la a) (hb : Pth nx b lb b) (hab : a ≠ b) (h1 : a ∉ la) (h2 : b ∉ la) (h3 : a ∉ lb) (h4 : b ∉ lb) : Pth (upd (upd nx a (nx b)) b (nx a)) a (lb ++ b :: la) a := by
  refine Pth.app (Pth.head hb ?_ fun x hx => ?_) (Pth.head ha ?_ fun x hx => ?_)
  · rw [upd_n hab, upd_e]
  · rw [upd_n (show x ≠ b from fun e => h4 (e ▸ hx)), upd_n (show x ≠ a from fun e => h3 (e ▸ hx))]
  · rw [upd_e]
  · rw [upd_n (show x ≠ b from fun e => h2 (e ▸ hx)), upd_n (show x ≠ a from fun e => h1 (e ▸ hx))]
/-! the agenda -/
def isPb (k : Nat) : Prop := k = 28 ∨ k = 38 ∨ k = 48
def HA (C : List Nat) (Q : List (Nat × Nat)) (z : fS) : Prop :=
  z 23 4 = nI Q.length ∧ (∀ i, i < Q.length → z 24 i = nI (Q.getD i (0, 0)).1 ∧ z 25 i = nI (Q.getD i (0, 0)).2) ∧ z 23 5 = nI C.length ∧ (∀ i, i < C.length → z 26 i = nI (C.getD i 0)) ∧ C.Nodup ∧ (∀ u, u ∈ C → u < 120) ∧ (∀ u, u < 120 → z 27 u = if u ∈ C then nI 1 else nI 0)
def addC (C : List Nat) (u : Nat) : List Nat := if u ∈ C then C else C ++ [u]
theorem gD_l {α : Type} {l m : List α} {i : Nat} {d : α} (h : i < l.length) : (l ++ m).getD i d = l.getD i d := by
  simp [List.getD_eq_getElem?_getD, List.getElem?_append_left h]
theorem gD_r {α : Type} {l : List α} {x d : α} : (l ++ [x]).getD l.length d = x := by
  simp [List.getD_eq_getElem?_getD]
theorem gD_mem {l : List Nat} {i : Nat} (h : i < l.length) : l.getD i 0 ∈ l := by
  rw [List.getD_eq_getElem?_getD, List.getElem?_eq_getElem h]
  exact List.getElem_mem h
theorem nodup_lt : ∀ {n : Nat} {l : List Nat}, l.Nodup → (∀ x, x ∈ l → x < n) → l.length ≤ n
  | 0, l, _, hl => by
    cases l with
    | nil => simp
    | cons x l => exact absurd (hl x List.mem_cons_self) (Nat.not_lt_zero x)
  | n + 1, l, hd, hl => by
    by_cases hm : n ∈ l
    · have h1 := nodup_lt (n := n) (hd.erase n) (fun x hx => by
        have h2 := (List.Nodup.mem_erase_iff hd).mp hx
        have := hl x h2.2
        omega)
      rw [List.length_erase_of_mem hm] at h1
      omega
    · have h1 := nodup_lt (n := n) hd (fun x hx => by
        have := hl x hx
        have : x ≠ n := fun e => hm (e ▸ hx)
        omega)
      omega
theorem HA.Cle {C : List Nat} {Q : List (Nat × Nat)} {z : fS} (h : HA C Q z) : C.length ≤ 120 := nodup_lt h.2.2.2.2.1 h.2.2.2.2.2.1
theorem putChanged_ok {C : List Nat} {Q : List (Nat × Nat)} {z : fS} {u : Nat} (h : HA C Q z) (hu : u < 120) : ∃ z', fX0_putChanged z (nI u) = some z' ∧ HA (addC C u) Q z' ∧ (∀ j, j ≠ 23 → j ≠ 26 → j ≠ 27 → z' j = z j) := by
  have hC := h.Cle
  obtain ⟨h1, h2, h3, h4, h5, h6, h7⟩ := h
  unfold fX0_putChanged
  by_cases hm : u ∈ C
  · have e27 : z 27 u = nI 1 := by rw [h7 u hu, if_pos hm]
    refine ⟨z, ?_, ?_, fun _ _ _ _ => rfl⟩
    · simp (disch := omega) only [lit, inb_t, gd_t, rd_nI, e27, nI_eq, if_neg]
    · unfold addC; rw [if_pos hm]; exact ⟨h1, h2, h3, h4, h5, h6, h7⟩
  · have e27 : z 27 u = nI 0 := by rw [h7 u hu, if_neg hm]
    have hl : C.length < 120 := by
      have : (u :: C).Nodup := List.nodup_cons.mpr ⟨hm, h5⟩
      have := nodup_lt this (n := 120) (fun x hx => by
        rcases List.mem_cons.mp hx with rfl | hx
        · exact hu
        · exact h6 x hx)
      simp at this
      omega
    refine ⟨wrr (wrr (wrr z 27 (upd (z 27) u (nI 1))) 26 (upd (z 26) C.length (nI u))) 23 (upd (z 23) 5 (nI (C.length + 1))), ?_, ?_, ?_⟩
    · simp (disch := omega) only [lit, inb_t, gd_t, rd_nI, e27, nI_eq, if_pos, h3, nI_leI, if_neg, if_true, bnd_s, zb_1, wr_nI, wrr_n, wrr_e, wf_w, nI_add]
    · unfold addC
      rw [if_neg hm]
      refine ⟨?_, ?_, ?_, ?_, ?_, ?_, ?_⟩
      · simp (disch := omega) only [wrr_n, wrr_e, upd_n, h1]
      · intro i hi
        have := h2 i hi
        simp (disch := omega) only [wrr_n]
        exact this
      · simp (disch := omega) only [wrr_n, wrr_e, upd_e, List.length_append, List.length_singleton]
      · intro i hi
        simp (disch := omega) only [wrr_n, wrr_e]
        rcases Nat.lt_or_ge i C.length with q | q
        · rw [upd_n (by omega), h4 i q, gD_l q]
        · have e : i = C.length := by simp at hi; omega
          subst e
          rw [upd_e]
          simp
      · exact List.nodup_append.mpr ⟨h5, by simp, fun a ha b hb => by simp at hb; subst hb; exact fun e => hm (e ▸ ha)⟩
      · intro x hx
        rcases List.mem_append.mp hx with hx | hx
        · exact h6 x hx
        · simp at hx; omega
      · intro x hx
        simp (disch := omega) only [wrr_n, wrr_e]
        by_cases e : x = u
        · subst e; rw [upd_e]; simp
        · rw [upd_n e, h7 x hx]
          simp [e]
    · intro j g1 g2 g3
      simp (disch := omega) only [wrr_n]
