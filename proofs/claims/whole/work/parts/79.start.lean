/-! the start -/
theorem zX0_fill {k s : Nat} (hk : k = 7 ∨ k = 35 ∨ k = 45) (hs : s < 128) : zX0 k s = -1 := by
  rcases hk with rfl | rfl | rfl <;> simp [zX0, fillr, hs]
theorem zX0_n {k : Nat} (h1 : k ≠ 7) (h2 : k ≠ 35) (h3 : k ≠ 45) (h4 : k ≠ 55) (h5 : k ≠ 0) (h6 : k ≠ 17) (j : Nat) : zX0 k j = nI 0 := by
  simp only [zX0, if_neg h1, if_neg h2, if_neg h3, if_neg h4, if_neg h5, if_neg h6]; rfl
theorem zX0_0 {j : Nat} (h : j ≠ 11) : zX0 0 j = nI 0 := by
  simp [zX0, upd, h]; rfl
theorem zM0_n {k : Nat} (h : k ≠ 0) (j : Nat) : zM0 k j = nI 0 := by
  simp only [zM0, if_neg h]; rfl
theorem zM0_0 {j : Nat} (h : j ≠ 25) : zM0 0 j = nI 0 := by
  simp [zM0, upd, h]; rfl
theorem start_HA : HA [] [] zX0 := by
  refine ⟨?_, ?_, ?_, ?_, List.nodup_nil, ?_, ?_⟩
  · exact zX0_n (by omega) (by omega) (by omega) (by omega) (by omega) (by omega) _
  · intro i hi; exact absurd hi (Nat.not_lt_zero _)
  · exact zX0_n (by omega) (by omega) (by omega) (by omega) (by omega) (by omega) _
  · intro i hi; exact absurd hi (Nat.not_lt_zero _)
  · intro u hu; exact absurd hu List.not_mem_nil
  · intro u hu
    rw [if_neg List.not_mem_nil]
    exact zX0_n (by omega) (by omega) (by omega) (by omega) (by omega) (by omega) _
theorem start_HT : HT [] zX0 := ⟨zX0_n (by omega) (by omega) (by omega) (by omega) (by omega) (by omega) _, fun t ht => absurd ht (Nat.not_lt_zero _)⟩
theorem start_JI {E : Nat → Nat → Prop} (hE : ∀ a b, ¬ E a b) {pb : Nat} (hp : pb = 28 ∨ pb = 38) : JI [] E pb 0 (fun t => t) [] [] zX0 := by
  have h0 : ∀ {t : Nat} {P : Prop}, t < 0 → P := fun h => absurd h (Nat.not_lt_zero _)
  have e0 : ∀ j, zX0 pb j = nI 0 := zX0_n (by omega) (by omega) (by omega) (by omega) (by omega) (by omega)
  refine ⟨⟨start_HT, fun t ht => h0 ht, ⟨e0 _, by omega, fun t ht => h0 ht, fun r hr => h0 hr, e0 _⟩, ⟨e0 _, fun r hr => h0 hr⟩, fun r hr => h0 hr, ⟨fun u hu => h0 hu, fun s hs => ⟨[], ?_, List.nodup_nil, fun u => ⟨fun h => absurd h List.not_mem_nil, fun h => h0 h.1⟩⟩⟩, start_HA⟩, fun a b ha => h0 ha, fun q hq => absurd hq List.not_mem_nil, fun u hu => absurd hu List.not_mem_nil, fun a b h => absurd h (hE a b), fun r x hr => h0 hr, fun u v hu => h0 hu, fun t ht => h0 ht, fun u hu => h0 hu⟩
  exact zX0_fill (by omega) hs
theorem start_rel : Rel 0 zX0 zM0 := by
  have h0 : ∀ {t : Nat} {P : Prop}, t < 0 → P := fun h => absurd h (Nat.not_lt_zero _)
  have hE : ∀ a b, ¬ EX [] (TK fun _ => false) none a b := by
    rintro a b (⟨s, hs, _⟩ | h)
    · exact h0 hs
    · cases h
  have hU : ∀ a b, ¬ UX [] (TK fun _ => false) none a b := by
    rintro a b (⟨s, hs, _⟩ | h)
    · exact h0 hs
    · cases h
  have n0 : ∀ {k : Nat} (j : Nat), k ≠ 7 → k ≠ 35 → k ≠ 45 → k ≠ 55 → k ≠ 0 → k ≠ 17 → zX0 k j = nI 0 := fun j h1 h2 h3 h4 h5 h6 => zX0_n h1 h2 h3 h4 h5 h6 j
  refine ⟨(zX0_0 (by omega)).trans (zM0_0 (by omega)).symm, [], [], fun _ => false, 0, fun _ _ => false, 38, 48, ⟨⟨⟨by decide, fun t ht => h0 ht⟩, fun t u ht => h0 ht, start_HT, fun t ht => h0 ht, fun s hs => ⟨[], zX0_fill (by omega) hs, List.Pairwise.nil, fun t => ⟨fun h => absurd h List.not_mem_nil, fun h => h0 h.1⟩⟩, fun _ => 0, fun t ht => h0 ht, fun t ht => h0 ht⟩, ⟨?_, ?_, fun s hs => h0 hs, fun s hs => ?_⟩, ⟨?_, ?_, Or.inl ⟨rfl, rfl⟩⟩, ⟨_, start_JI (fun _ _ h => h) (Or.inl rfl)⟩, ⟨_, start_JI hE (Or.inr rfl)⟩⟩, ⟨⟨zM0_0 (by omega), fun t ht => h0 ht⟩, ⟨zM0_0 (by omega), fun s hs => h0 hs⟩, Or.inl (zM0_0 (by omega))⟩, ⟨⟨by decide, fun s hs => h0 hs⟩, ⟨fun s h => Bool.noConfusion h, ?_⟩, by omega, fun l hl => h0 hl⟩, ⟨⟨?_, zM0_0 (by omega), fun l hl => h0 hl⟩, ⟨0, by omega, zX0_0 (by omega), zM0_0 (by omega), fun i hi => h0 hi⟩, ⟨0, by omega, ?_, zM0_0 (by omega), fun i hi => h0 hi⟩, ?_, ⟨0, by omega, ?_, fun t ht => ⟨0, by omega, ?_⟩⟩⟩, ⟨⟨[], ⟨?_, by decide, fun j hj => h0 hj⟩, ⟨zM0_0 (by omega), by decide, fun j hj => h0 hj⟩⟩, ⟨[], ⟨?_, by decide, fun j hj => h0 hj⟩, ⟨zM0_0 (by omega), by decide, fun j hj => h0 hj⟩⟩⟩⟩
  · exact n0 _ (by omega) (by omega) (by omega) (by omega) (by omega) (by omega)
  · exact n0 _ (by omega) (by omega) (by omega) (by omega) (by omega) (by omega)
  · exact n0 _ (by omega) (by omega) (by omega) (by omega) (by omega) (by omega)
  · simp [zX0, upd, pcell]
  · simp [zX0, upd, pcell]
  · rintro (⟨a, b, h, _⟩ | ⟨u, v, hu, _⟩)
    · exact hU a b h
    · exact h0 hu
  · exact n0 _ (by omega) (by omega) (by omega) (by omega) (by omega) (by omega)
  · exact n0 _ (by omega) (by omega) (by omega) (by omega) (by omega) (by omega)
  · simp [zX0, zM0, upd]
  · exact n0 _ (by omega) (by omega) (by omega) (by omega) (by omega) (by omega)
  · exact n0 _ (by omega) (by omega) (by omega) (by omega) (by omega) (by omega)
  · exact n0 _ (by omega) (by omega) (by omega) (by omega) (by omega) (by omega)
  · exact n0 _ (by omega) (by omega) (by omega) (by omega) (by omega) (by omega)
theorem all_steps : StepOK Rel := ⟨s_name, s_number, s_built, s_row, s_even, s_kind, s_part, s_shows, s_many, s_say, s_unlike, s_drop, s_said, s_clashed, s_judge, s_why, s_least, s_because, s_head, s_member, s_uses, s_world, s_push, s_pop, s_law, s_instance, s_follow, s_ended, s_claim, s_unclaim, s_check, s_status⟩
