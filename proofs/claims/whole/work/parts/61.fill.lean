/-! Arrays.fill -/
theorem fillr_s (f : Nat → Int32) (v : Int32) (n : Nat) : upd (fillr f v n) n v = fillr f v (n + 1) := by
  funext j
  simp only [upd, fillr]
  by_cases h : j = n
  · subst h; simp
  · have : (j < n + 1) ↔ (j < n) := by omega
    simp [h, this]
theorem r_alen {D : va_G} {n : Nat} {ad : Nat → Nat} {cf : Nat → (Nat → Int32) → va_E} {cy cz : ClassId} {cc : ByteArray} {nL : Nat} {own : String} {σ : fS} {p : Program} {l : Launch} {e : Env} {R : Room} {s : State} {m : MethodId} {args : Array Value} {below : List Frame} {meth : Method} {c : Code} {H : Heap} {locs : List Loc} {Q : State → Prop} {pc : Nat} {ls : Array Slot} {rest : List Value} (hC : fC D n ad cy cz p s m args c cc nL own) (hI : fI D n ad cf σ s H locs) {k L : Nat} (ha : fAi n cf cy k L) (hdg : decode cc pc = .ok (.arraylength, 1)) (kk : W p l e R s m args below meth c H locs 0 0 Q (F0 m (pc + 1) ls (.int (nI L) :: rest))) : W p l e R s m args below meth c H locs 0 0 Q (F0 m pc ls (.ref (ad k) :: rest)) :=
  va_alen hC.1 hC.2.1 hC.2.2.2.2.2.1 hI.1 k 0 (by rw [fw_at ha.1, ha.2]) rfl (v := nI L) rfl hdg kk
abbrev rmJ7_fill : Room := { frames := 0, cells := 0, slots := 0, locals := 0 }
theorem dJ7_fill_53178_0 : decode cJ7_fill_53178 0 = .ok (.iconst 0, 1) := by decide +kernel
theorem dJ7_fill_53178_1 : decode cJ7_fill_53178 1 = .ok (.istore_n 2, 1) := by decide +kernel
theorem dJ7_fill_53178_2 : decode cJ7_fill_53178 2 = .ok (.aload_n 0, 1) := by decide +kernel
theorem dJ7_fill_53178_3 : decode cJ7_fill_53178 3 = .ok (.arraylength, 1) := by decide +kernel
theorem dJ7_fill_53178_4 : decode cJ7_fill_53178 4 = .ok (.istore_n 3, 1) := by decide +kernel
theorem dJ7_fill_53178_5 : decode cJ7_fill_53178 5 = .ok (.iload_n 2, 1) := by decide +kernel
theorem dJ7_fill_53178_6 : decode cJ7_fill_53178 6 = .ok (.iload_n 3, 1) := by decide +kernel
theorem dJ7_fill_53178_7 : decode cJ7_fill_53178 7 = .ok (.if_icmp .ge 13, 3) := by decide +kernel
theorem dJ7_fill_53178_10 : decode cJ7_fill_53178 10 = .ok (.aload_n 0, 1) := by decide +kernel
theorem dJ7_fill_53178_11 : decode cJ7_fill_53178 11 = .ok (.iload_n 2, 1) := by decide +kernel
theorem dJ7_fill_53178_12 : decode cJ7_fill_53178 12 = .ok (.iload_n 1, 1) := by decide +kernel
theorem dJ7_fill_53178_13 : decode cJ7_fill_53178 13 = .ok (.iastore, 1) := by decide +kernel
theorem dJ7_fill_53178_14 : decode cJ7_fill_53178 14 = .ok (.iinc 2 1, 3) := by decide +kernel
theorem dJ7_fill_53178_17 : decode cJ7_fill_53178 17 = .ok (.goto (-12), 3) := by decide +kernel
theorem dJ7_fill_53178_20 : decode cJ7_fill_53178 20 = .ok (.return_, 1) := by decide +kernel
set_option maxHeartbeats 4000000 in
theorem cJ7_fill_ok {D : va_G} {cy cz : ClassId} {l : Launch} {z : fS} {q N : Nat} {v : Int32} (hN : N < 2 ^ 31) : fMv D 1 (fun _ => q) (fun _ row => .inl (cy, N, .inl row)) cy cz l yJ7_fill_53178 cJ7_fill_53178 4 none rmJ7_fill [.ref q, .int v] z (fun _ => fillr (z 0) v N) := by
  refine f_bodyv (by decide) (Nat.le_of_ble_eq_true rfl) (fun p e s m args below meth c Q hC hret ls hl hI => ?_)
  have hx := hC.1
  have hb := hC.2.1
  have hl : lv_has ls 4 [(0, .ref q), (1, .int v)] := hl
  have ha : fAi 1 (fun _ row => .inl (cy, N, .inl row)) cy 0 N := ⟨by decide, fun _ => rfl⟩
  have w5 : ∀ (k i : Nat) (z1 : fS) (H : Heap) (locs : List Loc) (ls : Array Slot), i + k = N → z1 0 = fillr (z 0) v i → fI D 1 (fun _ => q) (fun _ row => .inl (cy, N, .inl row)) z1 s H locs → lv_has ls 4 [(3, .int (nI N)), (2, .int (nI i)), (0, .ref q), (1, .int v)] → W p l e rmJ7_fill s m args below meth c H locs 0 0 Q (F0 m 5 ls []) := by
    intro k
    induction k with
    | zero =>
      intro i z1 H locs ls hi hz hI hl
      have hi : i = N := by omega
      subst hi
      refine lv_iload_n hx hb dJ7_fill_53178_5 rfl (lv_at hl 1 rfl) ?_
      refine lv_iload_n hx hb dJ7_fill_53178_6 rfl (lv_at hl 0 rfl) ?_
      refine lv_icmp_ge (tgt := 20) hx hb dJ7_fill_53178_7 (by decide) (fun _ => ?_) (fun c7 => absurd (nI_le (Nat.le_refl _) hN) c7)
      refine hret rfl dJ7_fill_53178_20 ⟨?_, hI.2⟩
      have e1 : fw 1 (fun _ => q) (fun _ row => .inl (cy, i, .inl row)) z1 = fw 1 (fun _ => q) (fun _ row => .inl (cy, i, .inl row)) (fun _ => fillr (z 0) v i) := by
        show [(q, (Sum.inl (cy, i, Sum.inl (z1 0)) : va_E))] = [(q, (Sum.inl (cy, i, Sum.inl (fillr (z 0) v i)) : va_E))]
        rw [hz]
      rw [← e1]
      exact hI.1
    | succ k ih =>
      intro i z1 H locs ls hi hz hI hl
      refine lv_iload_n hx hb dJ7_fill_53178_5 rfl (lv_at hl 1 rfl) ?_
      refine lv_iload_n hx hb dJ7_fill_53178_6 rfl (lv_at hl 0 rfl) ?_
      refine lv_icmp_ge (tgt := 20) hx hb dJ7_fill_53178_7 (by decide) (fun c7 => absurd c7 (nI_ge (by omega) hN)) (fun _ => ?_)
      refine lv_aload_n hx hb dJ7_fill_53178_10 rfl (lv_at hl 2 rfl) ?_
      refine lv_iload_n hx hb dJ7_fill_53178_11 rfl (lv_at hl 1 rfl) ?_
      refine lv_iload_n hx hb dJ7_fill_53178_12 rfl (lv_at hl 3 rfl) ?_
      refine r_iast (ad := fun _ => q) (k := 0) hC hI ha (decide_eq_true (vp_in_nI (by omega) hN)) dJ7_fill_53178_13 (fun z2 H locs e13 hI => ?_)
      refine lv_iinc (v := nI (i + 1)) (lv' := [(2, .int (nI (i + 1))), (3, .int (nI N)), (0, .ref q), (1, .int v)]) hx hb dJ7_fill_53178_14 hl (k := 1) rfl (by rw [← nI_1]; rfl) (by decide) rfl (fun ls hl => ?_)
      refine lv_goto (tgt := 5) hx hb dJ7_fill_53178_17 (by decide) ?_
      refine ih (i + 1) z2 _ _ _ (by omega) ?_ hI (lv_sub hl [1, 0, 2, 3] rfl)
      rw [e13, ← fillr_s, ← hz]
      simp [wr, wrr, nI_clamp (show i < 2 ^ 31 by omega)]
  refine lv_iconst (v := 0) hx hb dJ7_fill_53178_0 (by decide) ?_
  refine lv_istore_n (lv' := [(2, .int (nI 0)), (0, .ref q), (1, .int v)]) hx hb dJ7_fill_53178_1 rfl hl (by decide) rfl (fun ls hl => ?_)
  refine lv_aload_n hx hb dJ7_fill_53178_2 rfl (lv_at hl 1 rfl) ?_
  refine r_alen (ad := fun _ => q) (k := 0) hC hI ha dJ7_fill_53178_3 ?_
  refine lv_istore_n (lv' := [(3, .int (nI N)), (2, .int (nI 0)), (0, .ref q), (1, .int v)]) hx hb dJ7_fill_53178_4 rfl hl (by decide) rfl (fun ls hl => ?_)
  exact w5 N 0 z _ _ _ (by omega) (by funext j; simp [fillr]) hI hl
section CFILL
variable {D : va_G} {cy cz : ClassId} {cc : ByteArray} {nL : Nat} {own : String} {ws : va_W} {A : Nat → Prop}
variable {p : Program} {l : Launch} {e : Env} {R : Room} {s : State} {m : MethodId} {args : Array Value} {below : List Frame} {meth : Method} {c : Code} {H : Heap} {locs : List Loc} {cells slots : Nat} {Q : State → Prop} {pc : Nat} {ls : Array Slot} {rest : List Value}
theorem c_fill (hC : cC D cy cz p s m args c cc nL own) (hA : ∀ q, s.heap.size ≤ q → A q) (hI : cI D A ws s H locs) {i q N index : Nat} {f : Nat → Int32} {v : Int32} (he : ws[i]? = some (q, .inl (cy, N, .inl f))) (hN : N < 2 ^ 31) (hlink : Cond.methodLink own index yJ7_fill_53178 ∈ TW) (hR : 1 ≤ R.frames ∧ 23 ≤ R.locals) (hls : ls.size = nL) (hroom : (rest.map fun v => v.category).sum ≤ 8) (hdg : decode cc pc = .ok (.invokestatic index, 3)) (hcs : cells ≤ R.cells ∧ slots ≤ R.slots) {ws' : va_W} (hw : ws.set i (q, .inl (cy, N, .inl (fillr f v N))) = ws')
    (kk : ∀ (H1 : Heap) (locs1 : List Loc), cI D A ws' s H1 locs1 → W p l e R s m args below meth c H1 locs1 cells slots Q (F0 m (pc + 3) ls rest)) : W p l e R s m args below meth c H locs cells slots Q (F0 m pc ls (.int v :: .ref q :: rest)) := by
  subst hw
  obtain ⟨hx, hb, hml, hown, hts, hK, hN'⟩ := id hC
  have hPc : va_P D vwCl (fw 1 (fun _ => q) (fun _ row => .inl (cy, N, .inl row)) (fun _ => f)) H := by
    intro k x hk
    obtain ⟨hk1, rfl⟩ := fw_inv hk
    exact hI.1 i _ he
  have hj : fJ 1 (fun _ => q) := fun i j hi hj _ => by omega
  have hp : ∀ U : State, U.heap = H → s.WarmedH U.vm → va_Pc [.ref q, .int v] (fB D 1 (fun _ => q) (fun _ row => .inl (cy, N, .inl row)) cy cz (fun _ => f) H.size) ([.ref q, .int v] : List Value).toArray U := fun U hU hW => ⟨rfl, by rw [hU], by rw [hU]; exact hPc, va_K.moved hW.alike hK, hj, fN.warm hW hN'⟩
  have hM := cJ7_fill_ok (D := D) (cy := cy) (cz := cz) (l := l) (z := fun _ => f) (q := q) (N := N) (v := v) hN
  have hAq : A q := hI.2.1.2 _ _ he
  have hfree : ∀ x, fA 1 (fun _ => q) H.size x → A x := fun x h => by
    rcases h with ⟨k, _, rfl⟩ | h
    · exact hAq
    · exact hA _ (Nat.le_trans hI.2.2.1 h)
  refine va_callv (va_runS (As := [.ref q, .int v]) (rest := rest) ⟨hx, hb, hml, hown, hts⟩ (hM H.size) ⟨callB_of 2 hts (fG tw_30) rfl rfl rfl (hts _ tw_3) (hts _ hlink) (by decide +kernel) ⟨hR.1, hR.2⟩, hts _ tw_29⟩ ⟨fB_blind, hp⟩ rfl rfl hls rfl (lv_room hroom) hdg ⟨hcs.1, hcs.2⟩) hI.2.2 (fun x _ h => hfree x h) hfree (fun u t H1 locs1 ht hvm hw hB hz1 hk1 hS => ?_)
  subst ht
  have hl := (List.getElem?_eq_some_iff.mp he).1
  refine kk _ locs1 ⟨fun k x hk => ?_, hI.2.1.set he, hS⟩
  by_cases hki : k = i
  · subst hki
    rw [List.getElem?_set_self hl] at hk
    cases hk
    exact hB 0 _ (fw_at (by decide))
  · rw [List.getElem?_set_ne (Ne.symm hki)] at hk
    refine (hI.1 k x hk).kept (hk1 x.1 (hI.1 k x hk).lt (fun hx => ?_))
    rcases hx with ⟨j, _, h⟩ | h
    · exact hki (hI.2.1.1 k i x _ hk he h)
    · exact absurd (hI.1 k x hk).lt (Nat.not_lt.mpr h)
end CFILL
