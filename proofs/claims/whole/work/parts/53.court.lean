theorem dX2_standing_0 : decode cX2_standing 0 = .ok (.aload_n 0, 1) := by decide +kernel
theorem dX2_standing_1 : decode cX2_standing 1 = .ok (.getfield 49, 3) := by decide +kernel
theorem dX2_standing_4 : decode cX2_standing 4 = .ok (.areturn, 1) := by decide +kernel
abbrev rmX2_standing : Room := { frames := 0, cells := 0, slots := 0, locals := 0 }
theorem ywX2_standing : fY yX2_standing "EqualCourt$Court" cX2_standing 1 (some (.object "EqualCourt$Partition")) 0 := ⟨tw_506, tw_507, tw_5, tw_508, by decide +kernel⟩
set_option maxHeartbeats 4000000 in
set_option maxRecDepth 100000 in
theorem cX2_standing_ok {D : va_G} {ad : Nat → Nat} {cy cz : ClassId} {l : Launch} {z : fS}  {r : Int32} (h : fX2_standing z = some r) : fMr D 76 ad (cfX ad cy cz) cy cz l yX2_standing cX2_standing 1 (some (.object "EqualCourt$Partition")) rmX2_standing [.ref (ad 17)] z (pcell r) z := by
  refine f_bodyr (by decide) (Nat.le_of_ble_eq_true rfl) (fun p e s m args below meth c Q hC hret ls hl hI => ?_)
  have hx := hC.1
  have hb := hC.2.1
  have hl : lv_has ls 1 [(0, .ref (ad 17))] := hl
  unfold fX2_standing at h
  refine lv_aload_n hx hb dX2_standing_0 rfl (lv_at hl 0 rfl) ?_
  refine gX2_standing hC hI tw_198 dX2_standing_1 ?_
  exact hret (ret_p _ (congrArg (Option.map pcell) h)) dX2_standing_4 hI
theorem dX2_admitFrom_0 : decode cX2_admitFrom 0 = .ok (.iload_n 1, 1) := by decide +kernel
theorem dX2_admitFrom_1 : decode cX2_admitFrom 1 = .ok (.istore_n 2, 1) := by decide +kernel
theorem dX2_admitFrom_2 : decode cX2_admitFrom 2 = .ok (.iload_n 2, 1) := by decide +kernel
theorem dX2_admitFrom_3 : decode cX2_admitFrom 3 = .ok (.aload_n 0, 1) := by decide +kernel
theorem dX2_admitFrom_4 : decode cX2_admitFrom 4 = .ok (.getfield 29, 3) := by decide +kernel
theorem dX2_admitFrom_7 : decode cX2_admitFrom 7 = .ok (.invokevirtual 55, 3) := by decide +kernel
theorem dX2_admitFrom_10 : decode cX2_admitFrom 10 = .ok (.if_icmp .ge 25, 3) := by decide +kernel
theorem dX2_admitFrom_13 : decode cX2_admitFrom 13 = .ok (.aload_n 0, 1) := by decide +kernel
theorem dX2_admitFrom_14 : decode cX2_admitFrom 14 = .ok (.getfield 45, 3) := by decide +kernel
theorem dX2_admitFrom_17 : decode cX2_admitFrom 17 = .ok (.iload_n 2, 1) := by decide +kernel
theorem dX2_admitFrom_18 : decode cX2_admitFrom 18 = .ok (.invokevirtual 61, 3) := by decide +kernel
theorem dX2_admitFrom_21 : decode cX2_admitFrom 21 = .ok (.aload_n 0, 1) := by decide +kernel
theorem dX2_admitFrom_22 : decode cX2_admitFrom 22 = .ok (.getfield 49, 3) := by decide +kernel
theorem dX2_admitFrom_25 : decode cX2_admitFrom 25 = .ok (.iload_n 2, 1) := by decide +kernel
theorem dX2_admitFrom_26 : decode cX2_admitFrom 26 = .ok (.invokevirtual 61, 3) := by decide +kernel
theorem dX2_admitFrom_29 : decode cX2_admitFrom 29 = .ok (.iinc 2 1, 3) := by decide +kernel
theorem dX2_admitFrom_32 : decode cX2_admitFrom 32 = .ok (.goto (-30), 3) := by decide +kernel
theorem dX2_admitFrom_35 : decode cX2_admitFrom 35 = .ok (.return_, 1) := by decide +kernel
abbrev rmX2_admitFrom : Room := { frames := 4, cells := 0, slots := 0, locals := 101 }
theorem ywX2_admitFrom : fY yX2_admitFrom "EqualCourt$Court" cX2_admitFrom 3 none 1 := ⟨tw_354, tw_355, tw_5, tw_356, by decide +kernel⟩
set_option maxHeartbeats 4000000 in
set_option maxRecDepth 100000 in
theorem cX2_admitFrom_ok {D : va_G} {ad : Nat → Nat} {cy cz : ClassId} {l : Launch} {z : fS} {v1 : Int32} {τ : fS} (h : fX2_admitFrom z v1 = some τ) : fMv D 76 ad (cfX ad cy cz) cy cz l yX2_admitFrom cX2_admitFrom 3 none rmX2_admitFrom [.ref (ad 17), .int v1] z τ := by
  refine f_bodyv (by decide) (Nat.le_of_ble_eq_true rfl) (fun p e s m args below meth c Q hC hret ls hl hI => ?_)
  have hx := hC.1
  have hb := hC.2.1
  have hl : lv_has ls 3 [(0, .ref (ad 17)), (1, .int v1)] := hl
  unfold fX2_admitFrom at h
  refine lv_iload_n hx hb dX2_admitFrom_0 rfl (lv_at hl 1 rfl) ?_
  refine lv_istore_n (lv' := [(2, .int v1), (0, .ref (ad 17)), (1, .int v1)]) hx hb dX2_admitFrom_1 rfl hl (by decide) rfl (fun ls hl => ?_)
  have w2 : ∀ (N2 : Nat) (v2 : Int32) (z : fS) (H : Heap) (locs : List Loc) (ls : Array Slot), fI D 76 ad (cfX ad cy cz) z s H locs → lv_has ls 3 [(0, .ref (ad 17)), (2, .int v2)] → lX2_admitFrom_2    N2 v2 z = some τ → W p l e rmX2_admitFrom s m args below meth c H locs 0 0 Q (F0 m 2 ls []) := by
    intro N2
    induction N2 with
    | zero =>
      intro v2 z H locs ls hI hl h
      exact none_no h
    | succ N2 ih2 =>
      intro v2 z H locs ls hI hl h
      rw [lX2_admitFrom_2.eq_2] at h
      refine lv_iload_n hx hb dX2_admitFrom_2 rfl (lv_at hl 1 rfl) ?_
      refine lv_aload_n hx hb dX2_admitFrom_3 rfl (lv_at hl 0 rfl) ?_
      refine gX2_terms hC hI tw_195 dX2_admitFrom_4 ?_
      replace h := bp_at h
      obtain ⟨r7, e7, h⟩ := h
      refine r_calli (rest := [.int v2]) hC hI oX_1 (C := "EqualCourt$Terms") rfl ywX7_count tw_357 (cX7_count_ok  e7) ⟨Nat.le_of_ble_eq_true rfl, Nat.le_of_ble_eq_true rfl⟩ ⟨rfl, rfl⟩ rfl hl.1 rfl (Nat.le_of_ble_eq_true rfl) dX2_admitFrom_7 (fun H locs hI => ?_)
      refine lv_icmp_ge (tgt := 35) hx hb dX2_admitFrom_10 (by decide) (fun c10 => ?_) (fun c10 => ?_)
      · replace h := if_t h c10
        exact hret h dX2_admitFrom_35 hI
      · replace h := if_f h c10
        refine lv_aload_n hx hb dX2_admitFrom_13 rfl (lv_at hl 0 rfl) ?_
        refine gX2_bare hC hI tw_197 dX2_admitFrom_14 ?_
        refine lv_iload_n hx hb dX2_admitFrom_17 rfl (lv_at hl 1 rfl) ?_
        replace h := bp_at h
        obtain ⟨z18, e18, h⟩ := h
        refine r_callv (rest := []) hC hI (oP isP_28) (C := "EqualCourt$Partition") rfl ywX4_admit tw_358 (cX4_admit_ok isP_28 e18) ⟨Nat.le_of_ble_eq_true rfl, Nat.le_of_ble_eq_true rfl⟩ ⟨rfl, rfl⟩ rfl hl.1 rfl (Nat.le_of_ble_eq_true rfl) dX2_admitFrom_18 (fun H locs hI => ?_)
        refine lv_aload_n hx hb dX2_admitFrom_21 rfl (lv_at hl 0 rfl) ?_
        refine gX2_standing hC hI tw_198 dX2_admitFrom_22 ?_
        refine lv_iload_n hx hb dX2_admitFrom_25 rfl (lv_at hl 1 rfl) ?_
        replace h := bp_at h
        obtain ⟨z26, e26, h⟩ := h
        refine r_callv (rest := []) hC hI (oP (isP_pcell _)) (C := "EqualCourt$Partition") rfl ywX4_admit tw_358 (cX4_admit_ok (isP_pcell _) e26) ⟨Nat.le_of_ble_eq_true rfl, Nat.le_of_ble_eq_true rfl⟩ ⟨rfl, rfl⟩ rfl hl.1 rfl (Nat.le_of_ble_eq_true rfl) dX2_admitFrom_26 (fun H locs hI => ?_)
        obtain ⟨x29, e29⟩ : ∃ y : Int32, y = (v2 + (1 : Int32)) := ⟨_, rfl⟩
        replace h := bnd_at h e29
        refine lv_iinc (v := x29) (lv' := [(2, .int x29), (0, .ref (ad 17))]) hx hb dX2_admitFrom_29 hl (k := 1) rfl (by rw [e29]; rfl) (by decide) rfl (fun ls hl => ?_)
        refine lv_goto (tgt := 2) hx hb dX2_admitFrom_32 (by decide) ?_
        exact ih2  x29 z26 _ _ _ hI (lv_sub hl [1, 0] rfl) h
  exact w2 FU  v1 z _ _ _ hI (lv_sub hl [1, 0] rfl) h
theorem dX2_judgeAnew_0 : decode cX2_judgeAnew 0 = .ok (.aload_n 0, 1) := by decide +kernel
theorem dX2_judgeAnew_1 : decode cX2_judgeAnew 1 = .ok (.getfield 49, 3) := by decide +kernel
theorem dX2_judgeAnew_4 : decode cX2_judgeAnew 4 = .ok (.aload_n 0, 1) := by decide +kernel
theorem dX2_judgeAnew_5 : decode cX2_judgeAnew 5 = .ok (.getfield 45, 3) := by decide +kernel
theorem dX2_judgeAnew_8 : decode cX2_judgeAnew 8 = .ok (.invokevirtual 65, 3) := by decide +kernel
theorem dX2_judgeAnew_11 : decode cX2_judgeAnew 11 = .ok (.iconst 0, 1) := by decide +kernel
theorem dX2_judgeAnew_12 : decode cX2_judgeAnew 12 = .ok (.istore_n 1, 1) := by decide +kernel
theorem dX2_judgeAnew_13 : decode cX2_judgeAnew 13 = .ok (.iload_n 1, 1) := by decide +kernel
theorem dX2_judgeAnew_14 : decode cX2_judgeAnew 14 = .ok (.aload_n 0, 1) := by decide +kernel
theorem dX2_judgeAnew_15 : decode cX2_judgeAnew 15 = .ok (.getfield 33, 3) := by decide +kernel
theorem dX2_judgeAnew_18 : decode cX2_judgeAnew 18 = .ok (.invokevirtual 69, 3) := by decide +kernel
theorem dX2_judgeAnew_21 : decode cX2_judgeAnew 21 = .ok (.if_icmp .ge 54, 3) := by decide +kernel
theorem dX2_judgeAnew_24 : decode cX2_judgeAnew 24 = .ok (.aload_n 0, 1) := by decide +kernel
theorem dX2_judgeAnew_25 : decode cX2_judgeAnew 25 = .ok (.getfield 33, 3) := by decide +kernel
theorem dX2_judgeAnew_28 : decode cX2_judgeAnew 28 = .ok (.iload_n 1, 1) := by decide +kernel
theorem dX2_judgeAnew_29 : decode cX2_judgeAnew 29 = .ok (.invokevirtual 72, 3) := by decide +kernel
theorem dX2_judgeAnew_32 : decode cX2_judgeAnew 32 = .ok (.ifCond .eq 37, 3) := by decide +kernel
theorem dX2_judgeAnew_35 : decode cX2_judgeAnew 35 = .ok (.aload_n 0, 1) := by decide +kernel
theorem dX2_judgeAnew_36 : decode cX2_judgeAnew 36 = .ok (.getfield 33, 3) := by decide +kernel
theorem dX2_judgeAnew_39 : decode cX2_judgeAnew 39 = .ok (.iload_n 1, 1) := by decide +kernel
theorem dX2_judgeAnew_40 : decode cX2_judgeAnew 40 = .ok (.invokevirtual 76, 3) := by decide +kernel
theorem dX2_judgeAnew_43 : decode cX2_judgeAnew 43 = .ok (.ifCond .eq 26, 3) := by decide +kernel
theorem dX2_judgeAnew_46 : decode cX2_judgeAnew 46 = .ok (.aload_n 0, 1) := by decide +kernel
theorem dX2_judgeAnew_47 : decode cX2_judgeAnew 47 = .ok (.getfield 49, 3) := by decide +kernel
theorem dX2_judgeAnew_50 : decode cX2_judgeAnew 50 = .ok (.aload_n 0, 1) := by decide +kernel
theorem dX2_judgeAnew_51 : decode cX2_judgeAnew 51 = .ok (.getfield 33, 3) := by decide +kernel
theorem dX2_judgeAnew_54 : decode cX2_judgeAnew 54 = .ok (.iload_n 1, 1) := by decide +kernel
theorem dX2_judgeAnew_55 : decode cX2_judgeAnew 55 = .ok (.invokevirtual 79, 3) := by decide +kernel
theorem dX2_judgeAnew_58 : decode cX2_judgeAnew 58 = .ok (.aload_n 0, 1) := by decide +kernel
theorem dX2_judgeAnew_59 : decode cX2_judgeAnew 59 = .ok (.getfield 33, 3) := by decide +kernel
theorem dX2_judgeAnew_62 : decode cX2_judgeAnew 62 = .ok (.iload_n 1, 1) := by decide +kernel
theorem dX2_judgeAnew_63 : decode cX2_judgeAnew 63 = .ok (.invokevirtual 83, 3) := by decide +kernel
theorem dX2_judgeAnew_66 : decode cX2_judgeAnew 66 = .ok (.invokevirtual 86, 3) := by decide +kernel
theorem dX2_judgeAnew_69 : decode cX2_judgeAnew 69 = .ok (.iinc 1 1, 3) := by decide +kernel
theorem dX2_judgeAnew_72 : decode cX2_judgeAnew 72 = .ok (.goto (-59), 3) := by decide +kernel
theorem dX2_judgeAnew_75 : decode cX2_judgeAnew 75 = .ok (.return_, 1) := by decide +kernel
abbrev rmX2_judgeAnew : Room := { frames := 3, cells := 0, slots := 0, locals := 80 }
theorem ywX2_judgeAnew : fY yX2_judgeAnew "EqualCourt$Court" cX2_judgeAnew 2 none 0 := ⟨tw_614, tw_615, tw_5, tw_616, by decide +kernel⟩
set_option maxHeartbeats 4000000 in
set_option maxRecDepth 100000 in
theorem cX2_judgeAnew_ok {D : va_G} {ad : Nat → Nat} {cy cz : ClassId} {l : Launch} {z : fS}  {τ : fS} (h : fX2_judgeAnew z = some τ) : fMv D 76 ad (cfX ad cy cz) cy cz l yX2_judgeAnew cX2_judgeAnew 2 none rmX2_judgeAnew [.ref (ad 17)] z τ := by
  refine f_bodyv (by decide) (Nat.le_of_ble_eq_true rfl) (fun p e s m args below meth c Q hC hret ls hl hI => ?_)
  have hx := hC.1
  have hb := hC.2.1
  have hl : lv_has ls 2 [(0, .ref (ad 17))] := hl
  unfold fX2_judgeAnew at h
  refine lv_aload_n hx hb dX2_judgeAnew_0 rfl (lv_at hl 0 rfl) ?_
  refine gX2_standing hC hI tw_198 dX2_judgeAnew_1 ?_
  refine lv_aload_n hx hb dX2_judgeAnew_4 rfl (lv_at hl 0 rfl) ?_
  refine gX2_bare hC hI tw_197 dX2_judgeAnew_5 ?_
  replace h := bp_at h
  obtain ⟨z8, e8, h⟩ := h
  refine r_callv (rest := []) hC hI (oP (isP_pcell _)) (C := "EqualCourt$Partition") rfl ywX4_copyFrom tw_525 (cX4_copyFrom_ok (isP_pcell _) isP_28 e8) ⟨Nat.le_of_ble_eq_true rfl, Nat.le_of_ble_eq_true rfl⟩ ⟨rfl, rfl⟩ rfl hl.1 rfl (Nat.le_of_ble_eq_true rfl) dX2_judgeAnew_8 (fun H locs hI => ?_)
  refine lv_iconst (v := 0) hx hb dX2_judgeAnew_11 (by decide) ?_
  refine lv_istore_n (lv' := [(1, .int (0 : Int32)), (0, .ref (ad 17))]) hx hb dX2_judgeAnew_12 rfl hl (by decide) rfl (fun ls hl => ?_)
  have w13 : ∀ (N13 : Nat) (v1 : Int32) (z : fS) (H : Heap) (locs : List Loc) (ls : Array Slot), fI D 76 ad (cfX ad cy cz) z s H locs → lv_has ls 2 [(0, .ref (ad 17)), (1, .int v1)] → lX2_judgeAnew_13    N13 v1 z = some τ → W p l e rmX2_judgeAnew s m args below meth c H locs 0 0 Q (F0 m 13 ls []) := by
    intro N13
    induction N13 with
    | zero =>
      intro v1 z H locs ls hI hl h
      exact none_no h
    | succ N13 ih13 =>
      intro v1 z H locs ls hI hl h
      rw [lX2_judgeAnew_13.eq_2] at h
      refine lv_iload_n hx hb dX2_judgeAnew_13 rfl (lv_at hl 1 rfl) ?_
      refine lv_aload_n hx hb dX2_judgeAnew_14 rfl (lv_at hl 0 rfl) ?_
      refine gX2_sayings hC hI tw_196 dX2_judgeAnew_15 ?_
      replace h := bp_at h
      obtain ⟨r18, e18, h⟩ := h
      refine r_calli (rest := [.int v1]) hC hI oX_11 (C := "EqualCourt$Sayings") rfl ywX5_count tw_537 (cX5_count_ok  e18) ⟨Nat.le_of_ble_eq_true rfl, Nat.le_of_ble_eq_true rfl⟩ ⟨rfl, rfl⟩ rfl hl.1 rfl (Nat.le_of_ble_eq_true rfl) dX2_judgeAnew_18 (fun H locs hI => ?_)
      refine lv_icmp_ge (tgt := 75) hx hb dX2_judgeAnew_21 (by decide) (fun c21 => ?_) (fun c21 => ?_)
      · replace h := if_t h c21
        exact hret h dX2_judgeAnew_75 hI
      · replace h := if_f h c21
        refine lv_aload_n hx hb dX2_judgeAnew_24 rfl (lv_at hl 0 rfl) ?_
        refine gX2_sayings hC hI tw_196 dX2_judgeAnew_25 ?_
        refine lv_iload_n hx hb dX2_judgeAnew_28 rfl (lv_at hl 1 rfl) ?_
        replace h := bp_at h
        obtain ⟨r29, e29, h⟩ := h
        refine r_calli (rest := []) hC hI oX_11 (C := "EqualCourt$Sayings") rfl ywX5_isTaken tw_538 (cX5_isTaken_ok  e29) ⟨Nat.le_of_ble_eq_true rfl, Nat.le_of_ble_eq_true rfl⟩ ⟨rfl, rfl⟩ rfl hl.1 rfl (Nat.le_of_ble_eq_true rfl) dX2_judgeAnew_29 (fun H locs hI => ?_)
        refine lv_if_eq (tgt := 69) hx hb dX2_judgeAnew_32 (by decide) (fun c32 => ?_) (fun c32 => ?_)
        · replace h := if_t h c32
          obtain ⟨x69, e69⟩ : ∃ y : Int32, y = (v1 + (1 : Int32)) := ⟨_, rfl⟩
          replace h := bnd_at h e69
          refine lv_iinc (v := x69) (lv' := [(1, .int x69), (0, .ref (ad 17))]) hx hb dX2_judgeAnew_69 hl (k := 1) rfl (by rw [e69]; rfl) (by decide) rfl (fun ls hl => ?_)
          refine lv_goto (tgt := 13) hx hb dX2_judgeAnew_72 (by decide) ?_
          exact ih13  x69 z _ _ _ hI (lv_sub hl [1, 0] rfl) h
        · replace h := if_f h c32
          refine lv_aload_n hx hb dX2_judgeAnew_35 rfl (lv_at hl 0 rfl) ?_
          refine gX2_sayings hC hI tw_196 dX2_judgeAnew_36 ?_
          refine lv_iload_n hx hb dX2_judgeAnew_39 rfl (lv_at hl 1 rfl) ?_
          replace h := bp_at h
          obtain ⟨r40, e40, h⟩ := h
          refine r_calli (rest := []) hC hI oX_11 (C := "EqualCourt$Sayings") rfl ywX5_isSame tw_542 (cX5_isSame_ok  e40) ⟨Nat.le_of_ble_eq_true rfl, Nat.le_of_ble_eq_true rfl⟩ ⟨rfl, rfl⟩ rfl hl.1 rfl (Nat.le_of_ble_eq_true rfl) dX2_judgeAnew_40 (fun H locs hI => ?_)
          refine lv_if_eq (tgt := 69) hx hb dX2_judgeAnew_43 (by decide) (fun c43 => ?_) (fun c43 => ?_)
          · replace h := if_t h c43
            obtain ⟨x69, e69⟩ : ∃ y : Int32, y = (v1 + (1 : Int32)) := ⟨_, rfl⟩
            replace h := bnd_at h e69
            refine lv_iinc (v := x69) (lv' := [(1, .int x69), (0, .ref (ad 17))]) hx hb dX2_judgeAnew_69 hl (k := 1) rfl (by rw [e69]; rfl) (by decide) rfl (fun ls hl => ?_)
            refine lv_goto (tgt := 13) hx hb dX2_judgeAnew_72 (by decide) ?_
            exact ih13  x69 z _ _ _ hI (lv_sub hl [1, 0] rfl) h
          · replace h := if_f h c43
            refine lv_aload_n hx hb dX2_judgeAnew_46 rfl (lv_at hl 0 rfl) ?_
            refine gX2_standing hC hI tw_198 dX2_judgeAnew_47 ?_
            refine lv_aload_n hx hb dX2_judgeAnew_50 rfl (lv_at hl 0 rfl) ?_
            refine gX2_sayings hC hI tw_196 dX2_judgeAnew_51 ?_
            refine lv_iload_n hx hb dX2_judgeAnew_54 rfl (lv_at hl 1 rfl) ?_
            replace h := bp_at h
            obtain ⟨r55, e55, h⟩ := h
            refine r_calli (rest := [.ref (ad (pcell (z 17 3)))]) hC hI oX_11 (C := "EqualCourt$Sayings") rfl ywX5_left tw_546 (cX5_left_ok  e55) ⟨Nat.le_of_ble_eq_true rfl, Nat.le_of_ble_eq_true rfl⟩ ⟨rfl, rfl⟩ rfl hl.1 rfl (Nat.le_of_ble_eq_true rfl) dX2_judgeAnew_55 (fun H locs hI => ?_)
            refine lv_aload_n hx hb dX2_judgeAnew_58 rfl (lv_at hl 0 rfl) ?_
            refine gX2_sayings hC hI tw_196 dX2_judgeAnew_59 ?_
            refine lv_iload_n hx hb dX2_judgeAnew_62 rfl (lv_at hl 1 rfl) ?_
            replace h := bp_at h
            obtain ⟨r63, e63, h⟩ := h
            refine r_calli (rest := [.int r55, .ref (ad (pcell (z 17 3)))]) hC hI oX_11 (C := "EqualCourt$Sayings") rfl ywX5_right tw_550 (cX5_right_ok  e63) ⟨Nat.le_of_ble_eq_true rfl, Nat.le_of_ble_eq_true rfl⟩ ⟨rfl, rfl⟩ rfl hl.1 rfl (Nat.le_of_ble_eq_true rfl) dX2_judgeAnew_63 (fun H locs hI => ?_)
            replace h := bp_at h
            obtain ⟨z66, e66, h⟩ := h
            refine r_callv (rest := []) hC hI (oP (isP_pcell _)) (C := "EqualCourt$Partition") rfl ywX4_join tw_532 (cX4_join_ok (isP_pcell _) e66) ⟨Nat.le_of_ble_eq_true rfl, Nat.le_of_ble_eq_true rfl⟩ ⟨rfl, rfl⟩ rfl hl.1 rfl (Nat.le_of_ble_eq_true rfl) dX2_judgeAnew_66 (fun H locs hI => ?_)
            obtain ⟨x69, e69⟩ : ∃ y : Int32, y = (v1 + (1 : Int32)) := ⟨_, rfl⟩
            replace h := bnd_at h e69
            refine lv_iinc (v := x69) (lv' := [(1, .int x69), (0, .ref (ad 17))]) hx hb dX2_judgeAnew_69 hl (k := 1) rfl (by rw [e69]; rfl) (by decide) rfl (fun ls hl => ?_)
            refine lv_goto (tgt := 13) hx hb dX2_judgeAnew_72 (by decide) ?_
            exact ih13  x69 z66 _ _ _ hI (lv_sub hl [1, 0] rfl) h
  exact w13 FU  (0 : Int32) z8 _ _ _ hI (lv_sub hl [1, 0] rfl) h
theorem dX2_wouldClash_0 : decode cX2_wouldClash 0 = .ok (.aload_n 0, 1) := by decide +kernel
theorem dX2_wouldClash_1 : decode cX2_wouldClash 1 = .ok (.getfield 52, 3) := by decide +kernel
theorem dX2_wouldClash_4 : decode cX2_wouldClash 4 = .ok (.aload_n 0, 1) := by decide +kernel
theorem dX2_wouldClash_5 : decode cX2_wouldClash 5 = .ok (.getfield 49, 3) := by decide +kernel
theorem dX2_wouldClash_8 : decode cX2_wouldClash 8 = .ok (.invokevirtual 65, 3) := by decide +kernel
theorem dX2_wouldClash_11 : decode cX2_wouldClash 11 = .ok (.aload_n 0, 1) := by decide +kernel
theorem dX2_wouldClash_12 : decode cX2_wouldClash 12 = .ok (.getfield 52, 3) := by decide +kernel
theorem dX2_wouldClash_15 : decode cX2_wouldClash 15 = .ok (.iload_n 1, 1) := by decide +kernel
theorem dX2_wouldClash_16 : decode cX2_wouldClash 16 = .ok (.iload_n 2, 1) := by decide +kernel
theorem dX2_wouldClash_17 : decode cX2_wouldClash 17 = .ok (.invokevirtual 86, 3) := by decide +kernel
theorem dX2_wouldClash_20 : decode cX2_wouldClash 20 = .ok (.aload_n 0, 1) := by decide +kernel
theorem dX2_wouldClash_21 : decode cX2_wouldClash 21 = .ok (.getfield 52, 3) := by decide +kernel
theorem dX2_wouldClash_24 : decode cX2_wouldClash 24 = .ok (.invokevirtual 90, 3) := by decide +kernel
theorem dX2_wouldClash_27 : decode cX2_wouldClash 27 = .ok (.ifCond .eq 5, 3) := by decide +kernel
theorem dX2_wouldClash_30 : decode cX2_wouldClash 30 = .ok (.iconst 1, 1) := by decide +kernel
theorem dX2_wouldClash_31 : decode cX2_wouldClash 31 = .ok (.ireturn, 1) := by decide +kernel
theorem dX2_wouldClash_32 : decode cX2_wouldClash 32 = .ok (.iconst 0, 1) := by decide +kernel
theorem dX2_wouldClash_33 : decode cX2_wouldClash 33 = .ok (.istore_n 3, 1) := by decide +kernel
theorem dX2_wouldClash_34 : decode cX2_wouldClash 34 = .ok (.iload_n 3, 1) := by decide +kernel
theorem dX2_wouldClash_35 : decode cX2_wouldClash 35 = .ok (.aload_n 0, 1) := by decide +kernel
theorem dX2_wouldClash_36 : decode cX2_wouldClash 36 = .ok (.getfield 33, 3) := by decide +kernel
theorem dX2_wouldClash_39 : decode cX2_wouldClash 39 = .ok (.invokevirtual 69, 3) := by decide +kernel
theorem dX2_wouldClash_42 : decode cX2_wouldClash 42 = .ok (.if_icmp .ge 59, 3) := by decide +kernel
theorem dX2_wouldClash_45 : decode cX2_wouldClash 45 = .ok (.aload_n 0, 1) := by decide +kernel
theorem dX2_wouldClash_46 : decode cX2_wouldClash 46 = .ok (.getfield 33, 3) := by decide +kernel
theorem dX2_wouldClash_49 : decode cX2_wouldClash 49 = .ok (.iload_n 3, 1) := by decide +kernel
theorem dX2_wouldClash_50 : decode cX2_wouldClash 50 = .ok (.invokevirtual 72, 3) := by decide +kernel
theorem dX2_wouldClash_53 : decode cX2_wouldClash 53 = .ok (.ifCond .eq 42, 3) := by decide +kernel
theorem dX2_wouldClash_56 : decode cX2_wouldClash 56 = .ok (.aload_n 0, 1) := by decide +kernel
theorem dX2_wouldClash_57 : decode cX2_wouldClash 57 = .ok (.getfield 33, 3) := by decide +kernel
theorem dX2_wouldClash_60 : decode cX2_wouldClash 60 = .ok (.iload_n 3, 1) := by decide +kernel
theorem dX2_wouldClash_61 : decode cX2_wouldClash 61 = .ok (.invokevirtual 76, 3) := by decide +kernel
theorem dX2_wouldClash_64 : decode cX2_wouldClash 64 = .ok (.ifCond .ne 31, 3) := by decide +kernel
theorem dX2_wouldClash_67 : decode cX2_wouldClash 67 = .ok (.aload_n 0, 1) := by decide +kernel
theorem dX2_wouldClash_68 : decode cX2_wouldClash 68 = .ok (.getfield 52, 3) := by decide +kernel
theorem dX2_wouldClash_71 : decode cX2_wouldClash 71 = .ok (.aload_n 0, 1) := by decide +kernel
theorem dX2_wouldClash_72 : decode cX2_wouldClash 72 = .ok (.getfield 33, 3) := by decide +kernel
theorem dX2_wouldClash_75 : decode cX2_wouldClash 75 = .ok (.iload_n 3, 1) := by decide +kernel
theorem dX2_wouldClash_76 : decode cX2_wouldClash 76 = .ok (.invokevirtual 79, 3) := by decide +kernel
theorem dX2_wouldClash_79 : decode cX2_wouldClash 79 = .ok (.aload_n 0, 1) := by decide +kernel
theorem dX2_wouldClash_80 : decode cX2_wouldClash 80 = .ok (.getfield 33, 3) := by decide +kernel
theorem dX2_wouldClash_83 : decode cX2_wouldClash 83 = .ok (.iload_n 3, 1) := by decide +kernel
theorem dX2_wouldClash_84 : decode cX2_wouldClash 84 = .ok (.invokevirtual 83, 3) := by decide +kernel
theorem dX2_wouldClash_87 : decode cX2_wouldClash 87 = .ok (.invokevirtual 94, 3) := by decide +kernel
theorem dX2_wouldClash_90 : decode cX2_wouldClash 90 = .ok (.ifCond .eq 5, 3) := by decide +kernel
theorem dX2_wouldClash_93 : decode cX2_wouldClash 93 = .ok (.iconst 1, 1) := by decide +kernel
theorem dX2_wouldClash_94 : decode cX2_wouldClash 94 = .ok (.ireturn, 1) := by decide +kernel
theorem dX2_wouldClash_95 : decode cX2_wouldClash 95 = .ok (.iinc 3 1, 3) := by decide +kernel
theorem dX2_wouldClash_98 : decode cX2_wouldClash 98 = .ok (.goto (-64), 3) := by decide +kernel
theorem dX2_wouldClash_101 : decode cX2_wouldClash 101 = .ok (.iconst 0, 1) := by decide +kernel
theorem dX2_wouldClash_102 : decode cX2_wouldClash 102 = .ok (.ireturn, 1) := by decide +kernel
abbrev rmX2_wouldClash : Room := { frames := 3, cells := 0, slots := 0, locals := 80 }
theorem ywX2_wouldClash : fY yX2_wouldClash "EqualCourt$Court" cX2_wouldClash 4 (some .boolean) 2 := ⟨tw_522, tw_523, tw_5, tw_524, by decide +kernel⟩
set_option maxHeartbeats 4000000 in
set_option maxRecDepth 100000 in
theorem cX2_wouldClash_ok {D : va_G} {ad : Nat → Nat} {cy cz : ClassId} {l : Launch} {z : fS} {v1 : Int32} {v2 : Int32} {r : Int32} {τ : fS} (h : fX2_wouldClash z v1 v2 = some (r, τ)) : fMi D 76 ad (cfX ad cy cz) cy cz l yX2_wouldClash cX2_wouldClash 4 (some .boolean) rmX2_wouldClash [.ref (ad 17), .int v1, .int v2] z r τ := by
  refine f_bodyz (by decide) (Nat.le_of_ble_eq_true rfl) (fun p e s m args below meth c Q hC hret ls hl hI => ?_)
  have hx := hC.1
  have hb := hC.2.1
  have hl : lv_has ls 4 [(0, .ref (ad 17)), (1, .int v1), (2, .int v2)] := hl
  unfold fX2_wouldClash at h
  refine lv_aload_n hx hb dX2_wouldClash_0 rfl (lv_at hl 0 rfl) ?_
  refine gX2_trial hC hI tw_199 dX2_wouldClash_1 ?_
  refine lv_aload_n hx hb dX2_wouldClash_4 rfl (lv_at hl 0 rfl) ?_
  refine gX2_standing hC hI tw_198 dX2_wouldClash_5 ?_
  replace h := bp_at h
  obtain ⟨z8, e8, h⟩ := h
  refine r_callv (rest := []) hC hI (oP (isP_pcell _)) (C := "EqualCourt$Partition") rfl ywX4_copyFrom tw_525 (cX4_copyFrom_ok (isP_pcell _) (isP_pcell _) e8) ⟨Nat.le_of_ble_eq_true rfl, Nat.le_of_ble_eq_true rfl⟩ ⟨rfl, rfl⟩ rfl hl.1 rfl (Nat.le_of_ble_eq_true rfl) dX2_wouldClash_8 (fun H locs hI => ?_)
  refine lv_aload_n hx hb dX2_wouldClash_11 rfl (lv_at hl 0 rfl) ?_
  refine gX2_trial hC hI tw_199 dX2_wouldClash_12 ?_
  refine lv_iload_n hx hb dX2_wouldClash_15 rfl (lv_at hl 1 rfl) ?_
  refine lv_iload_n hx hb dX2_wouldClash_16 rfl (lv_at hl 2 rfl) ?_
  replace h := bp_at h
  obtain ⟨z17, e17, h⟩ := h
  refine r_callv (rest := []) hC hI (oP (isP_pcell _)) (C := "EqualCourt$Partition") rfl ywX4_join tw_532 (cX4_join_ok (isP_pcell _) e17) ⟨Nat.le_of_ble_eq_true rfl, Nat.le_of_ble_eq_true rfl⟩ ⟨rfl, rfl⟩ rfl hl.1 rfl (Nat.le_of_ble_eq_true rfl) dX2_wouldClash_17 (fun H locs hI => ?_)
  refine lv_aload_n hx hb dX2_wouldClash_20 rfl (lv_at hl 0 rfl) ?_
  refine gX2_trial hC hI tw_199 dX2_wouldClash_21 ?_
  replace h := bp_at h
  obtain ⟨r24, e24, h⟩ := h
  refine r_calli (rest := []) hC hI (oP (isP_pcell _)) (C := "EqualCourt$Partition") rfl ywX4_isTorn tw_533 (cX4_isTorn_ok (isP_pcell _) e24) ⟨Nat.le_of_ble_eq_true rfl, Nat.le_of_ble_eq_true rfl⟩ ⟨rfl, rfl⟩ rfl hl.1 rfl (Nat.le_of_ble_eq_true rfl) dX2_wouldClash_24 (fun H locs hI => ?_)
  refine lv_if_eq (tgt := 32) hx hb dX2_wouldClash_27 (by decide) (fun c27 => ?_) (fun c27 => ?_)
  · replace h := if_t h c27
    refine lv_iconst (v := 0) hx hb dX2_wouldClash_32 (by decide) ?_
    refine lv_istore_n (lv' := [(3, .int (0 : Int32)), (0, .ref (ad 17)), (1, .int v1), (2, .int v2)]) hx hb dX2_wouldClash_33 rfl hl (by decide) rfl (fun ls hl => ?_)
    have w34 : ∀ (N34 : Nat) (z : fS) (v3 : Int32) (H : Heap) (locs : List Loc) (ls : Array Slot), fI D 76 ad (cfX ad cy cz) z s H locs → lv_has ls 4 [(0, .ref (ad 17)), (3, .int v3)] → lX2_wouldClash_34   z N34 v3 = some (r, τ) → W p l e rmX2_wouldClash s m args below meth c H locs 0 0 Q (F0 m 34 ls []) := by
      intro N34
      induction N34 with
      | zero =>
        intro z v3 H locs ls hI hl h
        exact none_no h
      | succ N34 ih34 =>
        intro z v3 H locs ls hI hl h
        rw [lX2_wouldClash_34.eq_2] at h
        refine lv_iload_n hx hb dX2_wouldClash_34 rfl (lv_at hl 1 rfl) ?_
        refine lv_aload_n hx hb dX2_wouldClash_35 rfl (lv_at hl 0 rfl) ?_
        refine gX2_sayings hC hI tw_196 dX2_wouldClash_36 ?_
        replace h := bp_at h
        obtain ⟨r39, e39, h⟩ := h
        refine r_calli (rest := [.int v3]) hC hI oX_11 (C := "EqualCourt$Sayings") rfl ywX5_count tw_537 (cX5_count_ok  e39) ⟨Nat.le_of_ble_eq_true rfl, Nat.le_of_ble_eq_true rfl⟩ ⟨rfl, rfl⟩ rfl hl.1 rfl (Nat.le_of_ble_eq_true rfl) dX2_wouldClash_39 (fun H locs hI => ?_)
        refine lv_icmp_ge (tgt := 101) hx hb dX2_wouldClash_42 (by decide) (fun c42 => ?_) (fun c42 => ?_)
        · replace h := if_t h c42
          refine lv_iconst (v := 0) hx hb dX2_wouldClash_101 (by decide) ?_
          exact hret h (by decide) dX2_wouldClash_102 hI
        · replace h := if_f h c42
          refine lv_aload_n hx hb dX2_wouldClash_45 rfl (lv_at hl 0 rfl) ?_
          refine gX2_sayings hC hI tw_196 dX2_wouldClash_46 ?_
          refine lv_iload_n hx hb dX2_wouldClash_49 rfl (lv_at hl 1 rfl) ?_
          replace h := bp_at h
          obtain ⟨r50, e50, h⟩ := h
          refine r_calli (rest := []) hC hI oX_11 (C := "EqualCourt$Sayings") rfl ywX5_isTaken tw_538 (cX5_isTaken_ok  e50) ⟨Nat.le_of_ble_eq_true rfl, Nat.le_of_ble_eq_true rfl⟩ ⟨rfl, rfl⟩ rfl hl.1 rfl (Nat.le_of_ble_eq_true rfl) dX2_wouldClash_50 (fun H locs hI => ?_)
          refine lv_if_eq (tgt := 95) hx hb dX2_wouldClash_53 (by decide) (fun c53 => ?_) (fun c53 => ?_)
          · replace h := if_t h c53
            obtain ⟨x95, e95⟩ : ∃ y : Int32, y = (v3 + (1 : Int32)) := ⟨_, rfl⟩
            replace h := bnd_at h e95
            refine lv_iinc (v := x95) (lv' := [(3, .int x95), (0, .ref (ad 17))]) hx hb dX2_wouldClash_95 hl (k := 1) rfl (by rw [e95]; rfl) (by decide) rfl (fun ls hl => ?_)
            refine lv_goto (tgt := 34) hx hb dX2_wouldClash_98 (by decide) ?_
            exact ih34 z x95 _ _ _ hI (lv_sub hl [1, 0] rfl) h
          · replace h := if_f h c53
            refine lv_aload_n hx hb dX2_wouldClash_56 rfl (lv_at hl 0 rfl) ?_
            refine gX2_sayings hC hI tw_196 dX2_wouldClash_57 ?_
            refine lv_iload_n hx hb dX2_wouldClash_60 rfl (lv_at hl 1 rfl) ?_
            replace h := bp_at h
            obtain ⟨r61, e61, h⟩ := h
            refine r_calli (rest := []) hC hI oX_11 (C := "EqualCourt$Sayings") rfl ywX5_isSame tw_542 (cX5_isSame_ok  e61) ⟨Nat.le_of_ble_eq_true rfl, Nat.le_of_ble_eq_true rfl⟩ ⟨rfl, rfl⟩ rfl hl.1 rfl (Nat.le_of_ble_eq_true rfl) dX2_wouldClash_61 (fun H locs hI => ?_)
            refine lv_if_ne (tgt := 95) hx hb dX2_wouldClash_64 (by decide) (fun c64 => ?_) (fun c64 => ?_)
            · replace h := if_f h c64
              obtain ⟨x95, e95⟩ : ∃ y : Int32, y = (v3 + (1 : Int32)) := ⟨_, rfl⟩
              replace h := bnd_at h e95
              refine lv_iinc (v := x95) (lv' := [(3, .int x95), (0, .ref (ad 17))]) hx hb dX2_wouldClash_95 hl (k := 1) rfl (by rw [e95]; rfl) (by decide) rfl (fun ls hl => ?_)
              refine lv_goto (tgt := 34) hx hb dX2_wouldClash_98 (by decide) ?_
              exact ih34 z x95 _ _ _ hI (lv_sub hl [1, 0] rfl) h
            · replace h := if_t h c64
              refine lv_aload_n hx hb dX2_wouldClash_67 rfl (lv_at hl 0 rfl) ?_
              refine gX2_trial hC hI tw_199 dX2_wouldClash_68 ?_
              refine lv_aload_n hx hb dX2_wouldClash_71 rfl (lv_at hl 0 rfl) ?_
              refine gX2_sayings hC hI tw_196 dX2_wouldClash_72 ?_
              refine lv_iload_n hx hb dX2_wouldClash_75 rfl (lv_at hl 1 rfl) ?_
              replace h := bp_at h
              obtain ⟨r76, e76, h⟩ := h
              refine r_calli (rest := [.ref (ad (pcell (z 17 4)))]) hC hI oX_11 (C := "EqualCourt$Sayings") rfl ywX5_left tw_546 (cX5_left_ok  e76) ⟨Nat.le_of_ble_eq_true rfl, Nat.le_of_ble_eq_true rfl⟩ ⟨rfl, rfl⟩ rfl hl.1 rfl (Nat.le_of_ble_eq_true rfl) dX2_wouldClash_76 (fun H locs hI => ?_)
              refine lv_aload_n hx hb dX2_wouldClash_79 rfl (lv_at hl 0 rfl) ?_
              refine gX2_sayings hC hI tw_196 dX2_wouldClash_80 ?_
              refine lv_iload_n hx hb dX2_wouldClash_83 rfl (lv_at hl 1 rfl) ?_
              replace h := bp_at h
              obtain ⟨r84, e84, h⟩ := h
              refine r_calli (rest := [.int r76, .ref (ad (pcell (z 17 4)))]) hC hI oX_11 (C := "EqualCourt$Sayings") rfl ywX5_right tw_550 (cX5_right_ok  e84) ⟨Nat.le_of_ble_eq_true rfl, Nat.le_of_ble_eq_true rfl⟩ ⟨rfl, rfl⟩ rfl hl.1 rfl (Nat.le_of_ble_eq_true rfl) dX2_wouldClash_84 (fun H locs hI => ?_)
              replace h := bp_at h
              obtain ⟨r87, e87, h⟩ := h
              refine r_calli (rest := []) hC hI (oP (isP_pcell _)) (C := "EqualCourt$Partition") rfl ywX4_isOne tw_554 (cX4_isOne_ok (isP_pcell _) e87) ⟨Nat.le_of_ble_eq_true rfl, Nat.le_of_ble_eq_true rfl⟩ ⟨rfl, rfl⟩ rfl hl.1 rfl (Nat.le_of_ble_eq_true rfl) dX2_wouldClash_87 (fun H locs hI => ?_)
              refine lv_if_eq (tgt := 95) hx hb dX2_wouldClash_90 (by decide) (fun c90 => ?_) (fun c90 => ?_)
              · replace h := if_t h c90
                obtain ⟨x95, e95⟩ : ∃ y : Int32, y = (v3 + (1 : Int32)) := ⟨_, rfl⟩
                replace h := bnd_at h e95
                refine lv_iinc (v := x95) (lv' := [(3, .int x95), (0, .ref (ad 17))]) hx hb dX2_wouldClash_95 hl (k := 1) rfl (by rw [e95]; rfl) (by decide) rfl (fun ls hl => ?_)
                refine lv_goto (tgt := 34) hx hb dX2_wouldClash_98 (by decide) ?_
                exact ih34 z x95 _ _ _ hI (lv_sub hl [1, 0] rfl) h
              · replace h := if_f h c90
                refine lv_iconst (v := 1) hx hb dX2_wouldClash_93 (by decide) ?_
                exact hret h (by decide) dX2_wouldClash_94 hI
    exact w34 FU z17 (0 : Int32) _ _ _ hI (lv_sub hl [1, 0] rfl) h
  · replace h := if_f h c27
    refine lv_iconst (v := 1) hx hb dX2_wouldClash_30 (by decide) ?_
    exact hret h (by decide) dX2_wouldClash_31 hI
theorem dX2_acceptTrial_0 : decode cX2_acceptTrial 0 = .ok (.aload_n 0, 1) := by decide +kernel
theorem dX2_acceptTrial_1 : decode cX2_acceptTrial 1 = .ok (.getfield 49, 3) := by decide +kernel
theorem dX2_acceptTrial_4 : decode cX2_acceptTrial 4 = .ok (.astore_n 1, 1) := by decide +kernel
theorem dX2_acceptTrial_5 : decode cX2_acceptTrial 5 = .ok (.aload_n 0, 1) := by decide +kernel
theorem dX2_acceptTrial_6 : decode cX2_acceptTrial 6 = .ok (.aload_n 0, 1) := by decide +kernel
theorem dX2_acceptTrial_7 : decode cX2_acceptTrial 7 = .ok (.getfield 52, 3) := by decide +kernel
theorem dX2_acceptTrial_10 : decode cX2_acceptTrial 10 = .ok (.putfield 49, 3) := by decide +kernel
theorem dX2_acceptTrial_13 : decode cX2_acceptTrial 13 = .ok (.aload_n 0, 1) := by decide +kernel
theorem dX2_acceptTrial_14 : decode cX2_acceptTrial 14 = .ok (.aload_n 1, 1) := by decide +kernel
theorem dX2_acceptTrial_15 : decode cX2_acceptTrial 15 = .ok (.putfield 52, 3) := by decide +kernel
theorem dX2_acceptTrial_18 : decode cX2_acceptTrial 18 = .ok (.return_, 1) := by decide +kernel
abbrev rmX2_acceptTrial : Room := { frames := 0, cells := 0, slots := 0, locals := 0 }
theorem ywX2_acceptTrial : fY yX2_acceptTrial "EqualCourt$Court" cX2_acceptTrial 2 none 0 := ⟨tw_587, tw_588, tw_5, tw_589, by decide +kernel⟩
set_option maxHeartbeats 4000000 in
set_option maxRecDepth 100000 in
theorem cX2_acceptTrial_ok {D : va_G} {ad : Nat → Nat} {cy cz : ClassId} {l : Launch} {z : fS}  {τ : fS} (h : fX2_acceptTrial z = some τ) : fMv D 76 ad (cfX ad cy cz) cy cz l yX2_acceptTrial cX2_acceptTrial 2 none rmX2_acceptTrial [.ref (ad 17)] z τ := by
  refine f_bodyv (by decide) (Nat.le_of_ble_eq_true rfl) (fun p e s m args below meth c Q hC hret ls hl hI => ?_)
  have hx := hC.1
  have hb := hC.2.1
  have hl : lv_has ls 2 [(0, .ref (ad 17))] := hl
  unfold fX2_acceptTrial at h
  refine lv_aload_n hx hb dX2_acceptTrial_0 rfl (lv_at hl 0 rfl) ?_
  refine gX2_standing hC hI tw_198 dX2_acceptTrial_1 ?_
  refine lv_astore_n (lv' := [(1, .ref (ad (pcell (z 17 3)))), (0, .ref (ad 17))]) hx hb dX2_acceptTrial_4 rfl hl (by decide) rfl (fun ls hl => ?_)
  refine lv_aload_n hx hb dX2_acceptTrial_5 rfl (lv_at hl 1 rfl) ?_
  refine lv_aload_n hx hb dX2_acceptTrial_6 rfl (lv_at hl 1 rfl) ?_
  refine gX2_trial hC hI tw_199 dX2_acceptTrial_7 ?_
  refine pX2_standing hC hI tw_198 dX2_acceptTrial_10 (fun z10 H locs e10 hI => ?_)
  replace h := bnd_at h e10
  refine lv_aload_n hx hb dX2_acceptTrial_13 rfl (lv_at hl 1 rfl) ?_
  refine lv_aload_n hx hb dX2_acceptTrial_14 rfl (lv_at hl 0 rfl) ?_
  refine pX2_trial hC hI tw_199 dX2_acceptTrial_15 (fun z15 H locs e15 hI => ?_)
  replace h := bnd_at h e15
  exact hret h dX2_acceptTrial_18 hI
theorem dX2_addToTrial_0 : decode cX2_addToTrial 0 = .ok (.aload_n 0, 1) := by decide +kernel
theorem dX2_addToTrial_1 : decode cX2_addToTrial 1 = .ok (.getfield 33, 3) := by decide +kernel
theorem dX2_addToTrial_4 : decode cX2_addToTrial 4 = .ok (.iload_n 1, 1) := by decide +kernel
theorem dX2_addToTrial_5 : decode cX2_addToTrial 5 = .ok (.invokevirtual 76, 3) := by decide +kernel
theorem dX2_addToTrial_8 : decode cX2_addToTrial 8 = .ok (.ifCond .ne 13, 3) := by decide +kernel
theorem dX2_addToTrial_11 : decode cX2_addToTrial 11 = .ok (.aload_n 0, 1) := by decide +kernel
theorem dX2_addToTrial_12 : decode cX2_addToTrial 12 = .ok (.getfield 12, 3) := by decide +kernel
theorem dX2_addToTrial_15 : decode cX2_addToTrial 15 = .ok (.iload_n 1, 1) := by decide +kernel
theorem dX2_addToTrial_16 : decode cX2_addToTrial 16 = .ok (.invokevirtual 112, 3) := by decide +kernel
theorem dX2_addToTrial_19 : decode cX2_addToTrial 19 = .ok (.iconst 1, 1) := by decide +kernel
theorem dX2_addToTrial_20 : decode cX2_addToTrial 20 = .ok (.ireturn, 1) := by decide +kernel
theorem dX2_addToTrial_21 : decode cX2_addToTrial 21 = .ok (.aload_n 0, 1) := by decide +kernel
theorem dX2_addToTrial_22 : decode cX2_addToTrial 22 = .ok (.getfield 52, 3) := by decide +kernel
theorem dX2_addToTrial_25 : decode cX2_addToTrial 25 = .ok (.invokevirtual 90, 3) := by decide +kernel
theorem dX2_addToTrial_28 : decode cX2_addToTrial 28 = .ok (.ifCond .ne 29, 3) := by decide +kernel
theorem dX2_addToTrial_31 : decode cX2_addToTrial 31 = .ok (.aload_n 0, 1) := by decide +kernel
theorem dX2_addToTrial_32 : decode cX2_addToTrial 32 = .ok (.getfield 52, 3) := by decide +kernel
theorem dX2_addToTrial_35 : decode cX2_addToTrial 35 = .ok (.aload_n 0, 1) := by decide +kernel
theorem dX2_addToTrial_36 : decode cX2_addToTrial 36 = .ok (.getfield 33, 3) := by decide +kernel
theorem dX2_addToTrial_39 : decode cX2_addToTrial 39 = .ok (.iload_n 1, 1) := by decide +kernel
theorem dX2_addToTrial_40 : decode cX2_addToTrial 40 = .ok (.invokevirtual 79, 3) := by decide +kernel
theorem dX2_addToTrial_43 : decode cX2_addToTrial 43 = .ok (.aload_n 0, 1) := by decide +kernel
theorem dX2_addToTrial_44 : decode cX2_addToTrial 44 = .ok (.getfield 33, 3) := by decide +kernel
theorem dX2_addToTrial_47 : decode cX2_addToTrial 47 = .ok (.iload_n 1, 1) := by decide +kernel
theorem dX2_addToTrial_48 : decode cX2_addToTrial 48 = .ok (.invokevirtual 83, 3) := by decide +kernel
theorem dX2_addToTrial_51 : decode cX2_addToTrial 51 = .ok (.invokevirtual 94, 3) := by decide +kernel
theorem dX2_addToTrial_54 : decode cX2_addToTrial 54 = .ok (.ifCond .eq 5, 3) := by decide +kernel
theorem dX2_addToTrial_57 : decode cX2_addToTrial 57 = .ok (.iconst 0, 1) := by decide +kernel
theorem dX2_addToTrial_58 : decode cX2_addToTrial 58 = .ok (.ireturn, 1) := by decide +kernel
theorem dX2_addToTrial_59 : decode cX2_addToTrial 59 = .ok (.aload_n 0, 1) := by decide +kernel
theorem dX2_addToTrial_60 : decode cX2_addToTrial 60 = .ok (.getfield 52, 3) := by decide +kernel
theorem dX2_addToTrial_63 : decode cX2_addToTrial 63 = .ok (.aload_n 0, 1) := by decide +kernel
theorem dX2_addToTrial_64 : decode cX2_addToTrial 64 = .ok (.getfield 33, 3) := by decide +kernel
theorem dX2_addToTrial_67 : decode cX2_addToTrial 67 = .ok (.iload_n 1, 1) := by decide +kernel
theorem dX2_addToTrial_68 : decode cX2_addToTrial 68 = .ok (.invokevirtual 79, 3) := by decide +kernel
theorem dX2_addToTrial_71 : decode cX2_addToTrial 71 = .ok (.aload_n 0, 1) := by decide +kernel
theorem dX2_addToTrial_72 : decode cX2_addToTrial 72 = .ok (.getfield 33, 3) := by decide +kernel
theorem dX2_addToTrial_75 : decode cX2_addToTrial 75 = .ok (.iload_n 1, 1) := by decide +kernel
theorem dX2_addToTrial_76 : decode cX2_addToTrial 76 = .ok (.invokevirtual 83, 3) := by decide +kernel
theorem dX2_addToTrial_79 : decode cX2_addToTrial 79 = .ok (.invokevirtual 86, 3) := by decide +kernel
theorem dX2_addToTrial_82 : decode cX2_addToTrial 82 = .ok (.iconst 1, 1) := by decide +kernel
theorem dX2_addToTrial_83 : decode cX2_addToTrial 83 = .ok (.ireturn, 1) := by decide +kernel
abbrev rmX2_addToTrial : Room := { frames := 3, cells := 0, slots := 0, locals := 80 }
theorem ywX2_addToTrial : fY yX2_addToTrial "EqualCourt$Court" cX2_addToTrial 2 (some .boolean) 1 := ⟨tw_576, tp_9, tw_5, tw_577, by decide +kernel⟩
set_option maxHeartbeats 4000000 in
set_option maxRecDepth 100000 in
theorem cX2_addToTrial_ok {D : va_G} {ad : Nat → Nat} {cy cz : ClassId} {l : Launch} {z : fS} {v1 : Int32} {r : Int32} {τ : fS} (h : fX2_addToTrial z v1 = some (r, τ)) : fMi D 76 ad (cfX ad cy cz) cy cz l yX2_addToTrial cX2_addToTrial 2 (some .boolean) rmX2_addToTrial [.ref (ad 17), .int v1] z r τ := by
  refine f_bodyz (by decide) (Nat.le_of_ble_eq_true rfl) (fun p e s m args below meth c Q hC hret ls hl hI => ?_)
  have hx := hC.1
  have hb := hC.2.1
  have hl : lv_has ls 2 [(0, .ref (ad 17)), (1, .int v1)] := hl
  unfold fX2_addToTrial at h
  refine lv_aload_n hx hb dX2_addToTrial_0 rfl (lv_at hl 0 rfl) ?_
  refine gX2_sayings hC hI tw_196 dX2_addToTrial_1 ?_
  refine lv_iload_n hx hb dX2_addToTrial_4 rfl (lv_at hl 1 rfl) ?_
  replace h := bp_at h
  obtain ⟨r5, e5, h⟩ := h
  refine r_calli (rest := []) hC hI oX_11 (C := "EqualCourt$Sayings") rfl ywX5_isSame tw_542 (cX5_isSame_ok  e5) ⟨Nat.le_of_ble_eq_true rfl, Nat.le_of_ble_eq_true rfl⟩ ⟨rfl, rfl⟩ rfl hl.1 rfl (Nat.le_of_ble_eq_true rfl) dX2_addToTrial_5 (fun H locs hI => ?_)
  refine lv_if_ne (tgt := 21) hx hb dX2_addToTrial_8 (by decide) (fun c8 => ?_) (fun c8 => ?_)
  · replace h := if_f h c8
    refine lv_aload_n hx hb dX2_addToTrial_21 rfl (lv_at hl 0 rfl) ?_
    refine gX2_trial hC hI tw_199 dX2_addToTrial_22 ?_
    replace h := bp_at h
    obtain ⟨r25, e25, h⟩ := h
    refine r_calli (rest := []) hC hI (oP (isP_pcell _)) (C := "EqualCourt$Partition") rfl ywX4_isTorn tw_533 (cX4_isTorn_ok (isP_pcell _) e25) ⟨Nat.le_of_ble_eq_true rfl, Nat.le_of_ble_eq_true rfl⟩ ⟨rfl, rfl⟩ rfl hl.1 rfl (Nat.le_of_ble_eq_true rfl) dX2_addToTrial_25 (fun H locs hI => ?_)
    refine lv_if_ne (tgt := 57) hx hb dX2_addToTrial_28 (by decide) (fun c28 => ?_) (fun c28 => ?_)
    · replace h := if_f h c28
      refine lv_iconst (v := 0) hx hb dX2_addToTrial_57 (by decide) ?_
      exact hret h (by decide) dX2_addToTrial_58 hI
    · replace h := if_t h c28
      refine lv_aload_n hx hb dX2_addToTrial_31 rfl (lv_at hl 0 rfl) ?_
      refine gX2_trial hC hI tw_199 dX2_addToTrial_32 ?_
      refine lv_aload_n hx hb dX2_addToTrial_35 rfl (lv_at hl 0 rfl) ?_
      refine gX2_sayings hC hI tw_196 dX2_addToTrial_36 ?_
      refine lv_iload_n hx hb dX2_addToTrial_39 rfl (lv_at hl 1 rfl) ?_
      replace h := bp_at h
      obtain ⟨r40, e40, h⟩ := h
      refine r_calli (rest := [.ref (ad (pcell (z 17 4)))]) hC hI oX_11 (C := "EqualCourt$Sayings") rfl ywX5_left tw_546 (cX5_left_ok  e40) ⟨Nat.le_of_ble_eq_true rfl, Nat.le_of_ble_eq_true rfl⟩ ⟨rfl, rfl⟩ rfl hl.1 rfl (Nat.le_of_ble_eq_true rfl) dX2_addToTrial_40 (fun H locs hI => ?_)
      refine lv_aload_n hx hb dX2_addToTrial_43 rfl (lv_at hl 0 rfl) ?_
      refine gX2_sayings hC hI tw_196 dX2_addToTrial_44 ?_
      refine lv_iload_n hx hb dX2_addToTrial_47 rfl (lv_at hl 1 rfl) ?_
      replace h := bp_at h
      obtain ⟨r48, e48, h⟩ := h
      refine r_calli (rest := [.int r40, .ref (ad (pcell (z 17 4)))]) hC hI oX_11 (C := "EqualCourt$Sayings") rfl ywX5_right tw_550 (cX5_right_ok  e48) ⟨Nat.le_of_ble_eq_true rfl, Nat.le_of_ble_eq_true rfl⟩ ⟨rfl, rfl⟩ rfl hl.1 rfl (Nat.le_of_ble_eq_true rfl) dX2_addToTrial_48 (fun H locs hI => ?_)
      replace h := bp_at h
      obtain ⟨r51, e51, h⟩ := h
      refine r_calli (rest := []) hC hI (oP (isP_pcell _)) (C := "EqualCourt$Partition") rfl ywX4_isOne tw_554 (cX4_isOne_ok (isP_pcell _) e51) ⟨Nat.le_of_ble_eq_true rfl, Nat.le_of_ble_eq_true rfl⟩ ⟨rfl, rfl⟩ rfl hl.1 rfl (Nat.le_of_ble_eq_true rfl) dX2_addToTrial_51 (fun H locs hI => ?_)
      refine lv_if_eq (tgt := 59) hx hb dX2_addToTrial_54 (by decide) (fun c54 => ?_) (fun c54 => ?_)
      · replace h := if_t h c54
        refine lv_aload_n hx hb dX2_addToTrial_59 rfl (lv_at hl 0 rfl) ?_
        refine gX2_trial hC hI tw_199 dX2_addToTrial_60 ?_
        refine lv_aload_n hx hb dX2_addToTrial_63 rfl (lv_at hl 0 rfl) ?_
        refine gX2_sayings hC hI tw_196 dX2_addToTrial_64 ?_
        refine lv_iload_n hx hb dX2_addToTrial_67 rfl (lv_at hl 1 rfl) ?_
        replace h := bp_at h
        obtain ⟨r68, e68, h⟩ := h
        refine r_calli (rest := [.ref (ad (pcell (z 17 4)))]) hC hI oX_11 (C := "EqualCourt$Sayings") rfl ywX5_left tw_546 (cX5_left_ok  e68) ⟨Nat.le_of_ble_eq_true rfl, Nat.le_of_ble_eq_true rfl⟩ ⟨rfl, rfl⟩ rfl hl.1 rfl (Nat.le_of_ble_eq_true rfl) dX2_addToTrial_68 (fun H locs hI => ?_)
        refine lv_aload_n hx hb dX2_addToTrial_71 rfl (lv_at hl 0 rfl) ?_
        refine gX2_sayings hC hI tw_196 dX2_addToTrial_72 ?_
        refine lv_iload_n hx hb dX2_addToTrial_75 rfl (lv_at hl 1 rfl) ?_
        replace h := bp_at h
        obtain ⟨r76, e76, h⟩ := h
        refine r_calli (rest := [.int r68, .ref (ad (pcell (z 17 4)))]) hC hI oX_11 (C := "EqualCourt$Sayings") rfl ywX5_right tw_550 (cX5_right_ok  e76) ⟨Nat.le_of_ble_eq_true rfl, Nat.le_of_ble_eq_true rfl⟩ ⟨rfl, rfl⟩ rfl hl.1 rfl (Nat.le_of_ble_eq_true rfl) dX2_addToTrial_76 (fun H locs hI => ?_)
        replace h := bp_at h
        obtain ⟨z79, e79, h⟩ := h
        refine r_callv (rest := []) hC hI (oP (isP_pcell _)) (C := "EqualCourt$Partition") rfl ywX4_join tw_532 (cX4_join_ok (isP_pcell _) e79) ⟨Nat.le_of_ble_eq_true rfl, Nat.le_of_ble_eq_true rfl⟩ ⟨rfl, rfl⟩ rfl hl.1 rfl (Nat.le_of_ble_eq_true rfl) dX2_addToTrial_79 (fun H locs hI => ?_)
        refine lv_iconst (v := 1) hx hb dX2_addToTrial_82 (by decide) ?_
        exact hret h (by decide) dX2_addToTrial_83 hI
      · replace h := if_f h c54
        refine lv_iconst (v := 0) hx hb dX2_addToTrial_57 (by decide) ?_
        exact hret h (by decide) dX2_addToTrial_58 hI
  · replace h := if_t h c8
    refine lv_aload_n hx hb dX2_addToTrial_11 rfl (lv_at hl 0 rfl) ?_
    refine gX2_unlikes hC hI tw_200 dX2_addToTrial_12 ?_
    refine lv_iload_n hx hb dX2_addToTrial_15 rfl (lv_at hl 1 rfl) ?_
    replace h := bp_at h
    obtain ⟨z16, e16, h⟩ := h
    refine r_callv (rest := []) hC hI (oK isK_18) (C := "EqualCourt$Core") rfl ywX1_add tw_578 (cX1_add_ok isK_18 e16) ⟨Nat.le_of_ble_eq_true rfl, Nat.le_of_ble_eq_true rfl⟩ ⟨rfl, rfl⟩ rfl hl.1 rfl (Nat.le_of_ble_eq_true rfl) dX2_addToTrial_16 (fun H locs hI => ?_)
    refine lv_iconst (v := 1) hx hb dX2_addToTrial_19 (by decide) ?_
    exact hret h (by decide) dX2_addToTrial_20 hI
theorem dX2_isReached_0 : decode cX2_isReached 0 = .ok (.iload_n 1, 1) := by decide +kernel
theorem dX2_isReached_1 : decode cX2_isReached 1 = .ok (.ifCond .eq 13, 3) := by decide +kernel
theorem dX2_isReached_4 : decode cX2_isReached 4 = .ok (.aload_n 0, 1) := by decide +kernel
theorem dX2_isReached_5 : decode cX2_isReached 5 = .ok (.getfield 52, 3) := by decide +kernel
theorem dX2_isReached_8 : decode cX2_isReached 8 = .ok (.iload_n 2, 1) := by decide +kernel
theorem dX2_isReached_9 : decode cX2_isReached 9 = .ok (.iload_n 3, 1) := by decide +kernel
theorem dX2_isReached_10 : decode cX2_isReached 10 = .ok (.invokevirtual 94, 3) := by decide +kernel
theorem dX2_isReached_13 : decode cX2_isReached 13 = .ok (.ireturn, 1) := by decide +kernel
theorem dX2_isReached_14 : decode cX2_isReached 14 = .ok (.aload_n 0, 1) := by decide +kernel
theorem dX2_isReached_15 : decode cX2_isReached 15 = .ok (.getfield 52, 3) := by decide +kernel
theorem dX2_isReached_18 : decode cX2_isReached 18 = .ok (.invokevirtual 90, 3) := by decide +kernel
theorem dX2_isReached_21 : decode cX2_isReached 21 = .ok (.ifCond .eq 5, 3) := by decide +kernel
theorem dX2_isReached_24 : decode cX2_isReached 24 = .ok (.iconst 1, 1) := by decide +kernel
theorem dX2_isReached_25 : decode cX2_isReached 25 = .ok (.ireturn, 1) := by decide +kernel
theorem dX2_isReached_26 : decode cX2_isReached 26 = .ok (.iconst 0, 1) := by decide +kernel
theorem dX2_isReached_27 : decode cX2_isReached 27 = .ok (.istore 4, 2) := by decide +kernel
theorem dX2_isReached_29 : decode cX2_isReached 29 = .ok (.iload 4, 2) := by decide +kernel
theorem dX2_isReached_31 : decode cX2_isReached 31 = .ok (.aload_n 0, 1) := by decide +kernel
theorem dX2_isReached_32 : decode cX2_isReached 32 = .ok (.getfield 12, 3) := by decide +kernel
theorem dX2_isReached_35 : decode cX2_isReached 35 = .ok (.invokevirtual 101, 3) := by decide +kernel
theorem dX2_isReached_38 : decode cX2_isReached 38 = .ok (.if_icmp .ge 50, 3) := by decide +kernel
theorem dX2_isReached_41 : decode cX2_isReached 41 = .ok (.aload_n 0, 1) := by decide +kernel
theorem dX2_isReached_42 : decode cX2_isReached 42 = .ok (.getfield 12, 3) := by decide +kernel
theorem dX2_isReached_45 : decode cX2_isReached 45 = .ok (.iload 4, 2) := by decide +kernel
theorem dX2_isReached_47 : decode cX2_isReached 47 = .ok (.invokevirtual 102, 3) := by decide +kernel
theorem dX2_isReached_50 : decode cX2_isReached 50 = .ok (.istore 5, 2) := by decide +kernel
theorem dX2_isReached_52 : decode cX2_isReached 52 = .ok (.aload_n 0, 1) := by decide +kernel
theorem dX2_isReached_53 : decode cX2_isReached 53 = .ok (.getfield 52, 3) := by decide +kernel
theorem dX2_isReached_56 : decode cX2_isReached 56 = .ok (.aload_n 0, 1) := by decide +kernel
theorem dX2_isReached_57 : decode cX2_isReached 57 = .ok (.getfield 33, 3) := by decide +kernel
theorem dX2_isReached_60 : decode cX2_isReached 60 = .ok (.iload 5, 2) := by decide +kernel
theorem dX2_isReached_62 : decode cX2_isReached 62 = .ok (.invokevirtual 79, 3) := by decide +kernel
theorem dX2_isReached_65 : decode cX2_isReached 65 = .ok (.aload_n 0, 1) := by decide +kernel
theorem dX2_isReached_66 : decode cX2_isReached 66 = .ok (.getfield 33, 3) := by decide +kernel
theorem dX2_isReached_69 : decode cX2_isReached 69 = .ok (.iload 5, 2) := by decide +kernel
theorem dX2_isReached_71 : decode cX2_isReached 71 = .ok (.invokevirtual 83, 3) := by decide +kernel
theorem dX2_isReached_74 : decode cX2_isReached 74 = .ok (.invokevirtual 94, 3) := by decide +kernel
theorem dX2_isReached_77 : decode cX2_isReached 77 = .ok (.ifCond .eq 5, 3) := by decide +kernel
theorem dX2_isReached_80 : decode cX2_isReached 80 = .ok (.iconst 1, 1) := by decide +kernel
theorem dX2_isReached_81 : decode cX2_isReached 81 = .ok (.ireturn, 1) := by decide +kernel
theorem dX2_isReached_82 : decode cX2_isReached 82 = .ok (.iinc 4 1, 3) := by decide +kernel
theorem dX2_isReached_85 : decode cX2_isReached 85 = .ok (.goto (-56), 3) := by decide +kernel
theorem dX2_isReached_88 : decode cX2_isReached 88 = .ok (.iconst 0, 1) := by decide +kernel
theorem dX2_isReached_89 : decode cX2_isReached 89 = .ok (.ireturn, 1) := by decide +kernel
abbrev rmX2_isReached : Room := { frames := 1, cells := 0, slots := 0, locals := 22 }
theorem ywX2_isReached : fY yX2_isReached "EqualCourt$Court" cX2_isReached 6 (some .boolean) 3 := ⟨tw_584, tp_10, tw_5, tw_585, by decide +kernel⟩
set_option maxHeartbeats 4000000 in
set_option maxRecDepth 100000 in
theorem cX2_isReached_ok {D : va_G} {ad : Nat → Nat} {cy cz : ClassId} {l : Launch} {z : fS} {v1 : Int32} {v2 : Int32} {v3 : Int32} {r : Int32} (h : fX2_isReached z v1 v2 v3 = some r) : fMi D 76 ad (cfX ad cy cz) cy cz l yX2_isReached cX2_isReached 6 (some .boolean) rmX2_isReached [.ref (ad 17), .int v1, .int v2, .int v3] z r z := by
  refine f_bodyz (by decide) (Nat.le_of_ble_eq_true rfl) (fun p e s m args below meth c Q hC hret ls hl hI => ?_)
  have hx := hC.1
  have hb := hC.2.1
  have hl : lv_has ls 6 [(0, .ref (ad 17)), (1, .int v1), (2, .int v2), (3, .int v3)] := hl
  unfold fX2_isReached at h
  refine lv_iload_n hx hb dX2_isReached_0 rfl (lv_at hl 1 rfl) ?_
  refine lv_if_eq (tgt := 14) hx hb dX2_isReached_1 (by decide) (fun c1 => ?_) (fun c1 => ?_)
  · replace h := if_t h c1
    refine lv_aload_n hx hb dX2_isReached_14 rfl (lv_at hl 0 rfl) ?_
    refine gX2_trial hC hI tw_199 dX2_isReached_15 ?_
    replace h := bp_at h
    obtain ⟨r18, e18, h⟩ := h
    refine r_calli (rest := []) hC hI (oP (isP_pcell _)) (C := "EqualCourt$Partition") rfl ywX4_isTorn tw_533 (cX4_isTorn_ok (isP_pcell _) e18) ⟨Nat.le_of_ble_eq_true rfl, Nat.le_of_ble_eq_true rfl⟩ ⟨rfl, rfl⟩ rfl hl.1 rfl (Nat.le_of_ble_eq_true rfl) dX2_isReached_18 (fun H locs hI => ?_)
    refine lv_if_eq (tgt := 26) hx hb dX2_isReached_21 (by decide) (fun c21 => ?_) (fun c21 => ?_)
    · replace h := if_t h c21
      refine lv_iconst (v := 0) hx hb dX2_isReached_26 (by decide) ?_
      refine lv_istore (lv' := [(4, .int (0 : Int32)), (0, .ref (ad 17)), (1, .int v1), (2, .int v2), (3, .int v3)]) hx hb dX2_isReached_27 hl (by decide) rfl (fun ls hl => ?_)
      have w29 : ∀ (N29 : Nat) (v4 : Int32) (H : Heap) (locs : List Loc) (ls : Array Slot), fI D 76 ad (cfX ad cy cz) z s H locs → lv_has ls 6 [(0, .ref (ad 17)), (4, .int v4)] → lX2_isReached_29   z N29 v4 = some r → W p l e rmX2_isReached s m args below meth c H locs 0 0 Q (F0 m 29 ls []) := by
        intro N29
        induction N29 with
        | zero =>
          intro v4 H locs ls hI hl h
          exact none_no h
        | succ N29 ih29 =>
          intro v4 H locs ls hI hl h
          rw [lX2_isReached_29.eq_2] at h
          refine lv_iload hx hb dX2_isReached_29 (lv_at hl 1 rfl) ?_
          refine lv_aload_n hx hb dX2_isReached_31 rfl (lv_at hl 0 rfl) ?_
          refine gX2_unlikes hC hI tw_200 dX2_isReached_32 ?_
          replace h := bp_at h
          obtain ⟨r35, e35, h⟩ := h
          refine r_calli (rest := [.int v4]) hC hI (oK isK_18) (C := "EqualCourt$Core") rfl ywX1_count tw_566 (cX1_count_ok isK_18 e35) ⟨Nat.le_of_ble_eq_true rfl, Nat.le_of_ble_eq_true rfl⟩ ⟨rfl, rfl⟩ rfl hl.1 rfl (Nat.le_of_ble_eq_true rfl) dX2_isReached_35 (fun H locs hI => ?_)
          refine lv_icmp_ge (tgt := 88) hx hb dX2_isReached_38 (by decide) (fun c38 => ?_) (fun c38 => ?_)
          · replace h := if_t h c38
            refine lv_iconst (v := 0) hx hb dX2_isReached_88 (by decide) ?_
            exact hret (ret_p _ h) (by decide) dX2_isReached_89 hI
          · replace h := if_f h c38
            refine lv_aload_n hx hb dX2_isReached_41 rfl (lv_at hl 0 rfl) ?_
            refine gX2_unlikes hC hI tw_200 dX2_isReached_42 ?_
            refine lv_iload hx hb dX2_isReached_45 (lv_at hl 1 rfl) ?_
            replace h := bp_at h
            obtain ⟨r47, e47, h⟩ := h
            refine r_calli (rest := []) hC hI (oK isK_18) (C := "EqualCourt$Core") rfl ywX1_at tw_570 (cX1_at_ok isK_18 e47) ⟨Nat.le_of_ble_eq_true rfl, Nat.le_of_ble_eq_true rfl⟩ ⟨rfl, rfl⟩ rfl hl.1 rfl (Nat.le_of_ble_eq_true rfl) dX2_isReached_47 (fun H locs hI => ?_)
            refine lv_istore (lv' := [(5, .int r47), (0, .ref (ad 17)), (4, .int v4)]) hx hb dX2_isReached_50 hl (by decide) rfl (fun ls hl => ?_)
            refine lv_aload_n hx hb dX2_isReached_52 rfl (lv_at hl 1 rfl) ?_
            refine gX2_trial hC hI tw_199 dX2_isReached_53 ?_
            refine lv_aload_n hx hb dX2_isReached_56 rfl (lv_at hl 1 rfl) ?_
            refine gX2_sayings hC hI tw_196 dX2_isReached_57 ?_
            refine lv_iload hx hb dX2_isReached_60 (lv_at hl 0 rfl) ?_
            replace h := bp_at h
            obtain ⟨r62, e62, h⟩ := h
            refine r_calli (rest := [.ref (ad (pcell (z 17 4)))]) hC hI oX_11 (C := "EqualCourt$Sayings") rfl ywX5_left tw_546 (cX5_left_ok  e62) ⟨Nat.le_of_ble_eq_true rfl, Nat.le_of_ble_eq_true rfl⟩ ⟨rfl, rfl⟩ rfl hl.1 rfl (Nat.le_of_ble_eq_true rfl) dX2_isReached_62 (fun H locs hI => ?_)
            refine lv_aload_n hx hb dX2_isReached_65 rfl (lv_at hl 1 rfl) ?_
            refine gX2_sayings hC hI tw_196 dX2_isReached_66 ?_
            refine lv_iload hx hb dX2_isReached_69 (lv_at hl 0 rfl) ?_
            replace h := bp_at h
            obtain ⟨r71, e71, h⟩ := h
            refine r_calli (rest := [.int r62, .ref (ad (pcell (z 17 4)))]) hC hI oX_11 (C := "EqualCourt$Sayings") rfl ywX5_right tw_550 (cX5_right_ok  e71) ⟨Nat.le_of_ble_eq_true rfl, Nat.le_of_ble_eq_true rfl⟩ ⟨rfl, rfl⟩ rfl hl.1 rfl (Nat.le_of_ble_eq_true rfl) dX2_isReached_71 (fun H locs hI => ?_)
            replace h := bp_at h
            obtain ⟨r74, e74, h⟩ := h
            refine r_calli (rest := []) hC hI (oP (isP_pcell _)) (C := "EqualCourt$Partition") rfl ywX4_isOne tw_554 (cX4_isOne_ok (isP_pcell _) e74) ⟨Nat.le_of_ble_eq_true rfl, Nat.le_of_ble_eq_true rfl⟩ ⟨rfl, rfl⟩ rfl hl.1 rfl (Nat.le_of_ble_eq_true rfl) dX2_isReached_74 (fun H locs hI => ?_)
            refine lv_if_eq (tgt := 82) hx hb dX2_isReached_77 (by decide) (fun c77 => ?_) (fun c77 => ?_)
            · replace h := if_t h c77
              obtain ⟨x82, e82⟩ : ∃ y : Int32, y = (v4 + (1 : Int32)) := ⟨_, rfl⟩
              replace h := bnd_at h e82
              refine lv_iinc (v := x82) (lv' := [(4, .int x82), (5, .int r47), (0, .ref (ad 17))]) hx hb dX2_isReached_82 hl (k := 2) rfl (by rw [e82]; rfl) (by decide) rfl (fun ls hl => ?_)
              refine lv_goto (tgt := 29) hx hb dX2_isReached_85 (by decide) ?_
              exact ih29  x82 _ _ _ hI (lv_sub hl [2, 0] rfl) h
            · replace h := if_f h c77
              refine lv_iconst (v := 1) hx hb dX2_isReached_80 (by decide) ?_
              exact hret (ret_p _ h) (by decide) dX2_isReached_81 hI
      exact w29 FU  (0 : Int32) _ _ _ hI (lv_sub hl [1, 0] rfl) h
    · replace h := if_f h c21
      refine lv_iconst (v := 1) hx hb dX2_isReached_24 (by decide) ?_
      exact hret (ret_p _ h) (by decide) dX2_isReached_25 hI
  · replace h := if_f h c1
    refine lv_aload_n hx hb dX2_isReached_4 rfl (lv_at hl 0 rfl) ?_
    refine gX2_trial hC hI tw_199 dX2_isReached_5 ?_
    refine lv_iload_n hx hb dX2_isReached_8 rfl (lv_at hl 2 rfl) ?_
    refine lv_iload_n hx hb dX2_isReached_9 rfl (lv_at hl 3 rfl) ?_
    replace h := bp_at h
    obtain ⟨r10, e10, h⟩ := h
    refine r_calli (rest := []) hC hI (oP (isP_pcell _)) (C := "EqualCourt$Partition") rfl ywX4_isOne tw_554 (cX4_isOne_ok (isP_pcell _) e10) ⟨Nat.le_of_ble_eq_true rfl, Nat.le_of_ble_eq_true rfl⟩ ⟨rfl, rfl⟩ rfl hl.1 rfl (Nat.le_of_ble_eq_true rfl) dX2_isReached_10 (fun H locs hI => ?_)
    have g13 := (gd_at h).1
    replace h := (gd_at h).2
    exact hret (ret_p _ h) g13 dX2_isReached_13 hI
theorem dX2_thin_0 : decode cX2_thin 0 = .ok (.aload 4, 2) := by decide +kernel
theorem dX2_thin_2 : decode cX2_thin 2 = .ok (.invokevirtual 98, 3) := by decide +kernel
theorem dX2_thin_5 : decode cX2_thin 5 = .ok (.iconst 0, 1) := by decide +kernel
theorem dX2_thin_6 : decode cX2_thin 6 = .ok (.istore 5, 2) := by decide +kernel
theorem dX2_thin_8 : decode cX2_thin 8 = .ok (.iload 5, 2) := by decide +kernel
theorem dX2_thin_10 : decode cX2_thin 10 = .ok (.bipush 100, 2) := by decide +kernel
theorem dX2_thin_12 : decode cX2_thin 12 = .ok (.if_icmp .ge 166, 3) := by decide +kernel
theorem dX2_thin_15 : decode cX2_thin 15 = .ok (.aload_n 0, 1) := by decide +kernel
theorem dX2_thin_16 : decode cX2_thin 16 = .ok (.getfield 52, 3) := by decide +kernel
theorem dX2_thin_19 : decode cX2_thin 19 = .ok (.aload_n 0, 1) := by decide +kernel
theorem dX2_thin_20 : decode cX2_thin 20 = .ok (.getfield 45, 3) := by decide +kernel
theorem dX2_thin_23 : decode cX2_thin 23 = .ok (.invokevirtual 65, 3) := by decide +kernel
theorem dX2_thin_26 : decode cX2_thin 26 = .ok (.aload_n 0, 1) := by decide +kernel
theorem dX2_thin_27 : decode cX2_thin 27 = .ok (.getfield 12, 3) := by decide +kernel
theorem dX2_thin_30 : decode cX2_thin 30 = .ok (.invokevirtual 98, 3) := by decide +kernel
theorem dX2_thin_33 : decode cX2_thin 33 = .ok (.iload_n 1, 1) := by decide +kernel
theorem dX2_thin_34 : decode cX2_thin 34 = .ok (.ifCond .ne 12, 3) := by decide +kernel
theorem dX2_thin_37 : decode cX2_thin 37 = .ok (.aload_n 0, 1) := by decide +kernel
theorem dX2_thin_38 : decode cX2_thin 38 = .ok (.getfield 52, 3) := by decide +kernel
theorem dX2_thin_41 : decode cX2_thin 41 = .ok (.iload_n 2, 1) := by decide +kernel
theorem dX2_thin_42 : decode cX2_thin 42 = .ok (.iload_n 3, 1) := by decide +kernel
theorem dX2_thin_43 : decode cX2_thin 43 = .ok (.invokevirtual 86, 3) := by decide +kernel
theorem dX2_thin_46 : decode cX2_thin 46 = .ok (.iconst 0, 1) := by decide +kernel
theorem dX2_thin_47 : decode cX2_thin 47 = .ok (.istore 6, 2) := by decide +kernel
theorem dX2_thin_49 : decode cX2_thin 49 = .ok (.iload 6, 2) := by decide +kernel
theorem dX2_thin_51 : decode cX2_thin 51 = .ok (.aload 4, 2) := by decide +kernel
theorem dX2_thin_53 : decode cX2_thin 53 = .ok (.invokevirtual 101, 3) := by decide +kernel
theorem dX2_thin_56 : decode cX2_thin 56 = .ok (.if_icmp .ge 21, 3) := by decide +kernel
theorem dX2_thin_59 : decode cX2_thin 59 = .ok (.aload_n 0, 1) := by decide +kernel
theorem dX2_thin_60 : decode cX2_thin 60 = .ok (.aload 4, 2) := by decide +kernel
theorem dX2_thin_62 : decode cX2_thin 62 = .ok (.iload 6, 2) := by decide +kernel
theorem dX2_thin_64 : decode cX2_thin 64 = .ok (.invokevirtual 102, 3) := by decide +kernel
theorem dX2_thin_67 : decode cX2_thin 67 = .ok (.invokevirtual 105, 3) := by decide +kernel
theorem dX2_thin_70 : decode cX2_thin 70 = .ok (.pop, 1) := by decide +kernel
theorem dX2_thin_71 : decode cX2_thin 71 = .ok (.iinc 6 1, 3) := by decide +kernel
theorem dX2_thin_74 : decode cX2_thin 74 = .ok (.goto (-25), 3) := by decide +kernel
theorem dX2_thin_77 : decode cX2_thin 77 = .ok (.aload_n 0, 1) := by decide +kernel
theorem dX2_thin_78 : decode cX2_thin 78 = .ok (.iload_n 1, 1) := by decide +kernel
theorem dX2_thin_79 : decode cX2_thin 79 = .ok (.iload_n 2, 1) := by decide +kernel
theorem dX2_thin_80 : decode cX2_thin 80 = .ok (.iload_n 3, 1) := by decide +kernel
theorem dX2_thin_81 : decode cX2_thin 81 = .ok (.invokevirtual 108, 3) := by decide +kernel
theorem dX2_thin_84 : decode cX2_thin 84 = .ok (.ifCond .eq 4, 3) := by decide +kernel
theorem dX2_thin_87 : decode cX2_thin 87 = .ok (.return_, 1) := by decide +kernel
theorem dX2_thin_88 : decode cX2_thin 88 = .ok (.aload 4, 2) := by decide +kernel
theorem dX2_thin_90 : decode cX2_thin 90 = .ok (.aload 4, 2) := by decide +kernel
theorem dX2_thin_92 : decode cX2_thin 92 = .ok (.invokevirtual 101, 3) := by decide +kernel
theorem dX2_thin_95 : decode cX2_thin 95 = .ok (.iconst 1, 1) := by decide +kernel
theorem dX2_thin_96 : decode cX2_thin 96 = .ok (.isub, 1) := by decide +kernel
theorem dX2_thin_97 : decode cX2_thin 97 = .ok (.invokevirtual 102, 3) := by decide +kernel
theorem dX2_thin_100 : decode cX2_thin 100 = .ok (.istore 6, 2) := by decide +kernel
theorem dX2_thin_102 : decode cX2_thin 102 = .ok (.aload_n 0, 1) := by decide +kernel
theorem dX2_thin_103 : decode cX2_thin 103 = .ok (.getfield 33, 3) := by decide +kernel
theorem dX2_thin_106 : decode cX2_thin 106 = .ok (.invokevirtual 69, 3) := by decide +kernel
theorem dX2_thin_109 : decode cX2_thin 109 = .ok (.iconst 1, 1) := by decide +kernel
theorem dX2_thin_110 : decode cX2_thin 110 = .ok (.isub, 1) := by decide +kernel
theorem dX2_thin_111 : decode cX2_thin 111 = .ok (.istore 7, 2) := by decide +kernel
theorem dX2_thin_113 : decode cX2_thin 113 = .ok (.iload 7, 2) := by decide +kernel
theorem dX2_thin_115 : decode cX2_thin 115 = .ok (.iload 6, 2) := by decide +kernel
theorem dX2_thin_117 : decode cX2_thin 117 = .ok (.if_icmp .le 40, 3) := by decide +kernel
theorem dX2_thin_120 : decode cX2_thin 120 = .ok (.aload_n 0, 1) := by decide +kernel
theorem dX2_thin_121 : decode cX2_thin 121 = .ok (.getfield 33, 3) := by decide +kernel
theorem dX2_thin_124 : decode cX2_thin 124 = .ok (.iload 7, 2) := by decide +kernel
theorem dX2_thin_126 : decode cX2_thin 126 = .ok (.invokevirtual 72, 3) := by decide +kernel
theorem dX2_thin_129 : decode cX2_thin 129 = .ok (.ifCond .eq 22, 3) := by decide +kernel
theorem dX2_thin_132 : decode cX2_thin 132 = .ok (.aload_n 0, 1) := by decide +kernel
theorem dX2_thin_133 : decode cX2_thin 133 = .ok (.iload 7, 2) := by decide +kernel
theorem dX2_thin_135 : decode cX2_thin 135 = .ok (.invokevirtual 105, 3) := by decide +kernel
theorem dX2_thin_138 : decode cX2_thin 138 = .ok (.ifCond .eq 13, 3) := by decide +kernel
theorem dX2_thin_141 : decode cX2_thin 141 = .ok (.aload_n 0, 1) := by decide +kernel
theorem dX2_thin_142 : decode cX2_thin 142 = .ok (.iload_n 1, 1) := by decide +kernel
theorem dX2_thin_143 : decode cX2_thin 143 = .ok (.iload_n 2, 1) := by decide +kernel
theorem dX2_thin_144 : decode cX2_thin 144 = .ok (.iload_n 3, 1) := by decide +kernel
theorem dX2_thin_145 : decode cX2_thin 145 = .ok (.invokevirtual 108, 3) := by decide +kernel
theorem dX2_thin_148 : decode cX2_thin 148 = .ok (.ifCond .ne 9, 3) := by decide +kernel
theorem dX2_thin_151 : decode cX2_thin 151 = .ok (.iinc 7 (-1), 3) := by decide +kernel
theorem dX2_thin_154 : decode cX2_thin 154 = .ok (.goto (-41), 3) := by decide +kernel
theorem dX2_thin_157 : decode cX2_thin 157 = .ok (.iload 7, 2) := by decide +kernel
theorem dX2_thin_159 : decode cX2_thin 159 = .ok (.iload 6, 2) := by decide +kernel
theorem dX2_thin_161 : decode cX2_thin 161 = .ok (.if_icmp .gt 4, 3) := by decide +kernel
theorem dX2_thin_164 : decode cX2_thin 164 = .ok (.return_, 1) := by decide +kernel
theorem dX2_thin_165 : decode cX2_thin 165 = .ok (.aload 4, 2) := by decide +kernel
theorem dX2_thin_167 : decode cX2_thin 167 = .ok (.iload 7, 2) := by decide +kernel
theorem dX2_thin_169 : decode cX2_thin 169 = .ok (.invokevirtual 112, 3) := by decide +kernel
theorem dX2_thin_172 : decode cX2_thin 172 = .ok (.iinc 5 1, 3) := by decide +kernel
theorem dX2_thin_175 : decode cX2_thin 175 = .ok (.goto (-167), 3) := by decide +kernel
theorem dX2_thin_178 : decode cX2_thin 178 = .ok (.return_, 1) := by decide +kernel
abbrev rmX2_thin : Room := { frames := 4, cells := 0, slots := 0, locals := 101 }
theorem ywX2_thin : fY yX2_thin "EqualCourt$Court" cX2_thin 8 none 4 := ⟨tw_559, tw_560, tw_5, tw_561, by decide +kernel⟩
set_option maxHeartbeats 4000000 in
set_option maxRecDepth 100000 in
theorem cX2_thin_ok {D : va_G} {ad : Nat → Nat} {cy cz : ClassId} {l : Launch} {z : fS} {v1 : Int32} {v2 : Int32} {v3 : Int32} {v4 : Nat} (hv4 : isK v4) {τ : fS} (h : fX2_thin z v1 v2 v3 v4 = some τ) : fMv D 76 ad (cfX ad cy cz) cy cz l yX2_thin cX2_thin 8 none rmX2_thin [.ref (ad 17), .int v1, .int v2, .int v3, .ref (ad v4)] z τ := by
  refine f_bodyv (by decide) (Nat.le_of_ble_eq_true rfl) (fun p e s m args below meth c Q hC hret ls hl hI => ?_)
  have hx := hC.1
  have hb := hC.2.1
  have hl : lv_has ls 8 [(0, .ref (ad 17)), (1, .int v1), (2, .int v2), (3, .int v3), (4, .ref (ad v4))] := hl
  unfold fX2_thin at h
  refine lv_aload hx hb dX2_thin_0 (lv_at hl 4 rfl) ?_
  replace h := bp_at h
  obtain ⟨z2, e2, h⟩ := h
  refine r_callv (rest := []) hC hI (oK hv4) (C := "EqualCourt$Core") rfl ywX1_clear tw_562 (cX1_clear_ok hv4 e2) ⟨Nat.le_of_ble_eq_true rfl, Nat.le_of_ble_eq_true rfl⟩ ⟨rfl, rfl⟩ rfl hl.1 rfl (Nat.le_of_ble_eq_true rfl) dX2_thin_2 (fun H locs hI => ?_)
  refine lv_iconst (v := 0) hx hb dX2_thin_5 (by decide) ?_
  refine lv_istore (lv' := [(5, .int (0 : Int32)), (0, .ref (ad 17)), (1, .int v1), (2, .int v2), (3, .int v3), (4, .ref (ad v4))]) hx hb dX2_thin_6 hl (by decide) rfl (fun ls hl => ?_)
  have w8 : ∀ (N8 : Nat) (v1 : Int32) (v2 : Int32) (v3 : Int32) (v5 : Int32) (z : fS) (H : Heap) (locs : List Loc) (ls : Array Slot), fI D 76 ad (cfX ad cy cz) z s H locs → lv_has ls 8 [(0, .ref (ad 17)), (1, .int v1), (2, .int v2), (3, .int v3), (4, .ref (ad v4)), (5, .int v5)] → lX2_thin_8 v4  v1 v2 v3 N8 v5 z = some τ → W p l e rmX2_thin s m args below meth c H locs 0 0 Q (F0 m 8 ls []) := by
    intro N8
    induction N8 with
    | zero =>
      intro v1 v2 v3 v5 z H locs ls hI hl h
      exact none_no h
    | succ N8 ih8 =>
      have w157 : ∀ (v1 : Int32) (v2 : Int32) (v3 : Int32) (v5 : Int32) (v6 : Int32) (v7 : Int32) (z : fS) (H : Heap) (locs : List Loc) (ls : Array Slot), fI D 76 ad (cfX ad cy cz) z s H locs → lv_has ls 8 [(0, .ref (ad 17)), (1, .int v1), (2, .int v2), (3, .int v3), (4, .ref (ad v4)), (5, .int v5), (6, .int v6), (7, .int v7)] → jX2_thin_157 v4 (lX2_thin_8 v4  v1 v2 v3 N8) v1 v2 v3 v5 v6 v7 z = some τ → W p l e rmX2_thin s m args below meth c H locs 0 0 Q (F0 m 157 ls []) := by
        intro v1 v2 v3 v5 v6 v7 z H locs ls hI hl h
        unfold jX2_thin_157 at h
        refine lv_iload hx hb dX2_thin_157 (lv_at hl 7 rfl) ?_
        refine lv_iload hx hb dX2_thin_159 (lv_at hl 6 rfl) ?_
        refine lv_icmp_gt (tgt := 165) hx hb dX2_thin_161 (by decide) (fun c161 => ?_) (fun c161 => ?_)
        · replace h := if_t h c161
          refine lv_aload hx hb dX2_thin_165 (lv_at hl 4 rfl) ?_
          refine lv_iload hx hb dX2_thin_167 (lv_at hl 7 rfl) ?_
          replace h := bp_at h
          obtain ⟨z169, e169, h⟩ := h
          refine r_callv (rest := []) hC hI (oK hv4) (C := "EqualCourt$Core") rfl ywX1_add tw_578 (cX1_add_ok hv4 e169) ⟨Nat.le_of_ble_eq_true rfl, Nat.le_of_ble_eq_true rfl⟩ ⟨rfl, rfl⟩ rfl hl.1 rfl (Nat.le_of_ble_eq_true rfl) dX2_thin_169 (fun H locs hI => ?_)
          obtain ⟨x172, e172⟩ : ∃ y : Int32, y = (v5 + (1 : Int32)) := ⟨_, rfl⟩
          replace h := bnd_at h e172
          refine lv_iinc (v := x172) (lv' := [(5, .int x172), (0, .ref (ad 17)), (1, .int v1), (2, .int v2), (3, .int v3), (4, .ref (ad v4)), (6, .int v6), (7, .int v7)]) hx hb dX2_thin_172 hl (k := 5) rfl (by rw [e172]; rfl) (by decide) rfl (fun ls hl => ?_)
          refine lv_goto (tgt := 8) hx hb dX2_thin_175 (by decide) ?_
          exact ih8 v1 v2 v3 x172 z169 _ _ _ hI (lv_sub hl [1, 2, 3, 4, 5, 0] rfl) h
        · replace h := if_f h c161
          exact hret h dX2_thin_164 hI
      have w77 : ∀ (v1 : Int32) (v2 : Int32) (v3 : Int32) (v5 : Int32) (z : fS) (H : Heap) (locs : List Loc) (ls : Array Slot), fI D 76 ad (cfX ad cy cz) z s H locs → lv_has ls 8 [(0, .ref (ad 17)), (1, .int v1), (2, .int v2), (3, .int v3), (4, .ref (ad v4)), (5, .int v5)] → jX2_thin_77 v4 (lX2_thin_8 v4  v1 v2 v3 N8) v1 v2 v3 v5 z = some τ → W p l e rmX2_thin s m args below meth c H locs 0 0 Q (F0 m 77 ls []) := by
        intro v1 v2 v3 v5 z H locs ls hI hl h
        unfold jX2_thin_77 at h
        refine lv_aload_n hx hb dX2_thin_77 rfl (lv_at hl 0 rfl) ?_
        refine lv_iload_n hx hb dX2_thin_78 rfl (lv_at hl 1 rfl) ?_
        refine lv_iload_n hx hb dX2_thin_79 rfl (lv_at hl 2 rfl) ?_
        refine lv_iload_n hx hb dX2_thin_80 rfl (lv_at hl 3 rfl) ?_
        replace h := bp_at h
        obtain ⟨r81, e81, h⟩ := h
        refine r_calli (rest := []) hC hI oX_17 (C := "EqualCourt$Court") rfl ywX2_isReached tw_582 (cX2_isReached_ok  e81) ⟨Nat.le_of_ble_eq_true rfl, Nat.le_of_ble_eq_true rfl⟩ ⟨rfl, rfl⟩ rfl hl.1 rfl (Nat.le_of_ble_eq_true rfl) dX2_thin_81 (fun H locs hI => ?_)
        refine lv_if_eq (tgt := 88) hx hb dX2_thin_84 (by decide) (fun c84 => ?_) (fun c84 => ?_)
        · replace h := if_t h c84
          refine lv_aload hx hb dX2_thin_88 (lv_at hl 4 rfl) ?_
          refine lv_aload hx hb dX2_thin_90 (lv_at hl 4 rfl) ?_
          replace h := bp_at h
          obtain ⟨r92, e92, h⟩ := h
          refine r_calli (rest := [.ref (ad v4)]) hC hI (oK hv4) (C := "EqualCourt$Core") rfl ywX1_count tw_566 (cX1_count_ok hv4 e92) ⟨Nat.le_of_ble_eq_true rfl, Nat.le_of_ble_eq_true rfl⟩ ⟨rfl, rfl⟩ rfl hl.1 rfl (Nat.le_of_ble_eq_true rfl) dX2_thin_92 (fun H locs hI => ?_)
          refine lv_iconst (v := 1) hx hb dX2_thin_95 (by decide) ?_
          refine lv_isub hx hb dX2_thin_96 ?_
          replace h := bp_at h
          obtain ⟨r97, e97, h⟩ := h
          refine r_calli (rest := []) hC hI (oK hv4) (C := "EqualCourt$Core") rfl ywX1_at tw_570 (cX1_at_ok hv4 e97) ⟨Nat.le_of_ble_eq_true rfl, Nat.le_of_ble_eq_true rfl⟩ ⟨rfl, rfl⟩ rfl hl.1 rfl (Nat.le_of_ble_eq_true rfl) dX2_thin_97 (fun H locs hI => ?_)
          refine lv_istore (lv' := [(6, .int r97), (0, .ref (ad 17)), (1, .int v1), (2, .int v2), (3, .int v3), (4, .ref (ad v4)), (5, .int v5)]) hx hb dX2_thin_100 hl (by decide) rfl (fun ls hl => ?_)
          refine lv_aload_n hx hb dX2_thin_102 rfl (lv_at hl 1 rfl) ?_
          refine gX2_sayings hC hI tw_196 dX2_thin_103 ?_
          replace h := bp_at h
          obtain ⟨r106, e106, h⟩ := h
          refine r_calli (rest := []) hC hI oX_11 (C := "EqualCourt$Sayings") rfl ywX5_count tw_537 (cX5_count_ok  e106) ⟨Nat.le_of_ble_eq_true rfl, Nat.le_of_ble_eq_true rfl⟩ ⟨rfl, rfl⟩ rfl hl.1 rfl (Nat.le_of_ble_eq_true rfl) dX2_thin_106 (fun H locs hI => ?_)
          refine lv_iconst (v := 1) hx hb dX2_thin_109 (by decide) ?_
          refine lv_isub hx hb dX2_thin_110 ?_
          refine lv_topi (fun x111 e111 => ?_)
          replace h := bnd_at h e111
          refine lv_istore (lv' := [(7, .int x111), (6, .int r97), (0, .ref (ad 17)), (1, .int v1), (2, .int v2), (3, .int v3), (4, .ref (ad v4)), (5, .int v5)]) hx hb dX2_thin_111 hl (by decide) rfl (fun ls hl => ?_)
          have w113 : ∀ (N113 : Nat) (v1 : Int32) (v2 : Int32) (v3 : Int32) (v5 : Int32) (v6 : Int32) (v7 : Int32) (z : fS) (H : Heap) (locs : List Loc) (ls : Array Slot), fI D 76 ad (cfX ad cy cz) z s H locs → lv_has ls 8 [(0, .ref (ad 17)), (1, .int v1), (2, .int v2), (3, .int v3), (4, .ref (ad v4)), (5, .int v5), (6, .int v6), (7, .int v7)] → lX2_thin_113 v4 (jX2_thin_157 v4 (lX2_thin_8 v4  v1 v2 v3 N8) v1 v2 v3 v5 v6) v1 v2 v3 v5 v6 N113 v7 z = some τ → W p l e rmX2_thin s m args below meth c H locs 0 0 Q (F0 m 113 ls []) := by
            intro N113
            induction N113 with
            | zero =>
              intro v1 v2 v3 v5 v6 v7 z H locs ls hI hl h
              exact none_no h
            | succ N113 ih113 =>
              intro v1 v2 v3 v5 v6 v7 z H locs ls hI hl h
              rw [lX2_thin_113.eq_2] at h
              refine lv_iload hx hb dX2_thin_113 (lv_at hl 7 rfl) ?_
              refine lv_iload hx hb dX2_thin_115 (lv_at hl 6 rfl) ?_
              refine lv_icmp_le (tgt := 157) hx hb dX2_thin_117 (by decide) (fun c117 => ?_) (fun c117 => ?_)
              · replace h := if_t h c117
                exact w157 v1 v2 v3 v5 v6 v7 z _ _ _ hI (lv_sub hl [0, 1, 2, 3, 4, 5, 6, 7] rfl) h
              · replace h := if_f h c117
                refine lv_aload_n hx hb dX2_thin_120 rfl (lv_at hl 0 rfl) ?_
                refine gX2_sayings hC hI tw_196 dX2_thin_121 ?_
                refine lv_iload hx hb dX2_thin_124 (lv_at hl 7 rfl) ?_
                replace h := bp_at h
                obtain ⟨r126, e126, h⟩ := h
                refine r_calli (rest := []) hC hI oX_11 (C := "EqualCourt$Sayings") rfl ywX5_isTaken tw_538 (cX5_isTaken_ok  e126) ⟨Nat.le_of_ble_eq_true rfl, Nat.le_of_ble_eq_true rfl⟩ ⟨rfl, rfl⟩ rfl hl.1 rfl (Nat.le_of_ble_eq_true rfl) dX2_thin_126 (fun H locs hI => ?_)
                refine lv_if_eq (tgt := 151) hx hb dX2_thin_129 (by decide) (fun c129 => ?_) (fun c129 => ?_)
                · replace h := if_t h c129
                  obtain ⟨x151, e151⟩ : ∃ y : Int32, y = (v7 + (-1 : Int32)) := ⟨_, rfl⟩
                  replace h := bnd_at h e151
                  refine lv_iinc (v := x151) (lv' := [(7, .int x151), (0, .ref (ad 17)), (1, .int v1), (2, .int v2), (3, .int v3), (4, .ref (ad v4)), (5, .int v5), (6, .int v6)]) hx hb dX2_thin_151 hl (k := 7) rfl (by rw [e151]; rfl) (by decide) rfl (fun ls hl => ?_)
                  refine lv_goto (tgt := 113) hx hb dX2_thin_154 (by decide) ?_
                  exact ih113 v1 v2 v3 v5 v6 x151 z _ _ _ hI (lv_sub hl [1, 2, 3, 4, 5, 6, 7, 0] rfl) h
                · replace h := if_f h c129
                  refine lv_aload_n hx hb dX2_thin_132 rfl (lv_at hl 0 rfl) ?_
                  refine lv_iload hx hb dX2_thin_133 (lv_at hl 7 rfl) ?_
                  replace h := bd_at h
                  obtain ⟨r135, z135, e135, h⟩ := h
                  refine r_calli (rest := []) hC hI oX_17 (C := "EqualCourt$Court") rfl ywX2_addToTrial tw_574 (cX2_addToTrial_ok  e135) ⟨Nat.le_of_ble_eq_true rfl, Nat.le_of_ble_eq_true rfl⟩ ⟨rfl, rfl⟩ rfl hl.1 rfl (Nat.le_of_ble_eq_true rfl) dX2_thin_135 (fun H locs hI => ?_)
                  refine lv_if_eq (tgt := 151) hx hb dX2_thin_138 (by decide) (fun c138 => ?_) (fun c138 => ?_)
                  · replace h := if_t h c138
                    obtain ⟨x151, e151⟩ : ∃ y : Int32, y = (v7 + (-1 : Int32)) := ⟨_, rfl⟩
                    replace h := bnd_at h e151
                    refine lv_iinc (v := x151) (lv' := [(7, .int x151), (0, .ref (ad 17)), (1, .int v1), (2, .int v2), (3, .int v3), (4, .ref (ad v4)), (5, .int v5), (6, .int v6)]) hx hb dX2_thin_151 hl (k := 7) rfl (by rw [e151]; rfl) (by decide) rfl (fun ls hl => ?_)
                    refine lv_goto (tgt := 113) hx hb dX2_thin_154 (by decide) ?_
                    exact ih113 v1 v2 v3 v5 v6 x151 z135 _ _ _ hI (lv_sub hl [1, 2, 3, 4, 5, 6, 7, 0] rfl) h
                  · replace h := if_f h c138
                    refine lv_aload_n hx hb dX2_thin_141 rfl (lv_at hl 0 rfl) ?_
                    refine lv_iload_n hx hb dX2_thin_142 rfl (lv_at hl 1 rfl) ?_
                    refine lv_iload_n hx hb dX2_thin_143 rfl (lv_at hl 2 rfl) ?_
                    refine lv_iload_n hx hb dX2_thin_144 rfl (lv_at hl 3 rfl) ?_
                    replace h := bp_at h
                    obtain ⟨r145, e145, h⟩ := h
                    refine r_calli (rest := []) hC hI oX_17 (C := "EqualCourt$Court") rfl ywX2_isReached tw_582 (cX2_isReached_ok  e145) ⟨Nat.le_of_ble_eq_true rfl, Nat.le_of_ble_eq_true rfl⟩ ⟨rfl, rfl⟩ rfl hl.1 rfl (Nat.le_of_ble_eq_true rfl) dX2_thin_145 (fun H locs hI => ?_)
                    refine lv_if_ne (tgt := 157) hx hb dX2_thin_148 (by decide) (fun c148 => ?_) (fun c148 => ?_)
                    · replace h := if_f h c148
                      exact w157 v1 v2 v3 v5 v6 v7 z135 _ _ _ hI (lv_sub hl [0, 1, 2, 3, 4, 5, 6, 7] rfl) h
                    · replace h := if_t h c148
                      obtain ⟨x151, e151⟩ : ∃ y : Int32, y = (v7 + (-1 : Int32)) := ⟨_, rfl⟩
                      replace h := bnd_at h e151
                      refine lv_iinc (v := x151) (lv' := [(7, .int x151), (0, .ref (ad 17)), (1, .int v1), (2, .int v2), (3, .int v3), (4, .ref (ad v4)), (5, .int v5), (6, .int v6)]) hx hb dX2_thin_151 hl (k := 7) rfl (by rw [e151]; rfl) (by decide) rfl (fun ls hl => ?_)
                      refine lv_goto (tgt := 113) hx hb dX2_thin_154 (by decide) ?_
                      exact ih113 v1 v2 v3 v5 v6 x151 z135 _ _ _ hI (lv_sub hl [1, 2, 3, 4, 5, 6, 7, 0] rfl) h
          exact w113 FU v1 v2 v3 v5 r97 x111 z _ _ _ hI (lv_sub hl [2, 3, 4, 5, 6, 7, 1, 0] rfl) h
        · replace h := if_f h c84
          exact hret h dX2_thin_87 hI
      have w46 : ∀ (v1 : Int32) (v2 : Int32) (v3 : Int32) (v5 : Int32) (z : fS) (H : Heap) (locs : List Loc) (ls : Array Slot), fI D 76 ad (cfX ad cy cz) z s H locs → lv_has ls 8 [(0, .ref (ad 17)), (1, .int v1), (2, .int v2), (3, .int v3), (4, .ref (ad v4)), (5, .int v5)] → jX2_thin_46 v4 (lX2_thin_8 v4  v1 v2 v3 N8) v1 v2 v3 v5 z = some τ → W p l e rmX2_thin s m args below meth c H locs 0 0 Q (F0 m 46 ls []) := by
        intro v1 v2 v3 v5 z H locs ls hI hl h
        unfold jX2_thin_46 at h
        refine lv_iconst (v := 0) hx hb dX2_thin_46 (by decide) ?_
        refine lv_istore (lv' := [(6, .int (0 : Int32)), (0, .ref (ad 17)), (1, .int v1), (2, .int v2), (3, .int v3), (4, .ref (ad v4)), (5, .int v5)]) hx hb dX2_thin_47 hl (by decide) rfl (fun ls hl => ?_)
        have w49 : ∀ (N49 : Nat) (v1 : Int32) (v2 : Int32) (v3 : Int32) (v5 : Int32) (v6 : Int32) (z : fS) (H : Heap) (locs : List Loc) (ls : Array Slot), fI D 76 ad (cfX ad cy cz) z s H locs → lv_has ls 8 [(0, .ref (ad 17)), (1, .int v1), (2, .int v2), (3, .int v3), (4, .ref (ad v4)), (5, .int v5), (6, .int v6)] → lX2_thin_49 v4 (jX2_thin_77 v4 (lX2_thin_8 v4  v1 v2 v3 N8) v1 v2 v3 v5) v1 v2 v3 v5 N49 v6 z = some τ → W p l e rmX2_thin s m args below meth c H locs 0 0 Q (F0 m 49 ls []) := by
          intro N49
          induction N49 with
          | zero =>
            intro v1 v2 v3 v5 v6 z H locs ls hI hl h
            exact none_no h
          | succ N49 ih49 =>
            intro v1 v2 v3 v5 v6 z H locs ls hI hl h
            rw [lX2_thin_49.eq_2] at h
            refine lv_iload hx hb dX2_thin_49 (lv_at hl 6 rfl) ?_
            refine lv_aload hx hb dX2_thin_51 (lv_at hl 4 rfl) ?_
            replace h := bp_at h
            obtain ⟨r53, e53, h⟩ := h
            refine r_calli (rest := [.int v6]) hC hI (oK hv4) (C := "EqualCourt$Core") rfl ywX1_count tw_566 (cX1_count_ok hv4 e53) ⟨Nat.le_of_ble_eq_true rfl, Nat.le_of_ble_eq_true rfl⟩ ⟨rfl, rfl⟩ rfl hl.1 rfl (Nat.le_of_ble_eq_true rfl) dX2_thin_53 (fun H locs hI => ?_)
            refine lv_icmp_ge (tgt := 77) hx hb dX2_thin_56 (by decide) (fun c56 => ?_) (fun c56 => ?_)
            · replace h := if_t h c56
              exact w77 v1 v2 v3 v5 z _ _ _ hI (lv_sub hl [0, 1, 2, 3, 4, 5] rfl) h
            · replace h := if_f h c56
              refine lv_aload_n hx hb dX2_thin_59 rfl (lv_at hl 0 rfl) ?_
              refine lv_aload hx hb dX2_thin_60 (lv_at hl 4 rfl) ?_
              refine lv_iload hx hb dX2_thin_62 (lv_at hl 6 rfl) ?_
              replace h := bp_at h
              obtain ⟨r64, e64, h⟩ := h
              refine r_calli (rest := [.ref (ad 17)]) hC hI (oK hv4) (C := "EqualCourt$Core") rfl ywX1_at tw_570 (cX1_at_ok hv4 e64) ⟨Nat.le_of_ble_eq_true rfl, Nat.le_of_ble_eq_true rfl⟩ ⟨rfl, rfl⟩ rfl hl.1 rfl (Nat.le_of_ble_eq_true rfl) dX2_thin_64 (fun H locs hI => ?_)
              replace h := bd_at h
              obtain ⟨r67, z67, e67, h⟩ := h
              refine r_calli (rest := []) hC hI oX_17 (C := "EqualCourt$Court") rfl ywX2_addToTrial tw_574 (cX2_addToTrial_ok  e67) ⟨Nat.le_of_ble_eq_true rfl, Nat.le_of_ble_eq_true rfl⟩ ⟨rfl, rfl⟩ rfl hl.1 rfl (Nat.le_of_ble_eq_true rfl) dX2_thin_67 (fun H locs hI => ?_)
              refine lv_pop hx hb dX2_thin_70 rfl ?_
              obtain ⟨x71, e71⟩ : ∃ y : Int32, y = (v6 + (1 : Int32)) := ⟨_, rfl⟩
              replace h := bnd_at h e71
              refine lv_iinc (v := x71) (lv' := [(6, .int x71), (0, .ref (ad 17)), (1, .int v1), (2, .int v2), (3, .int v3), (4, .ref (ad v4)), (5, .int v5)]) hx hb dX2_thin_71 hl (k := 6) rfl (by rw [e71]; rfl) (by decide) rfl (fun ls hl => ?_)
              refine lv_goto (tgt := 49) hx hb dX2_thin_74 (by decide) ?_
              exact ih49 v1 v2 v3 v5 x71 z67 _ _ _ hI (lv_sub hl [1, 2, 3, 4, 5, 6, 0] rfl) h
        exact w49 FU v1 v2 v3 v5 (0 : Int32) z _ _ _ hI (lv_sub hl [1, 2, 3, 4, 5, 6, 0] rfl) h
      intro v1 v2 v3 v5 z H locs ls hI hl h
      rw [lX2_thin_8.eq_2] at h
      refine lv_iload hx hb dX2_thin_8 (lv_at hl 5 rfl) ?_
      refine lv_bipush (v := 100) hx hb dX2_thin_10 (by decide) ?_
      refine lv_icmp_ge (tgt := 178) hx hb dX2_thin_12 (by decide) (fun c12 => ?_) (fun c12 => ?_)
      · replace h := if_t h c12
        exact hret h dX2_thin_178 hI
      · replace h := if_f h c12
        refine lv_aload_n hx hb dX2_thin_15 rfl (lv_at hl 0 rfl) ?_
        refine gX2_trial hC hI tw_199 dX2_thin_16 ?_
        refine lv_aload_n hx hb dX2_thin_19 rfl (lv_at hl 0 rfl) ?_
        refine gX2_bare hC hI tw_197 dX2_thin_20 ?_
        replace h := bp_at h
        obtain ⟨z23, e23, h⟩ := h
        refine r_callv (rest := []) hC hI (oP (isP_pcell _)) (C := "EqualCourt$Partition") rfl ywX4_copyFrom tw_525 (cX4_copyFrom_ok (isP_pcell _) isP_28 e23) ⟨Nat.le_of_ble_eq_true rfl, Nat.le_of_ble_eq_true rfl⟩ ⟨rfl, rfl⟩ rfl hl.1 rfl (Nat.le_of_ble_eq_true rfl) dX2_thin_23 (fun H locs hI => ?_)
        refine lv_aload_n hx hb dX2_thin_26 rfl (lv_at hl 0 rfl) ?_
        refine gX2_unlikes hC hI tw_200 dX2_thin_27 ?_
        replace h := bp_at h
        obtain ⟨z30, e30, h⟩ := h
        refine r_callv (rest := []) hC hI (oK isK_18) (C := "EqualCourt$Core") rfl ywX1_clear tw_562 (cX1_clear_ok isK_18 e30) ⟨Nat.le_of_ble_eq_true rfl, Nat.le_of_ble_eq_true rfl⟩ ⟨rfl, rfl⟩ rfl hl.1 rfl (Nat.le_of_ble_eq_true rfl) dX2_thin_30 (fun H locs hI => ?_)
        refine lv_iload_n hx hb dX2_thin_33 rfl (lv_at hl 1 rfl) ?_
        refine lv_if_ne (tgt := 46) hx hb dX2_thin_34 (by decide) (fun c34 => ?_) (fun c34 => ?_)
        · replace h := if_f h c34
          exact w46 v1 v2 v3 v5 z30 _ _ _ hI hl h
        · replace h := if_t h c34
          refine lv_aload_n hx hb dX2_thin_37 rfl (lv_at hl 0 rfl) ?_
          refine gX2_trial hC hI tw_199 dX2_thin_38 ?_
          refine lv_iload_n hx hb dX2_thin_41 rfl (lv_at hl 2 rfl) ?_
          refine lv_iload_n hx hb dX2_thin_42 rfl (lv_at hl 3 rfl) ?_
          replace h := bp_at h
          obtain ⟨z43, e43, h⟩ := h
          refine r_callv (rest := []) hC hI (oP (isP_pcell _)) (C := "EqualCourt$Partition") rfl ywX4_join tw_532 (cX4_join_ok (isP_pcell _) e43) ⟨Nat.le_of_ble_eq_true rfl, Nat.le_of_ble_eq_true rfl⟩ ⟨rfl, rfl⟩ rfl hl.1 rfl (Nat.le_of_ble_eq_true rfl) dX2_thin_43 (fun H locs hI => ?_)
          exact w46 v1 v2 v3 v5 z43 _ _ _ hI hl h
  exact w8 FU v1 v2 v3 (0 : Int32) z2 _ _ _ hI (lv_sub hl [1, 2, 3, 4, 5, 0] rfl) h
theorem dX2_fillPool_0 : decode cX2_fillPool 0 = .ok (.iconst 0, 1) := by decide +kernel
theorem dX2_fillPool_1 : decode cX2_fillPool 1 = .ok (.istore_n 1, 1) := by decide +kernel
theorem dX2_fillPool_2 : decode cX2_fillPool 2 = .ok (.iconst 0, 1) := by decide +kernel
theorem dX2_fillPool_3 : decode cX2_fillPool 3 = .ok (.istore_n 2, 1) := by decide +kernel
theorem dX2_fillPool_4 : decode cX2_fillPool 4 = .ok (.iload_n 2, 1) := by decide +kernel
theorem dX2_fillPool_5 : decode cX2_fillPool 5 = .ok (.aload_n 0, 1) := by decide +kernel
theorem dX2_fillPool_6 : decode cX2_fillPool 6 = .ok (.getfield 33, 3) := by decide +kernel
theorem dX2_fillPool_9 : decode cX2_fillPool 9 = .ok (.invokevirtual 69, 3) := by decide +kernel
theorem dX2_fillPool_12 : decode cX2_fillPool 12 = .ok (.if_icmp .ge 78, 3) := by decide +kernel
theorem dX2_fillPool_15 : decode cX2_fillPool 15 = .ok (.aload_n 0, 1) := by decide +kernel
theorem dX2_fillPool_16 : decode cX2_fillPool 16 = .ok (.getfield 33, 3) := by decide +kernel
theorem dX2_fillPool_19 : decode cX2_fillPool 19 = .ok (.iload_n 2, 1) := by decide +kernel
theorem dX2_fillPool_20 : decode cX2_fillPool 20 = .ok (.invokevirtual 72, 3) := by decide +kernel
theorem dX2_fillPool_23 : decode cX2_fillPool 23 = .ok (.ifCond .eq 61, 3) := by decide +kernel
theorem dX2_fillPool_26 : decode cX2_fillPool 26 = .ok (.aload_n 0, 1) := by decide +kernel
theorem dX2_fillPool_27 : decode cX2_fillPool 27 = .ok (.getfield 18, 3) := by decide +kernel
theorem dX2_fillPool_30 : decode cX2_fillPool 30 = .ok (.iload_n 1, 1) := by decide +kernel
theorem dX2_fillPool_31 : decode cX2_fillPool 31 = .ok (.iload_n 2, 1) := by decide +kernel
theorem dX2_fillPool_32 : decode cX2_fillPool 32 = .ok (.iastore, 1) := by decide +kernel
theorem dX2_fillPool_33 : decode cX2_fillPool 33 = .ok (.aload_n 0, 1) := by decide +kernel
theorem dX2_fillPool_34 : decode cX2_fillPool 34 = .ok (.getfield 22, 3) := by decide +kernel
theorem dX2_fillPool_37 : decode cX2_fillPool 37 = .ok (.iload_n 1, 1) := by decide +kernel
theorem dX2_fillPool_38 : decode cX2_fillPool 38 = .ok (.aload_n 0, 1) := by decide +kernel
theorem dX2_fillPool_39 : decode cX2_fillPool 39 = .ok (.getfield 33, 3) := by decide +kernel
theorem dX2_fillPool_42 : decode cX2_fillPool 42 = .ok (.iload_n 2, 1) := by decide +kernel
theorem dX2_fillPool_43 : decode cX2_fillPool 43 = .ok (.invokevirtual 76, 3) := by decide +kernel
theorem dX2_fillPool_46 : decode cX2_fillPool 46 = .ok (.ifCond .eq 33, 3) := by decide +kernel
theorem dX2_fillPool_49 : decode cX2_fillPool 49 = .ok (.aload_n 0, 1) := by decide +kernel
theorem dX2_fillPool_50 : decode cX2_fillPool 50 = .ok (.getfield 45, 3) := by decide +kernel
theorem dX2_fillPool_53 : decode cX2_fillPool 53 = .ok (.aload_n 0, 1) := by decide +kernel
theorem dX2_fillPool_54 : decode cX2_fillPool 54 = .ok (.getfield 33, 3) := by decide +kernel
theorem dX2_fillPool_57 : decode cX2_fillPool 57 = .ok (.iload_n 2, 1) := by decide +kernel
theorem dX2_fillPool_58 : decode cX2_fillPool 58 = .ok (.invokevirtual 79, 3) := by decide +kernel
theorem dX2_fillPool_61 : decode cX2_fillPool 61 = .ok (.aload_n 0, 1) := by decide +kernel
theorem dX2_fillPool_62 : decode cX2_fillPool 62 = .ok (.getfield 33, 3) := by decide +kernel
theorem dX2_fillPool_65 : decode cX2_fillPool 65 = .ok (.iload_n 2, 1) := by decide +kernel
theorem dX2_fillPool_66 : decode cX2_fillPool 66 = .ok (.invokevirtual 83, 3) := by decide +kernel
theorem dX2_fillPool_69 : decode cX2_fillPool 69 = .ok (.invokevirtual 94, 3) := by decide +kernel
theorem dX2_fillPool_72 : decode cX2_fillPool 72 = .ok (.ifCond .ne 7, 3) := by decide +kernel
theorem dX2_fillPool_75 : decode cX2_fillPool 75 = .ok (.iconst 1, 1) := by decide +kernel
theorem dX2_fillPool_76 : decode cX2_fillPool 76 = .ok (.goto 4, 3) := by decide +kernel
theorem dX2_fillPool_79 : decode cX2_fillPool 79 = .ok (.iconst 0, 1) := by decide +kernel
theorem dX2_fillPool_80 : decode cX2_fillPool 80 = .ok (.bastore, 1) := by decide +kernel
theorem dX2_fillPool_81 : decode cX2_fillPool 81 = .ok (.iinc 1 1, 3) := by decide +kernel
theorem dX2_fillPool_84 : decode cX2_fillPool 84 = .ok (.iinc 2 1, 3) := by decide +kernel
theorem dX2_fillPool_87 : decode cX2_fillPool 87 = .ok (.goto (-83), 3) := by decide +kernel
theorem dX2_fillPool_90 : decode cX2_fillPool 90 = .ok (.iload_n 1, 1) := by decide +kernel
theorem dX2_fillPool_91 : decode cX2_fillPool 91 = .ok (.ireturn, 1) := by decide +kernel
abbrev rmX2_fillPool : Room := { frames := 1, cells := 0, slots := 0, locals := 22 }
theorem ywX2_fillPool : fY yX2_fillPool "EqualCourt$Court" cX2_fillPool 3 (some .int) 0 := ⟨tw_647, tp_11, tw_5, tw_648, by decide +kernel⟩
set_option maxHeartbeats 4000000 in
set_option maxRecDepth 100000 in
theorem cX2_fillPool_ok {D : va_G} {ad : Nat → Nat} {cy cz : ClassId} {l : Launch} {z : fS}  {r : Int32} {τ : fS} (h : fX2_fillPool z = some (r, τ)) : fMi D 76 ad (cfX ad cy cz) cy cz l yX2_fillPool cX2_fillPool 3 (some .int) rmX2_fillPool [.ref (ad 17)] z r τ := by
  refine f_bodyi (by decide) (Nat.le_of_ble_eq_true rfl) (fun p e s m args below meth c Q hC hret ls hl hI => ?_)
  have hx := hC.1
  have hb := hC.2.1
  have hl : lv_has ls 3 [(0, .ref (ad 17))] := hl
  unfold fX2_fillPool at h
  refine lv_iconst (v := 0) hx hb dX2_fillPool_0 (by decide) ?_
  refine lv_istore_n (lv' := [(1, .int (0 : Int32)), (0, .ref (ad 17))]) hx hb dX2_fillPool_1 rfl hl (by decide) rfl (fun ls hl => ?_)
  refine lv_iconst (v := 0) hx hb dX2_fillPool_2 (by decide) ?_
  refine lv_istore_n (lv' := [(2, .int (0 : Int32)), (1, .int (0 : Int32)), (0, .ref (ad 17))]) hx hb dX2_fillPool_3 rfl hl (by decide) rfl (fun ls hl => ?_)
  have w4 : ∀ (N4 : Nat) (v1 : Int32) (v2 : Int32) (z : fS) (H : Heap) (locs : List Loc) (ls : Array Slot), fI D 76 ad (cfX ad cy cz) z s H locs → lv_has ls 3 [(0, .ref (ad 17)), (1, .int v1), (2, .int v2)] → lX2_fillPool_4    N4 v1 v2 z = some (r, τ) → W p l e rmX2_fillPool s m args below meth c H locs 0 0 Q (F0 m 4 ls []) := by
    intro N4
    induction N4 with
    | zero =>
      intro v1 v2 z H locs ls hI hl h
      exact none_no h
    | succ N4 ih4 =>
      intro v1 v2 z H locs ls hI hl h
      rw [lX2_fillPool_4.eq_2] at h
      refine lv_iload_n hx hb dX2_fillPool_4 rfl (lv_at hl 2 rfl) ?_
      refine lv_aload_n hx hb dX2_fillPool_5 rfl (lv_at hl 0 rfl) ?_
      refine gX2_sayings hC hI tw_196 dX2_fillPool_6 ?_
      replace h := bp_at h
      obtain ⟨r9, e9, h⟩ := h
      refine r_calli (rest := [.int v2]) hC hI oX_11 (C := "EqualCourt$Sayings") rfl ywX5_count tw_537 (cX5_count_ok  e9) ⟨Nat.le_of_ble_eq_true rfl, Nat.le_of_ble_eq_true rfl⟩ ⟨rfl, rfl⟩ rfl hl.1 rfl (Nat.le_of_ble_eq_true rfl) dX2_fillPool_9 (fun H locs hI => ?_)
      refine lv_icmp_ge (tgt := 90) hx hb dX2_fillPool_12 (by decide) (fun c12 => ?_) (fun c12 => ?_)
      · replace h := if_t h c12
        refine lv_iload_n hx hb dX2_fillPool_90 rfl (lv_at hl 1 rfl) ?_
        exact hret h dX2_fillPool_91 hI
      · replace h := if_f h c12
        refine lv_aload_n hx hb dX2_fillPool_15 rfl (lv_at hl 0 rfl) ?_
        refine gX2_sayings hC hI tw_196 dX2_fillPool_16 ?_
        refine lv_iload_n hx hb dX2_fillPool_19 rfl (lv_at hl 2 rfl) ?_
        replace h := bp_at h
        obtain ⟨r20, e20, h⟩ := h
        refine r_calli (rest := []) hC hI oX_11 (C := "EqualCourt$Sayings") rfl ywX5_isTaken tw_538 (cX5_isTaken_ok  e20) ⟨Nat.le_of_ble_eq_true rfl, Nat.le_of_ble_eq_true rfl⟩ ⟨rfl, rfl⟩ rfl hl.1 rfl (Nat.le_of_ble_eq_true rfl) dX2_fillPool_20 (fun H locs hI => ?_)
        refine lv_if_eq (tgt := 84) hx hb dX2_fillPool_23 (by decide) (fun c23 => ?_) (fun c23 => ?_)
        · replace h := if_t h c23
          obtain ⟨x84, e84⟩ : ∃ y : Int32, y = (v2 + (1 : Int32)) := ⟨_, rfl⟩
          replace h := bnd_at h e84
          refine lv_iinc (v := x84) (lv' := [(2, .int x84), (0, .ref (ad 17)), (1, .int v1)]) hx hb dX2_fillPool_84 hl (k := 2) rfl (by rw [e84]; rfl) (by decide) rfl (fun ls hl => ?_)
          refine lv_goto (tgt := 4) hx hb dX2_fillPool_87 (by decide) ?_
          exact ih4  v1 x84 z _ _ _ hI (lv_sub hl [1, 2, 0] rfl) h
        · replace h := if_f h c23
          refine lv_aload_n hx hb dX2_fillPool_26 rfl (lv_at hl 0 rfl) ?_
          refine gX2_pool hC hI tw_201 dX2_fillPool_27 ?_
          refine lv_iload_n hx hb dX2_fillPool_30 rfl (lv_at hl 1 rfl) ?_
          refine lv_iload_n hx hb dX2_fillPool_31 rfl (lv_at hl 2 rfl) ?_
          have g32 := (gd_at h).1
          replace h := (gd_at h).2
          refine r_iast hC hI aX_20 g32 dX2_fillPool_32 (fun z32 H locs e32 hI => ?_)
          replace h := bnd_at h e32
          refine lv_aload_n hx hb dX2_fillPool_33 rfl (lv_at hl 0 rfl) ?_
          refine gX2_helps hC hI tw_202 dX2_fillPool_34 ?_
          refine lv_iload_n hx hb dX2_fillPool_37 rfl (lv_at hl 1 rfl) ?_
          refine lv_aload_n hx hb dX2_fillPool_38 rfl (lv_at hl 0 rfl) ?_
          refine gX2_sayings hC hI tw_196 dX2_fillPool_39 ?_
          refine lv_iload_n hx hb dX2_fillPool_42 rfl (lv_at hl 2 rfl) ?_
          replace h := bp_at h
          obtain ⟨r43, e43, h⟩ := h
          refine r_calli (rest := [.int v1, .ref (ad 21)]) hC hI oX_11 (C := "EqualCourt$Sayings") rfl ywX5_isSame tw_542 (cX5_isSame_ok  e43) ⟨Nat.le_of_ble_eq_true rfl, Nat.le_of_ble_eq_true rfl⟩ ⟨rfl, rfl⟩ rfl hl.1 rfl (Nat.le_of_ble_eq_true rfl) dX2_fillPool_43 (fun H locs hI => ?_)
          refine lv_if_eq (tgt := 79) hx hb dX2_fillPool_46 (by decide) (fun c46 => ?_) (fun c46 => ?_)
          · replace h := if_t h c46
            refine lv_iconst (v := 0) hx hb dX2_fillPool_79 (by decide) ?_
            have g80 := (gd_at h).1
            replace h := (gd_at h).2
            refine r_zast hC hI aX_21 g80 dX2_fillPool_80 (fun z80 H locs e80 hI => ?_)
            replace h := bnd_at h e80
            obtain ⟨x81, e81⟩ : ∃ y : Int32, y = (v1 + (1 : Int32)) := ⟨_, rfl⟩
            replace h := bnd_at h e81
            refine lv_iinc (v := x81) (lv' := [(1, .int x81), (0, .ref (ad 17)), (2, .int v2)]) hx hb dX2_fillPool_81 hl (k := 1) rfl (by rw [e81]; rfl) (by decide) rfl (fun ls hl => ?_)
            obtain ⟨x84, e84⟩ : ∃ y : Int32, y = (v2 + (1 : Int32)) := ⟨_, rfl⟩
            replace h := bnd_at h e84
            refine lv_iinc (v := x84) (lv' := [(2, .int x84), (1, .int x81), (0, .ref (ad 17))]) hx hb dX2_fillPool_84 hl (k := 2) rfl (by rw [e84]; rfl) (by decide) rfl (fun ls hl => ?_)
            refine lv_goto (tgt := 4) hx hb dX2_fillPool_87 (by decide) ?_
            exact ih4  x81 x84 z80 _ _ _ hI (lv_sub hl [2, 1, 0] rfl) h
          · replace h := if_f h c46
            refine lv_aload_n hx hb dX2_fillPool_49 rfl (lv_at hl 0 rfl) ?_
            refine gX2_bare hC hI tw_197 dX2_fillPool_50 ?_
            refine lv_aload_n hx hb dX2_fillPool_53 rfl (lv_at hl 0 rfl) ?_
            refine gX2_sayings hC hI tw_196 dX2_fillPool_54 ?_
            refine lv_iload_n hx hb dX2_fillPool_57 rfl (lv_at hl 2 rfl) ?_
            replace h := bp_at h
            obtain ⟨r58, e58, h⟩ := h
            refine r_calli (rest := [.ref (ad 28), .int v1, .ref (ad 21)]) hC hI oX_11 (C := "EqualCourt$Sayings") rfl ywX5_left tw_546 (cX5_left_ok  e58) ⟨Nat.le_of_ble_eq_true rfl, Nat.le_of_ble_eq_true rfl⟩ ⟨rfl, rfl⟩ rfl hl.1 rfl (Nat.le_of_ble_eq_true rfl) dX2_fillPool_58 (fun H locs hI => ?_)
            refine lv_aload_n hx hb dX2_fillPool_61 rfl (lv_at hl 0 rfl) ?_
            refine gX2_sayings hC hI tw_196 dX2_fillPool_62 ?_
            refine lv_iload_n hx hb dX2_fillPool_65 rfl (lv_at hl 2 rfl) ?_
            replace h := bp_at h
            obtain ⟨r66, e66, h⟩ := h
            refine r_calli (rest := [.int r58, .ref (ad 28), .int v1, .ref (ad 21)]) hC hI oX_11 (C := "EqualCourt$Sayings") rfl ywX5_right tw_550 (cX5_right_ok  e66) ⟨Nat.le_of_ble_eq_true rfl, Nat.le_of_ble_eq_true rfl⟩ ⟨rfl, rfl⟩ rfl hl.1 rfl (Nat.le_of_ble_eq_true rfl) dX2_fillPool_66 (fun H locs hI => ?_)
            replace h := bp_at h
            obtain ⟨r69, e69, h⟩ := h
            refine r_calli (rest := [.int v1, .ref (ad 21)]) hC hI (oP isP_28) (C := "EqualCourt$Partition") rfl ywX4_isOne tw_554 (cX4_isOne_ok isP_28 e69) ⟨Nat.le_of_ble_eq_true rfl, Nat.le_of_ble_eq_true rfl⟩ ⟨rfl, rfl⟩ rfl hl.1 rfl (Nat.le_of_ble_eq_true rfl) dX2_fillPool_69 (fun H locs hI => ?_)
            refine lv_if_ne (tgt := 79) hx hb dX2_fillPool_72 (by decide) (fun c72 => ?_) (fun c72 => ?_)
            · replace h := if_f h c72
              refine lv_iconst (v := 0) hx hb dX2_fillPool_79 (by decide) ?_
              have g80 := (gd_at h).1
              replace h := (gd_at h).2
              refine r_zast hC hI aX_21 g80 dX2_fillPool_80 (fun z80 H locs e80 hI => ?_)
              replace h := bnd_at h e80
              obtain ⟨x81, e81⟩ : ∃ y : Int32, y = (v1 + (1 : Int32)) := ⟨_, rfl⟩
              replace h := bnd_at h e81
              refine lv_iinc (v := x81) (lv' := [(1, .int x81), (0, .ref (ad 17)), (2, .int v2)]) hx hb dX2_fillPool_81 hl (k := 1) rfl (by rw [e81]; rfl) (by decide) rfl (fun ls hl => ?_)
              obtain ⟨x84, e84⟩ : ∃ y : Int32, y = (v2 + (1 : Int32)) := ⟨_, rfl⟩
              replace h := bnd_at h e84
              refine lv_iinc (v := x84) (lv' := [(2, .int x84), (1, .int x81), (0, .ref (ad 17))]) hx hb dX2_fillPool_84 hl (k := 2) rfl (by rw [e84]; rfl) (by decide) rfl (fun ls hl => ?_)
              refine lv_goto (tgt := 4) hx hb dX2_fillPool_87 (by decide) ?_
              exact ih4  x81 x84 z80 _ _ _ hI (lv_sub hl [2, 1, 0] rfl) h
            · replace h := if_t h c72
              refine lv_iconst (v := 1) hx hb dX2_fillPool_75 (by decide) ?_
              refine lv_goto (tgt := 80) hx hb dX2_fillPool_76 (by decide) ?_
              have g80 := (gd_at h).1
              replace h := (gd_at h).2
              refine r_zast hC hI aX_21 g80 dX2_fillPool_80 (fun z80 H locs e80 hI => ?_)
              replace h := bnd_at h e80
              obtain ⟨x81, e81⟩ : ∃ y : Int32, y = (v1 + (1 : Int32)) := ⟨_, rfl⟩
              replace h := bnd_at h e81
              refine lv_iinc (v := x81) (lv' := [(1, .int x81), (0, .ref (ad 17)), (2, .int v2)]) hx hb dX2_fillPool_81 hl (k := 1) rfl (by rw [e81]; rfl) (by decide) rfl (fun ls hl => ?_)
              obtain ⟨x84, e84⟩ : ∃ y : Int32, y = (v2 + (1 : Int32)) := ⟨_, rfl⟩
              replace h := bnd_at h e84
              refine lv_iinc (v := x84) (lv' := [(2, .int x84), (1, .int x81), (0, .ref (ad 17))]) hx hb dX2_fillPool_84 hl (k := 2) rfl (by rw [e84]; rfl) (by decide) rfl (fun ls hl => ?_)
              refine lv_goto (tgt := 4) hx hb dX2_fillPool_87 (by decide) ?_
              exact ih4  x81 x84 z80 _ _ _ hI (lv_sub hl [2, 1, 0] rfl) h
  exact w4 FU  (0 : Int32) (0 : Int32) z _ _ _ hI (lv_sub hl [2, 1, 0] rfl) h
theorem dX2_isOneByPicks_0 : decode cX2_isOneByPicks 0 = .ok (.iconst 0, 1) := by decide +kernel
theorem dX2_isOneByPicks_1 : decode cX2_isOneByPicks 1 = .ok (.istore 4, 2) := by decide +kernel
theorem dX2_isOneByPicks_3 : decode cX2_isOneByPicks 3 = .ok (.iload 4, 2) := by decide +kernel
theorem dX2_isOneByPicks_5 : decode cX2_isOneByPicks 5 = .ok (.iload_n 1, 1) := by decide +kernel
theorem dX2_isOneByPicks_6 : decode cX2_isOneByPicks 6 = .ok (.if_icmp .ge 26, 3) := by decide +kernel
theorem dX2_isOneByPicks_9 : decode cX2_isOneByPicks 9 = .ok (.aload_n 0, 1) := by decide +kernel
theorem dX2_isOneByPicks_10 : decode cX2_isOneByPicks 10 = .ok (.getfield 22, 3) := by decide +kernel
theorem dX2_isOneByPicks_13 : decode cX2_isOneByPicks 13 = .ok (.aload_n 0, 1) := by decide +kernel
theorem dX2_isOneByPicks_14 : decode cX2_isOneByPicks 14 = .ok (.getfield 26, 3) := by decide +kernel
theorem dX2_isOneByPicks_17 : decode cX2_isOneByPicks 17 = .ok (.iload 4, 2) := by decide +kernel
theorem dX2_isOneByPicks_19 : decode cX2_isOneByPicks 19 = .ok (.iaload, 1) := by decide +kernel
theorem dX2_isOneByPicks_20 : decode cX2_isOneByPicks 20 = .ok (.baload, 1) := by decide +kernel
theorem dX2_isOneByPicks_21 : decode cX2_isOneByPicks 21 = .ok (.ifCond .ne 5, 3) := by decide +kernel
theorem dX2_isOneByPicks_24 : decode cX2_isOneByPicks 24 = .ok (.iconst 0, 1) := by decide +kernel
theorem dX2_isOneByPicks_25 : decode cX2_isOneByPicks 25 = .ok (.ireturn, 1) := by decide +kernel
theorem dX2_isOneByPicks_26 : decode cX2_isOneByPicks 26 = .ok (.iinc 4 1, 3) := by decide +kernel
theorem dX2_isOneByPicks_29 : decode cX2_isOneByPicks 29 = .ok (.goto (-26), 3) := by decide +kernel
theorem dX2_isOneByPicks_32 : decode cX2_isOneByPicks 32 = .ok (.aload_n 0, 1) := by decide +kernel
theorem dX2_isOneByPicks_33 : decode cX2_isOneByPicks 33 = .ok (.getfield 52, 3) := by decide +kernel
theorem dX2_isOneByPicks_36 : decode cX2_isOneByPicks 36 = .ok (.aload_n 0, 1) := by decide +kernel
theorem dX2_isOneByPicks_37 : decode cX2_isOneByPicks 37 = .ok (.getfield 45, 3) := by decide +kernel
theorem dX2_isOneByPicks_40 : decode cX2_isOneByPicks 40 = .ok (.invokevirtual 65, 3) := by decide +kernel
theorem dX2_isOneByPicks_43 : decode cX2_isOneByPicks 43 = .ok (.iconst 0, 1) := by decide +kernel
theorem dX2_isOneByPicks_44 : decode cX2_isOneByPicks 44 = .ok (.istore 4, 2) := by decide +kernel
theorem dX2_isOneByPicks_46 : decode cX2_isOneByPicks 46 = .ok (.iload 4, 2) := by decide +kernel
theorem dX2_isOneByPicks_48 : decode cX2_isOneByPicks 48 = .ok (.iload_n 1, 1) := by decide +kernel
theorem dX2_isOneByPicks_49 : decode cX2_isOneByPicks 49 = .ok (.if_icmp .ge 48, 3) := by decide +kernel
theorem dX2_isOneByPicks_52 : decode cX2_isOneByPicks 52 = .ok (.aload_n 0, 1) := by decide +kernel
theorem dX2_isOneByPicks_53 : decode cX2_isOneByPicks 53 = .ok (.getfield 18, 3) := by decide +kernel
theorem dX2_isOneByPicks_56 : decode cX2_isOneByPicks 56 = .ok (.aload_n 0, 1) := by decide +kernel
theorem dX2_isOneByPicks_57 : decode cX2_isOneByPicks 57 = .ok (.getfield 26, 3) := by decide +kernel
theorem dX2_isOneByPicks_60 : decode cX2_isOneByPicks 60 = .ok (.iload 4, 2) := by decide +kernel
theorem dX2_isOneByPicks_62 : decode cX2_isOneByPicks 62 = .ok (.iaload, 1) := by decide +kernel
theorem dX2_isOneByPicks_63 : decode cX2_isOneByPicks 63 = .ok (.iaload, 1) := by decide +kernel
theorem dX2_isOneByPicks_64 : decode cX2_isOneByPicks 64 = .ok (.istore 5, 2) := by decide +kernel
theorem dX2_isOneByPicks_66 : decode cX2_isOneByPicks 66 = .ok (.aload_n 0, 1) := by decide +kernel
theorem dX2_isOneByPicks_67 : decode cX2_isOneByPicks 67 = .ok (.getfield 52, 3) := by decide +kernel
theorem dX2_isOneByPicks_70 : decode cX2_isOneByPicks 70 = .ok (.aload_n 0, 1) := by decide +kernel
theorem dX2_isOneByPicks_71 : decode cX2_isOneByPicks 71 = .ok (.getfield 33, 3) := by decide +kernel
theorem dX2_isOneByPicks_74 : decode cX2_isOneByPicks 74 = .ok (.iload 5, 2) := by decide +kernel
theorem dX2_isOneByPicks_76 : decode cX2_isOneByPicks 76 = .ok (.invokevirtual 79, 3) := by decide +kernel
theorem dX2_isOneByPicks_79 : decode cX2_isOneByPicks 79 = .ok (.aload_n 0, 1) := by decide +kernel
theorem dX2_isOneByPicks_80 : decode cX2_isOneByPicks 80 = .ok (.getfield 33, 3) := by decide +kernel
theorem dX2_isOneByPicks_83 : decode cX2_isOneByPicks 83 = .ok (.iload 5, 2) := by decide +kernel
theorem dX2_isOneByPicks_85 : decode cX2_isOneByPicks 85 = .ok (.invokevirtual 83, 3) := by decide +kernel
theorem dX2_isOneByPicks_88 : decode cX2_isOneByPicks 88 = .ok (.invokevirtual 86, 3) := by decide +kernel
theorem dX2_isOneByPicks_91 : decode cX2_isOneByPicks 91 = .ok (.iinc 4 1, 3) := by decide +kernel
theorem dX2_isOneByPicks_94 : decode cX2_isOneByPicks 94 = .ok (.goto (-48), 3) := by decide +kernel
theorem dX2_isOneByPicks_97 : decode cX2_isOneByPicks 97 = .ok (.aload_n 0, 1) := by decide +kernel
theorem dX2_isOneByPicks_98 : decode cX2_isOneByPicks 98 = .ok (.getfield 52, 3) := by decide +kernel
theorem dX2_isOneByPicks_101 : decode cX2_isOneByPicks 101 = .ok (.iload_n 2, 1) := by decide +kernel
theorem dX2_isOneByPicks_102 : decode cX2_isOneByPicks 102 = .ok (.iload_n 3, 1) := by decide +kernel
theorem dX2_isOneByPicks_103 : decode cX2_isOneByPicks 103 = .ok (.invokevirtual 94, 3) := by decide +kernel
theorem dX2_isOneByPicks_106 : decode cX2_isOneByPicks 106 = .ok (.ireturn, 1) := by decide +kernel
abbrev rmX2_isOneByPicks : Room := { frames := 3, cells := 0, slots := 0, locals := 80 }
theorem ywX2_isOneByPicks : fY yX2_isOneByPicks "EqualCourt$Court" cX2_isOneByPicks 6 (some .boolean) 3 := ⟨tw_651, tp_12, tw_5, tw_652, by decide +kernel⟩
set_option maxHeartbeats 4000000 in
set_option maxRecDepth 100000 in
theorem cX2_isOneByPicks_ok {D : va_G} {ad : Nat → Nat} {cy cz : ClassId} {l : Launch} {z : fS} {v1 : Int32} {v2 : Int32} {v3 : Int32} {r : Int32} {τ : fS} (h : fX2_isOneByPicks z v1 v2 v3 = some (r, τ)) : fMi D 76 ad (cfX ad cy cz) cy cz l yX2_isOneByPicks cX2_isOneByPicks 6 (some .boolean) rmX2_isOneByPicks [.ref (ad 17), .int v1, .int v2, .int v3] z r τ := by
  refine f_bodyz (by decide) (Nat.le_of_ble_eq_true rfl) (fun p e s m args below meth c Q hC hret ls hl hI => ?_)
  have hx := hC.1
  have hb := hC.2.1
  have hl : lv_has ls 6 [(0, .ref (ad 17)), (1, .int v1), (2, .int v2), (3, .int v3)] := hl
  unfold fX2_isOneByPicks at h
  have w32 : ∀ (z : fS) (v1 : Int32) (v2 : Int32) (v3 : Int32) (H : Heap) (locs : List Loc) (ls : Array Slot), fI D 76 ad (cfX ad cy cz) z s H locs → lv_has ls 6 [(0, .ref (ad 17)), (1, .int v1), (2, .int v2), (3, .int v3)] → jX2_isOneByPicks_32   z v1 v2 v3 = some (r, τ) → W p l e rmX2_isOneByPicks s m args below meth c H locs 0 0 Q (F0 m 32 ls []) := by
    intro z v1 v2 v3 H locs ls hI hl h
    unfold jX2_isOneByPicks_32 at h
    refine lv_aload_n hx hb dX2_isOneByPicks_32 rfl (lv_at hl 0 rfl) ?_
    refine gX2_trial hC hI tw_199 dX2_isOneByPicks_33 ?_
    refine lv_aload_n hx hb dX2_isOneByPicks_36 rfl (lv_at hl 0 rfl) ?_
    refine gX2_bare hC hI tw_197 dX2_isOneByPicks_37 ?_
    replace h := bp_at h
    obtain ⟨z40, e40, h⟩ := h
    refine r_callv (rest := []) hC hI (oP (isP_pcell _)) (C := "EqualCourt$Partition") rfl ywX4_copyFrom tw_525 (cX4_copyFrom_ok (isP_pcell _) isP_28 e40) ⟨Nat.le_of_ble_eq_true rfl, Nat.le_of_ble_eq_true rfl⟩ ⟨rfl, rfl⟩ rfl hl.1 rfl (Nat.le_of_ble_eq_true rfl) dX2_isOneByPicks_40 (fun H locs hI => ?_)
    refine lv_iconst (v := 0) hx hb dX2_isOneByPicks_43 (by decide) ?_
    refine lv_istore (lv' := [(4, .int (0 : Int32)), (0, .ref (ad 17)), (1, .int v1), (2, .int v2), (3, .int v3)]) hx hb dX2_isOneByPicks_44 hl (by decide) rfl (fun ls hl => ?_)
    have w46 : ∀ (N46 : Nat) (v1 : Int32) (v2 : Int32) (v3 : Int32) (v4 : Int32) (z : fS) (H : Heap) (locs : List Loc) (ls : Array Slot), fI D 76 ad (cfX ad cy cz) z s H locs → lv_has ls 6 [(0, .ref (ad 17)), (1, .int v1), (2, .int v2), (3, .int v3), (4, .int v4)] → lX2_isOneByPicks_46   v1 v2 v3 N46 v4 z = some (r, τ) → W p l e rmX2_isOneByPicks s m args below meth c H locs 0 0 Q (F0 m 46 ls []) := by
      intro N46
      induction N46 with
      | zero =>
        intro v1 v2 v3 v4 z H locs ls hI hl h
        exact none_no h
      | succ N46 ih46 =>
        intro v1 v2 v3 v4 z H locs ls hI hl h
        rw [lX2_isOneByPicks_46.eq_2] at h
        refine lv_iload hx hb dX2_isOneByPicks_46 (lv_at hl 4 rfl) ?_
        refine lv_iload_n hx hb dX2_isOneByPicks_48 rfl (lv_at hl 1 rfl) ?_
        refine lv_icmp_ge (tgt := 97) hx hb dX2_isOneByPicks_49 (by decide) (fun c49 => ?_) (fun c49 => ?_)
        · replace h := if_t h c49
          refine lv_aload_n hx hb dX2_isOneByPicks_97 rfl (lv_at hl 0 rfl) ?_
          refine gX2_trial hC hI tw_199 dX2_isOneByPicks_98 ?_
          refine lv_iload_n hx hb dX2_isOneByPicks_101 rfl (lv_at hl 2 rfl) ?_
          refine lv_iload_n hx hb dX2_isOneByPicks_102 rfl (lv_at hl 3 rfl) ?_
          replace h := bp_at h
          obtain ⟨r103, e103, h⟩ := h
          refine r_calli (rest := []) hC hI (oP (isP_pcell _)) (C := "EqualCourt$Partition") rfl ywX4_isOne tw_554 (cX4_isOne_ok (isP_pcell _) e103) ⟨Nat.le_of_ble_eq_true rfl, Nat.le_of_ble_eq_true rfl⟩ ⟨rfl, rfl⟩ rfl hl.1 rfl (Nat.le_of_ble_eq_true rfl) dX2_isOneByPicks_103 (fun H locs hI => ?_)
          have g106 := (gd_at h).1
          replace h := (gd_at h).2
          exact hret h g106 dX2_isOneByPicks_106 hI
        · replace h := if_f h c49
          refine lv_aload_n hx hb dX2_isOneByPicks_52 rfl (lv_at hl 0 rfl) ?_
          refine gX2_pool hC hI tw_201 dX2_isOneByPicks_53 ?_
          refine lv_aload_n hx hb dX2_isOneByPicks_56 rfl (lv_at hl 0 rfl) ?_
          refine gX2_picks hC hI tw_203 dX2_isOneByPicks_57 ?_
          refine lv_iload hx hb dX2_isOneByPicks_60 (lv_at hl 4 rfl) ?_
          have g62 := (gd_at h).1
          replace h := (gd_at h).2
          refine r_iald hC hI aX_22 g62 dX2_isOneByPicks_62 ?_
          have g63 := (gd_at h).1
          replace h := (gd_at h).2
          refine r_iald hC hI aX_20 g63 dX2_isOneByPicks_63 ?_
          refine lv_topi (fun x64 e64 => ?_)
          replace h := bnd_at h e64
          refine lv_istore (lv' := [(5, .int x64), (0, .ref (ad 17)), (1, .int v1), (2, .int v2), (3, .int v3), (4, .int v4)]) hx hb dX2_isOneByPicks_64 hl (by decide) rfl (fun ls hl => ?_)
          refine lv_aload_n hx hb dX2_isOneByPicks_66 rfl (lv_at hl 1 rfl) ?_
          refine gX2_trial hC hI tw_199 dX2_isOneByPicks_67 ?_
          refine lv_aload_n hx hb dX2_isOneByPicks_70 rfl (lv_at hl 1 rfl) ?_
          refine gX2_sayings hC hI tw_196 dX2_isOneByPicks_71 ?_
          refine lv_iload hx hb dX2_isOneByPicks_74 (lv_at hl 0 rfl) ?_
          replace h := bp_at h
          obtain ⟨r76, e76, h⟩ := h
          refine r_calli (rest := [.ref (ad (pcell (z 17 4)))]) hC hI oX_11 (C := "EqualCourt$Sayings") rfl ywX5_left tw_546 (cX5_left_ok  e76) ⟨Nat.le_of_ble_eq_true rfl, Nat.le_of_ble_eq_true rfl⟩ ⟨rfl, rfl⟩ rfl hl.1 rfl (Nat.le_of_ble_eq_true rfl) dX2_isOneByPicks_76 (fun H locs hI => ?_)
          refine lv_aload_n hx hb dX2_isOneByPicks_79 rfl (lv_at hl 1 rfl) ?_
          refine gX2_sayings hC hI tw_196 dX2_isOneByPicks_80 ?_
          refine lv_iload hx hb dX2_isOneByPicks_83 (lv_at hl 0 rfl) ?_
          replace h := bp_at h
          obtain ⟨r85, e85, h⟩ := h
          refine r_calli (rest := [.int r76, .ref (ad (pcell (z 17 4)))]) hC hI oX_11 (C := "EqualCourt$Sayings") rfl ywX5_right tw_550 (cX5_right_ok  e85) ⟨Nat.le_of_ble_eq_true rfl, Nat.le_of_ble_eq_true rfl⟩ ⟨rfl, rfl⟩ rfl hl.1 rfl (Nat.le_of_ble_eq_true rfl) dX2_isOneByPicks_85 (fun H locs hI => ?_)
          replace h := bp_at h
          obtain ⟨z88, e88, h⟩ := h
          refine r_callv (rest := []) hC hI (oP (isP_pcell _)) (C := "EqualCourt$Partition") rfl ywX4_join tw_532 (cX4_join_ok (isP_pcell _) e88) ⟨Nat.le_of_ble_eq_true rfl, Nat.le_of_ble_eq_true rfl⟩ ⟨rfl, rfl⟩ rfl hl.1 rfl (Nat.le_of_ble_eq_true rfl) dX2_isOneByPicks_88 (fun H locs hI => ?_)
          obtain ⟨x91, e91⟩ : ∃ y : Int32, y = (v4 + (1 : Int32)) := ⟨_, rfl⟩
          replace h := bnd_at h e91
          refine lv_iinc (v := x91) (lv' := [(4, .int x91), (5, .int x64), (0, .ref (ad 17)), (1, .int v1), (2, .int v2), (3, .int v3)]) hx hb dX2_isOneByPicks_91 hl (k := 5) rfl (by rw [e91]; rfl) (by decide) rfl (fun ls hl => ?_)
          refine lv_goto (tgt := 46) hx hb dX2_isOneByPicks_94 (by decide) ?_
          exact ih46 v1 v2 v3 x91 z88 _ _ _ hI (lv_sub hl [2, 3, 4, 5, 0] rfl) h
    exact w46 FU v1 v2 v3 (0 : Int32) z40 _ _ _ hI (lv_sub hl [1, 2, 3, 4, 0] rfl) h
  refine lv_iconst (v := 0) hx hb dX2_isOneByPicks_0 (by decide) ?_
  refine lv_istore (lv' := [(4, .int (0 : Int32)), (0, .ref (ad 17)), (1, .int v1), (2, .int v2), (3, .int v3)]) hx hb dX2_isOneByPicks_1 hl (by decide) rfl (fun ls hl => ?_)
  have w3 : ∀ (N3 : Nat) (z : fS) (v1 : Int32) (v2 : Int32) (v3 : Int32) (v4 : Int32) (H : Heap) (locs : List Loc) (ls : Array Slot), fI D 76 ad (cfX ad cy cz) z s H locs → lv_has ls 6 [(0, .ref (ad 17)), (1, .int v1), (2, .int v2), (3, .int v3), (4, .int v4)] → lX2_isOneByPicks_3  (jX2_isOneByPicks_32   z v1 v2 v3) z v1 v2 v3 N3 v4 = some (r, τ) → W p l e rmX2_isOneByPicks s m args below meth c H locs 0 0 Q (F0 m 3 ls []) := by
    intro N3
    induction N3 with
    | zero =>
      intro z v1 v2 v3 v4 H locs ls hI hl h
      exact none_no h
    | succ N3 ih3 =>
      intro z v1 v2 v3 v4 H locs ls hI hl h
      rw [lX2_isOneByPicks_3.eq_2] at h
      refine lv_iload hx hb dX2_isOneByPicks_3 (lv_at hl 4 rfl) ?_
      refine lv_iload_n hx hb dX2_isOneByPicks_5 rfl (lv_at hl 1 rfl) ?_
      refine lv_icmp_ge (tgt := 32) hx hb dX2_isOneByPicks_6 (by decide) (fun c6 => ?_) (fun c6 => ?_)
      · replace h := if_t h c6
        exact w32 z v1 v2 v3 _ _ _ hI (lv_sub hl [0, 1, 2, 3] rfl) h
      · replace h := if_f h c6
        refine lv_aload_n hx hb dX2_isOneByPicks_9 rfl (lv_at hl 0 rfl) ?_
        refine gX2_helps hC hI tw_202 dX2_isOneByPicks_10 ?_
        refine lv_aload_n hx hb dX2_isOneByPicks_13 rfl (lv_at hl 0 rfl) ?_
        refine gX2_picks hC hI tw_203 dX2_isOneByPicks_14 ?_
        refine lv_iload hx hb dX2_isOneByPicks_17 (lv_at hl 4 rfl) ?_
        have g19 := (gd_at h).1
        replace h := (gd_at h).2
        refine r_iald hC hI aX_22 g19 dX2_isOneByPicks_19 ?_
        have g20 := (gd_at h).1
        replace h := (gd_at h).2
        refine r_zald hC hI aX_21 g20 dX2_isOneByPicks_20 ?_
        refine lv_if_ne (tgt := 26) hx hb dX2_isOneByPicks_21 (by decide) (fun c21 => ?_) (fun c21 => ?_)
        · replace h := if_f h c21
          obtain ⟨x26, e26⟩ : ∃ y : Int32, y = (v4 + (1 : Int32)) := ⟨_, rfl⟩
          replace h := bnd_at h e26
          refine lv_iinc (v := x26) (lv' := [(4, .int x26), (0, .ref (ad 17)), (1, .int v1), (2, .int v2), (3, .int v3)]) hx hb dX2_isOneByPicks_26 hl (k := 4) rfl (by rw [e26]; rfl) (by decide) rfl (fun ls hl => ?_)
          refine lv_goto (tgt := 3) hx hb dX2_isOneByPicks_29 (by decide) ?_
          exact ih3 z v1 v2 v3 x26 _ _ _ hI (lv_sub hl [1, 2, 3, 4, 0] rfl) h
        · replace h := if_t h c21
          refine lv_iconst (v := 0) hx hb dX2_isOneByPicks_24 (by decide) ?_
          exact hret h (by decide) dX2_isOneByPicks_25 hI
  exact w3 FU z v1 v2 v3 (0 : Int32) _ _ _ hI (lv_sub hl [1, 2, 3, 4, 0] rfl) h
theorem dX2_pickNext_0 : decode cX2_pickNext 0 = .ok (.iload_n 1, 1) := by decide +kernel
theorem dX2_pickNext_1 : decode cX2_pickNext 1 = .ok (.iconst 1, 1) := by decide +kernel
theorem dX2_pickNext_2 : decode cX2_pickNext 2 = .ok (.isub, 1) := by decide +kernel
theorem dX2_pickNext_3 : decode cX2_pickNext 3 = .ok (.istore_n 3, 1) := by decide +kernel
theorem dX2_pickNext_4 : decode cX2_pickNext 4 = .ok (.iload_n 3, 1) := by decide +kernel
theorem dX2_pickNext_5 : decode cX2_pickNext 5 = .ok (.ifCond .lt 23, 3) := by decide +kernel
theorem dX2_pickNext_8 : decode cX2_pickNext 8 = .ok (.aload_n 0, 1) := by decide +kernel
theorem dX2_pickNext_9 : decode cX2_pickNext 9 = .ok (.getfield 26, 3) := by decide +kernel
theorem dX2_pickNext_12 : decode cX2_pickNext 12 = .ok (.iload_n 3, 1) := by decide +kernel
theorem dX2_pickNext_13 : decode cX2_pickNext 13 = .ok (.iaload, 1) := by decide +kernel
theorem dX2_pickNext_14 : decode cX2_pickNext 14 = .ok (.iload_n 2, 1) := by decide +kernel
theorem dX2_pickNext_15 : decode cX2_pickNext 15 = .ok (.iload_n 1, 1) := by decide +kernel
theorem dX2_pickNext_16 : decode cX2_pickNext 16 = .ok (.isub, 1) := by decide +kernel
theorem dX2_pickNext_17 : decode cX2_pickNext 17 = .ok (.iload_n 3, 1) := by decide +kernel
theorem dX2_pickNext_18 : decode cX2_pickNext 18 = .ok (.iadd, 1) := by decide +kernel
theorem dX2_pickNext_19 : decode cX2_pickNext 19 = .ok (.if_icmp .lt 9, 3) := by decide +kernel
theorem dX2_pickNext_22 : decode cX2_pickNext 22 = .ok (.iinc 3 (-1), 3) := by decide +kernel
theorem dX2_pickNext_25 : decode cX2_pickNext 25 = .ok (.goto (-21), 3) := by decide +kernel
theorem dX2_pickNext_28 : decode cX2_pickNext 28 = .ok (.iload_n 3, 1) := by decide +kernel
theorem dX2_pickNext_29 : decode cX2_pickNext 29 = .ok (.ifCond .ge 5, 3) := by decide +kernel
theorem dX2_pickNext_32 : decode cX2_pickNext 32 = .ok (.iconst 0, 1) := by decide +kernel
theorem dX2_pickNext_33 : decode cX2_pickNext 33 = .ok (.ireturn, 1) := by decide +kernel
theorem dX2_pickNext_34 : decode cX2_pickNext 34 = .ok (.aload_n 0, 1) := by decide +kernel
theorem dX2_pickNext_35 : decode cX2_pickNext 35 = .ok (.getfield 26, 3) := by decide +kernel
theorem dX2_pickNext_38 : decode cX2_pickNext 38 = .ok (.iload_n 3, 1) := by decide +kernel
theorem dX2_pickNext_39 : decode cX2_pickNext 39 = .ok (.dup2, 1) := by decide +kernel
theorem dX2_pickNext_40 : decode cX2_pickNext 40 = .ok (.iaload, 1) := by decide +kernel
theorem dX2_pickNext_41 : decode cX2_pickNext 41 = .ok (.iconst 1, 1) := by decide +kernel
theorem dX2_pickNext_42 : decode cX2_pickNext 42 = .ok (.iadd, 1) := by decide +kernel
theorem dX2_pickNext_43 : decode cX2_pickNext 43 = .ok (.iastore, 1) := by decide +kernel
theorem dX2_pickNext_44 : decode cX2_pickNext 44 = .ok (.iload_n 3, 1) := by decide +kernel
theorem dX2_pickNext_45 : decode cX2_pickNext 45 = .ok (.iconst 1, 1) := by decide +kernel
theorem dX2_pickNext_46 : decode cX2_pickNext 46 = .ok (.iadd, 1) := by decide +kernel
theorem dX2_pickNext_47 : decode cX2_pickNext 47 = .ok (.istore 4, 2) := by decide +kernel
theorem dX2_pickNext_49 : decode cX2_pickNext 49 = .ok (.iload 4, 2) := by decide +kernel
theorem dX2_pickNext_51 : decode cX2_pickNext 51 = .ok (.iload_n 1, 1) := by decide +kernel
theorem dX2_pickNext_52 : decode cX2_pickNext 52 = .ok (.if_icmp .ge 27, 3) := by decide +kernel
theorem dX2_pickNext_55 : decode cX2_pickNext 55 = .ok (.aload_n 0, 1) := by decide +kernel
theorem dX2_pickNext_56 : decode cX2_pickNext 56 = .ok (.getfield 26, 3) := by decide +kernel
theorem dX2_pickNext_59 : decode cX2_pickNext 59 = .ok (.iload 4, 2) := by decide +kernel
theorem dX2_pickNext_61 : decode cX2_pickNext 61 = .ok (.aload_n 0, 1) := by decide +kernel
theorem dX2_pickNext_62 : decode cX2_pickNext 62 = .ok (.getfield 26, 3) := by decide +kernel
theorem dX2_pickNext_65 : decode cX2_pickNext 65 = .ok (.iload 4, 2) := by decide +kernel
theorem dX2_pickNext_67 : decode cX2_pickNext 67 = .ok (.iconst 1, 1) := by decide +kernel
theorem dX2_pickNext_68 : decode cX2_pickNext 68 = .ok (.isub, 1) := by decide +kernel
theorem dX2_pickNext_69 : decode cX2_pickNext 69 = .ok (.iaload, 1) := by decide +kernel
theorem dX2_pickNext_70 : decode cX2_pickNext 70 = .ok (.iconst 1, 1) := by decide +kernel
theorem dX2_pickNext_71 : decode cX2_pickNext 71 = .ok (.iadd, 1) := by decide +kernel
theorem dX2_pickNext_72 : decode cX2_pickNext 72 = .ok (.iastore, 1) := by decide +kernel
theorem dX2_pickNext_73 : decode cX2_pickNext 73 = .ok (.iinc 4 1, 3) := by decide +kernel
theorem dX2_pickNext_76 : decode cX2_pickNext 76 = .ok (.goto (-27), 3) := by decide +kernel
theorem dX2_pickNext_79 : decode cX2_pickNext 79 = .ok (.iconst 1, 1) := by decide +kernel
theorem dX2_pickNext_80 : decode cX2_pickNext 80 = .ok (.ireturn, 1) := by decide +kernel
abbrev rmX2_pickNext : Room := { frames := 0, cells := 0, slots := 0, locals := 0 }
theorem ywX2_pickNext : fY yX2_pickNext "EqualCourt$Court" cX2_pickNext 5 (some .boolean) 2 := ⟨tw_655, tp_13, tw_5, tw_656, by decide +kernel⟩
set_option maxHeartbeats 4000000 in
set_option maxRecDepth 100000 in
theorem cX2_pickNext_ok {D : va_G} {ad : Nat → Nat} {cy cz : ClassId} {l : Launch} {z : fS} {v1 : Int32} {v2 : Int32} {r : Int32} {τ : fS} (h : fX2_pickNext z v1 v2 = some (r, τ)) : fMi D 76 ad (cfX ad cy cz) cy cz l yX2_pickNext cX2_pickNext 5 (some .boolean) rmX2_pickNext [.ref (ad 17), .int v1, .int v2] z r τ := by
  refine f_bodyz (by decide) (Nat.le_of_ble_eq_true rfl) (fun p e s m args below meth c Q hC hret ls hl hI => ?_)
  have hx := hC.1
  have hb := hC.2.1
  have hl : lv_has ls 5 [(0, .ref (ad 17)), (1, .int v1), (2, .int v2)] := hl
  unfold fX2_pickNext at h
  have w28 : ∀ (z : fS) (v1 : Int32) (v3 : Int32) (H : Heap) (locs : List Loc) (ls : Array Slot), fI D 76 ad (cfX ad cy cz) z s H locs → lv_has ls 5 [(0, .ref (ad 17)), (1, .int v1), (3, .int v3)] → jX2_pickNext_28   z v1 v3 = some (r, τ) → W p l e rmX2_pickNext s m args below meth c H locs 0 0 Q (F0 m 28 ls []) := by
    intro z v1 v3 H locs ls hI hl h
    unfold jX2_pickNext_28 at h
    refine lv_iload_n hx hb dX2_pickNext_28 rfl (lv_at hl 2 rfl) ?_
    refine lv_if_ge (tgt := 34) hx hb dX2_pickNext_29 (by decide) (fun c29 => ?_) (fun c29 => ?_)
    · replace h := if_t h c29
      refine lv_aload_n hx hb dX2_pickNext_34 rfl (lv_at hl 0 rfl) ?_
      refine gX2_picks hC hI tw_203 dX2_pickNext_35 ?_
      refine lv_iload_n hx hb dX2_pickNext_38 rfl (lv_at hl 2 rfl) ?_
      refine lv_dup2_11 hx hb dX2_pickNext_39 rfl rfl ?_
      have g40 := (gd_at h).1
      replace h := (gd_at h).2
      refine r_iald hC hI aX_22 g40 dX2_pickNext_40 ?_
      refine lv_iconst (v := 1) hx hb dX2_pickNext_41 (by decide) ?_
      refine lv_iadd hx hb dX2_pickNext_42 ?_
      have g43 := (gd_at h).1
      replace h := (gd_at h).2
      refine r_iast hC hI aX_22 g43 dX2_pickNext_43 (fun z43 H locs e43 hI => ?_)
      replace h := bnd_at h e43
      refine lv_iload_n hx hb dX2_pickNext_44 rfl (lv_at hl 2 rfl) ?_
      refine lv_iconst (v := 1) hx hb dX2_pickNext_45 (by decide) ?_
      refine lv_iadd hx hb dX2_pickNext_46 ?_
      refine lv_topi (fun x47 e47 => ?_)
      replace h := bnd_at h e47
      refine lv_istore (lv' := [(4, .int x47), (0, .ref (ad 17)), (1, .int v1), (3, .int v3)]) hx hb dX2_pickNext_47 hl (by decide) rfl (fun ls hl => ?_)
      have w49 : ∀ (N49 : Nat) (v1 : Int32) (v4 : Int32) (z : fS) (H : Heap) (locs : List Loc) (ls : Array Slot), fI D 76 ad (cfX ad cy cz) z s H locs → lv_has ls 5 [(0, .ref (ad 17)), (1, .int v1), (4, .int v4)] → lX2_pickNext_49   v1 N49 v4 z = some (r, τ) → W p l e rmX2_pickNext s m args below meth c H locs 0 0 Q (F0 m 49 ls []) := by
        intro N49
        induction N49 with
        | zero =>
          intro v1 v4 z H locs ls hI hl h
          exact none_no h
        | succ N49 ih49 =>
          intro v1 v4 z H locs ls hI hl h
          rw [lX2_pickNext_49.eq_2] at h
          refine lv_iload hx hb dX2_pickNext_49 (lv_at hl 2 rfl) ?_
          refine lv_iload_n hx hb dX2_pickNext_51 rfl (lv_at hl 1 rfl) ?_
          refine lv_icmp_ge (tgt := 79) hx hb dX2_pickNext_52 (by decide) (fun c52 => ?_) (fun c52 => ?_)
          · replace h := if_t h c52
            refine lv_iconst (v := 1) hx hb dX2_pickNext_79 (by decide) ?_
            exact hret h (by decide) dX2_pickNext_80 hI
          · replace h := if_f h c52
            refine lv_aload_n hx hb dX2_pickNext_55 rfl (lv_at hl 0 rfl) ?_
            refine gX2_picks hC hI tw_203 dX2_pickNext_56 ?_
            refine lv_iload hx hb dX2_pickNext_59 (lv_at hl 2 rfl) ?_
            refine lv_aload_n hx hb dX2_pickNext_61 rfl (lv_at hl 0 rfl) ?_
            refine gX2_picks hC hI tw_203 dX2_pickNext_62 ?_
            refine lv_iload hx hb dX2_pickNext_65 (lv_at hl 2 rfl) ?_
            refine lv_iconst (v := 1) hx hb dX2_pickNext_67 (by decide) ?_
            refine lv_isub hx hb dX2_pickNext_68 ?_
            have g69 := (gd_at h).1
            replace h := (gd_at h).2
            refine r_iald hC hI aX_22 g69 dX2_pickNext_69 ?_
            refine lv_iconst (v := 1) hx hb dX2_pickNext_70 (by decide) ?_
            refine lv_iadd hx hb dX2_pickNext_71 ?_
            have g72 := (gd_at h).1
            replace h := (gd_at h).2
            refine r_iast hC hI aX_22 g72 dX2_pickNext_72 (fun z72 H locs e72 hI => ?_)
            replace h := bnd_at h e72
            obtain ⟨x73, e73⟩ : ∃ y : Int32, y = (v4 + (1 : Int32)) := ⟨_, rfl⟩
            replace h := bnd_at h e73
            refine lv_iinc (v := x73) (lv' := [(4, .int x73), (0, .ref (ad 17)), (1, .int v1)]) hx hb dX2_pickNext_73 hl (k := 2) rfl (by rw [e73]; rfl) (by decide) rfl (fun ls hl => ?_)
            refine lv_goto (tgt := 49) hx hb dX2_pickNext_76 (by decide) ?_
            exact ih49 v1 x73 z72 _ _ _ hI (lv_sub hl [1, 2, 0] rfl) h
      exact w49 FU v1 x47 z43 _ _ _ hI (lv_sub hl [1, 2, 0] rfl) h
    · replace h := if_f h c29
      refine lv_iconst (v := 0) hx hb dX2_pickNext_32 (by decide) ?_
      exact hret h (by decide) dX2_pickNext_33 hI
  refine lv_iload_n hx hb dX2_pickNext_0 rfl (lv_at hl 1 rfl) ?_
  refine lv_iconst (v := 1) hx hb dX2_pickNext_1 (by decide) ?_
  refine lv_isub hx hb dX2_pickNext_2 ?_
  refine lv_topi (fun x3 e3 => ?_)
  replace h := bnd_at h e3
  refine lv_istore_n (lv' := [(3, .int x3), (0, .ref (ad 17)), (1, .int v1), (2, .int v2)]) hx hb dX2_pickNext_3 rfl hl (by decide) rfl (fun ls hl => ?_)
  have w4 : ∀ (N4 : Nat) (z : fS) (v1 : Int32) (v2 : Int32) (v3 : Int32) (H : Heap) (locs : List Loc) (ls : Array Slot), fI D 76 ad (cfX ad cy cz) z s H locs → lv_has ls 5 [(0, .ref (ad 17)), (1, .int v1), (2, .int v2), (3, .int v3)] → lX2_pickNext_4  (jX2_pickNext_28   z v1) z v1 v2 N4 v3 = some (r, τ) → W p l e rmX2_pickNext s m args below meth c H locs 0 0 Q (F0 m 4 ls []) := by
    intro N4
    induction N4 with
    | zero =>
      intro z v1 v2 v3 H locs ls hI hl h
      exact none_no h
    | succ N4 ih4 =>
      intro z v1 v2 v3 H locs ls hI hl h
      rw [lX2_pickNext_4.eq_2] at h
      refine lv_iload_n hx hb dX2_pickNext_4 rfl (lv_at hl 3 rfl) ?_
      refine lv_if_lt (tgt := 28) hx hb dX2_pickNext_5 (by decide) (fun c5 => ?_) (fun c5 => ?_)
      · replace h := if_t h c5
        exact w28 z v1 v3 _ _ _ hI (lv_sub hl [0, 1, 3] rfl) h
      · replace h := if_f h c5
        refine lv_aload_n hx hb dX2_pickNext_8 rfl (lv_at hl 0 rfl) ?_
        refine gX2_picks hC hI tw_203 dX2_pickNext_9 ?_
        refine lv_iload_n hx hb dX2_pickNext_12 rfl (lv_at hl 3 rfl) ?_
        have g13 := (gd_at h).1
        replace h := (gd_at h).2
        refine r_iald hC hI aX_22 g13 dX2_pickNext_13 ?_
        refine lv_iload_n hx hb dX2_pickNext_14 rfl (lv_at hl 2 rfl) ?_
        refine lv_iload_n hx hb dX2_pickNext_15 rfl (lv_at hl 1 rfl) ?_
        refine lv_isub hx hb dX2_pickNext_16 ?_
        refine lv_iload_n hx hb dX2_pickNext_17 rfl (lv_at hl 3 rfl) ?_
        refine lv_iadd hx hb dX2_pickNext_18 ?_
        refine lv_icmp_lt (tgt := 28) hx hb dX2_pickNext_19 (by decide) (fun c19 => ?_) (fun c19 => ?_)
        · replace h := if_t h c19
          exact w28 z v1 v3 _ _ _ hI (lv_sub hl [0, 1, 3] rfl) h
        · replace h := if_f h c19
          obtain ⟨x22, e22⟩ : ∃ y : Int32, y = (v3 + (-1 : Int32)) := ⟨_, rfl⟩
          replace h := bnd_at h e22
          refine lv_iinc (v := x22) (lv' := [(3, .int x22), (0, .ref (ad 17)), (1, .int v1), (2, .int v2)]) hx hb dX2_pickNext_22 hl (k := 3) rfl (by rw [e22]; rfl) (by decide) rfl (fun ls hl => ?_)
          refine lv_goto (tgt := 4) hx hb dX2_pickNext_25 (by decide) ?_
          exact ih4 z v1 v2 x22 _ _ _ hI (lv_sub hl [1, 2, 3, 0] rfl) h
  exact w4 FU z v1 v2 x3 _ _ _ hI (lv_sub hl [1, 2, 3, 0] rfl) h
theorem dX2_findFewest_0 : decode cX2_findFewest 0 = .ok (.aload_n 0, 1) := by decide +kernel
theorem dX2_findFewest_1 : decode cX2_findFewest 1 = .ok (.invokevirtual 115, 3) := by decide +kernel
theorem dX2_findFewest_4 : decode cX2_findFewest 4 = .ok (.istore 5, 2) := by decide +kernel
theorem dX2_findFewest_6 : decode cX2_findFewest 6 = .ok (.iconst 0, 1) := by decide +kernel
theorem dX2_findFewest_7 : decode cX2_findFewest 7 = .ok (.istore 6, 2) := by decide +kernel
theorem dX2_findFewest_9 : decode cX2_findFewest 9 = .ok (.iconst 0, 1) := by decide +kernel
theorem dX2_findFewest_10 : decode cX2_findFewest 10 = .ok (.istore 7, 2) := by decide +kernel
theorem dX2_findFewest_12 : decode cX2_findFewest 12 = .ok (.iload 7, 2) := by decide +kernel
theorem dX2_findFewest_14 : decode cX2_findFewest 14 = .ok (.iload 5, 2) := by decide +kernel
theorem dX2_findFewest_16 : decode cX2_findFewest 16 = .ok (.if_icmp .gt 121, 3) := by decide +kernel
theorem dX2_findFewest_19 : decode cX2_findFewest 19 = .ok (.iload 6, 2) := by decide +kernel
theorem dX2_findFewest_21 : decode cX2_findFewest 21 = .ok (.iload_n 3, 1) := by decide +kernel
theorem dX2_findFewest_22 : decode cX2_findFewest 22 = .ok (.if_icmp .ge 115, 3) := by decide +kernel
theorem dX2_findFewest_25 : decode cX2_findFewest 25 = .ok (.iconst 0, 1) := by decide +kernel
theorem dX2_findFewest_26 : decode cX2_findFewest 26 = .ok (.istore 8, 2) := by decide +kernel
theorem dX2_findFewest_28 : decode cX2_findFewest 28 = .ok (.iload 8, 2) := by decide +kernel
theorem dX2_findFewest_30 : decode cX2_findFewest 30 = .ok (.iload 7, 2) := by decide +kernel
theorem dX2_findFewest_32 : decode cX2_findFewest 32 = .ok (.if_icmp .ge 18, 3) := by decide +kernel
theorem dX2_findFewest_35 : decode cX2_findFewest 35 = .ok (.aload_n 0, 1) := by decide +kernel
theorem dX2_findFewest_36 : decode cX2_findFewest 36 = .ok (.getfield 26, 3) := by decide +kernel
theorem dX2_findFewest_39 : decode cX2_findFewest 39 = .ok (.iload 8, 2) := by decide +kernel
theorem dX2_findFewest_41 : decode cX2_findFewest 41 = .ok (.iload 8, 2) := by decide +kernel
theorem dX2_findFewest_43 : decode cX2_findFewest 43 = .ok (.iastore, 1) := by decide +kernel
theorem dX2_findFewest_44 : decode cX2_findFewest 44 = .ok (.iinc 8 1, 3) := by decide +kernel
theorem dX2_findFewest_47 : decode cX2_findFewest 47 = .ok (.goto (-19), 3) := by decide +kernel
theorem dX2_findFewest_50 : decode cX2_findFewest 50 = .ok (.iconst 1, 1) := by decide +kernel
theorem dX2_findFewest_51 : decode cX2_findFewest 51 = .ok (.istore 8, 2) := by decide +kernel
theorem dX2_findFewest_53 : decode cX2_findFewest 53 = .ok (.iload 8, 2) := by decide +kernel
theorem dX2_findFewest_55 : decode cX2_findFewest 55 = .ok (.ifCond .eq 76, 3) := by decide +kernel
theorem dX2_findFewest_58 : decode cX2_findFewest 58 = .ok (.iload 6, 2) := by decide +kernel
theorem dX2_findFewest_60 : decode cX2_findFewest 60 = .ok (.iload_n 3, 1) := by decide +kernel
theorem dX2_findFewest_61 : decode cX2_findFewest 61 = .ok (.if_icmp .ge 70, 3) := by decide +kernel
theorem dX2_findFewest_64 : decode cX2_findFewest 64 = .ok (.iinc 6 1, 3) := by decide +kernel
theorem dX2_findFewest_67 : decode cX2_findFewest 67 = .ok (.aload_n 0, 1) := by decide +kernel
theorem dX2_findFewest_68 : decode cX2_findFewest 68 = .ok (.iload 7, 2) := by decide +kernel
theorem dX2_findFewest_70 : decode cX2_findFewest 70 = .ok (.iload_n 1, 1) := by decide +kernel
theorem dX2_findFewest_71 : decode cX2_findFewest 71 = .ok (.iload_n 2, 1) := by decide +kernel
theorem dX2_findFewest_72 : decode cX2_findFewest 72 = .ok (.invokevirtual 118, 3) := by decide +kernel
theorem dX2_findFewest_75 : decode cX2_findFewest 75 = .ok (.ifCond .eq 43, 3) := by decide +kernel
theorem dX2_findFewest_78 : decode cX2_findFewest 78 = .ok (.aload 4, 2) := by decide +kernel
theorem dX2_findFewest_80 : decode cX2_findFewest 80 = .ok (.invokevirtual 98, 3) := by decide +kernel
theorem dX2_findFewest_83 : decode cX2_findFewest 83 = .ok (.iconst 0, 1) := by decide +kernel
theorem dX2_findFewest_84 : decode cX2_findFewest 84 = .ok (.istore 9, 2) := by decide +kernel
theorem dX2_findFewest_86 : decode cX2_findFewest 86 = .ok (.iload 9, 2) := by decide +kernel
theorem dX2_findFewest_88 : decode cX2_findFewest 88 = .ok (.iload 7, 2) := by decide +kernel
theorem dX2_findFewest_90 : decode cX2_findFewest 90 = .ok (.if_icmp .ge 26, 3) := by decide +kernel
theorem dX2_findFewest_93 : decode cX2_findFewest 93 = .ok (.aload 4, 2) := by decide +kernel
theorem dX2_findFewest_95 : decode cX2_findFewest 95 = .ok (.aload_n 0, 1) := by decide +kernel
theorem dX2_findFewest_96 : decode cX2_findFewest 96 = .ok (.getfield 18, 3) := by decide +kernel
theorem dX2_findFewest_99 : decode cX2_findFewest 99 = .ok (.aload_n 0, 1) := by decide +kernel
theorem dX2_findFewest_100 : decode cX2_findFewest 100 = .ok (.getfield 26, 3) := by decide +kernel
theorem dX2_findFewest_103 : decode cX2_findFewest 103 = .ok (.iload 9, 2) := by decide +kernel
theorem dX2_findFewest_105 : decode cX2_findFewest 105 = .ok (.iaload, 1) := by decide +kernel
theorem dX2_findFewest_106 : decode cX2_findFewest 106 = .ok (.iaload, 1) := by decide +kernel
theorem dX2_findFewest_107 : decode cX2_findFewest 107 = .ok (.invokevirtual 112, 3) := by decide +kernel
theorem dX2_findFewest_110 : decode cX2_findFewest 110 = .ok (.iinc 9 1, 3) := by decide +kernel
theorem dX2_findFewest_113 : decode cX2_findFewest 113 = .ok (.goto (-27), 3) := by decide +kernel
theorem dX2_findFewest_116 : decode cX2_findFewest 116 = .ok (.iconst 1, 1) := by decide +kernel
theorem dX2_findFewest_117 : decode cX2_findFewest 117 = .ok (.ireturn, 1) := by decide +kernel
theorem dX2_findFewest_118 : decode cX2_findFewest 118 = .ok (.aload_n 0, 1) := by decide +kernel
theorem dX2_findFewest_119 : decode cX2_findFewest 119 = .ok (.iload 7, 2) := by decide +kernel
theorem dX2_findFewest_121 : decode cX2_findFewest 121 = .ok (.iload 5, 2) := by decide +kernel
theorem dX2_findFewest_123 : decode cX2_findFewest 123 = .ok (.invokevirtual 122, 3) := by decide +kernel
theorem dX2_findFewest_126 : decode cX2_findFewest 126 = .ok (.istore 8, 2) := by decide +kernel
theorem dX2_findFewest_128 : decode cX2_findFewest 128 = .ok (.goto (-75), 3) := by decide +kernel
theorem dX2_findFewest_131 : decode cX2_findFewest 131 = .ok (.iinc 7 1, 3) := by decide +kernel
theorem dX2_findFewest_134 : decode cX2_findFewest 134 = .ok (.goto (-122), 3) := by decide +kernel
theorem dX2_findFewest_137 : decode cX2_findFewest 137 = .ok (.iconst 0, 1) := by decide +kernel
theorem dX2_findFewest_138 : decode cX2_findFewest 138 = .ok (.ireturn, 1) := by decide +kernel
abbrev rmX2_findFewest : Room := { frames := 4, cells := 0, slots := 0, locals := 105 }
theorem ywX2_findFewest : fY yX2_findFewest "EqualCourt$Court" cX2_findFewest 10 (some .boolean) 4 := ⟨tw_642, tw_643, tw_5, tw_644, by decide +kernel⟩
set_option maxHeartbeats 4000000 in
set_option maxRecDepth 100000 in
theorem cX2_findFewest_ok {D : va_G} {ad : Nat → Nat} {cy cz : ClassId} {l : Launch} {z : fS} {v1 : Int32} {v2 : Int32} {v3 : Int32} {v4 : Nat} (hv4 : isK v4) {r : Int32} {τ : fS} (h : fX2_findFewest z v1 v2 v3 v4 = some (r, τ)) : fMi D 76 ad (cfX ad cy cz) cy cz l yX2_findFewest cX2_findFewest 10 (some .boolean) rmX2_findFewest [.ref (ad 17), .int v1, .int v2, .int v3, .ref (ad v4)] z r τ := by
  refine f_bodyz (by decide) (Nat.le_of_ble_eq_true rfl) (fun p e s m args below meth c Q hC hret ls hl hI => ?_)
  have hx := hC.1
  have hb := hC.2.1
  have hl : lv_has ls 10 [(0, .ref (ad 17)), (1, .int v1), (2, .int v2), (3, .int v3), (4, .ref (ad v4))] := hl
  unfold fX2_findFewest at h
  have w78 : ∀ (v7 : Int32) (z : fS) (H : Heap) (locs : List Loc) (ls : Array Slot), fI D 76 ad (cfX ad cy cz) z s H locs → lv_has ls 10 [(0, .ref (ad 17)), (4, .ref (ad v4)), (7, .int v7)] → jX2_findFewest_78 v4  v7 z = some (r, τ) → W p l e rmX2_findFewest s m args below meth c H locs 0 0 Q (F0 m 78 ls []) := by
    intro v7 z H locs ls hI hl h
    unfold jX2_findFewest_78 at h
    refine lv_aload hx hb dX2_findFewest_78 (lv_at hl 1 rfl) ?_
    replace h := bp_at h
    obtain ⟨z80, e80, h⟩ := h
    refine r_callv (rest := []) hC hI (oK hv4) (C := "EqualCourt$Core") rfl ywX1_clear tw_562 (cX1_clear_ok hv4 e80) ⟨Nat.le_of_ble_eq_true rfl, Nat.le_of_ble_eq_true rfl⟩ ⟨rfl, rfl⟩ rfl hl.1 rfl (Nat.le_of_ble_eq_true rfl) dX2_findFewest_80 (fun H locs hI => ?_)
    refine lv_iconst (v := 0) hx hb dX2_findFewest_83 (by decide) ?_
    refine lv_istore (lv' := [(9, .int (0 : Int32)), (0, .ref (ad 17)), (4, .ref (ad v4)), (7, .int v7)]) hx hb dX2_findFewest_84 hl (by decide) rfl (fun ls hl => ?_)
    have w86 : ∀ (N86 : Nat) (v7 : Int32) (v9 : Int32) (z : fS) (H : Heap) (locs : List Loc) (ls : Array Slot), fI D 76 ad (cfX ad cy cz) z s H locs → lv_has ls 10 [(0, .ref (ad 17)), (4, .ref (ad v4)), (7, .int v7), (9, .int v9)] → lX2_findFewest_86 v4  v7 N86 v9 z = some (r, τ) → W p l e rmX2_findFewest s m args below meth c H locs 0 0 Q (F0 m 86 ls []) := by
      intro N86
      induction N86 with
      | zero =>
        intro v7 v9 z H locs ls hI hl h
        exact none_no h
      | succ N86 ih86 =>
        intro v7 v9 z H locs ls hI hl h
        rw [lX2_findFewest_86.eq_2] at h
        refine lv_iload hx hb dX2_findFewest_86 (lv_at hl 3 rfl) ?_
        refine lv_iload hx hb dX2_findFewest_88 (lv_at hl 2 rfl) ?_
        refine lv_icmp_ge (tgt := 116) hx hb dX2_findFewest_90 (by decide) (fun c90 => ?_) (fun c90 => ?_)
        · replace h := if_t h c90
          refine lv_iconst (v := 1) hx hb dX2_findFewest_116 (by decide) ?_
          exact hret h (by decide) dX2_findFewest_117 hI
        · replace h := if_f h c90
          refine lv_aload hx hb dX2_findFewest_93 (lv_at hl 1 rfl) ?_
          refine lv_aload_n hx hb dX2_findFewest_95 rfl (lv_at hl 0 rfl) ?_
          refine gX2_pool hC hI tw_201 dX2_findFewest_96 ?_
          refine lv_aload_n hx hb dX2_findFewest_99 rfl (lv_at hl 0 rfl) ?_
          refine gX2_picks hC hI tw_203 dX2_findFewest_100 ?_
          refine lv_iload hx hb dX2_findFewest_103 (lv_at hl 3 rfl) ?_
          have g105 := (gd_at h).1
          replace h := (gd_at h).2
          refine r_iald hC hI aX_22 g105 dX2_findFewest_105 ?_
          have g106 := (gd_at h).1
          replace h := (gd_at h).2
          refine r_iald hC hI aX_20 g106 dX2_findFewest_106 ?_
          replace h := bp_at h
          obtain ⟨z107, e107, h⟩ := h
          refine r_callv (rest := []) hC hI (oK hv4) (C := "EqualCourt$Core") rfl ywX1_add tw_578 (cX1_add_ok hv4 e107) ⟨Nat.le_of_ble_eq_true rfl, Nat.le_of_ble_eq_true rfl⟩ ⟨rfl, rfl⟩ rfl hl.1 rfl (Nat.le_of_ble_eq_true rfl) dX2_findFewest_107 (fun H locs hI => ?_)
          obtain ⟨x110, e110⟩ : ∃ y : Int32, y = (v9 + (1 : Int32)) := ⟨_, rfl⟩
          replace h := bnd_at h e110
          refine lv_iinc (v := x110) (lv' := [(9, .int x110), (0, .ref (ad 17)), (4, .ref (ad v4)), (7, .int v7)]) hx hb dX2_findFewest_110 hl (k := 3) rfl (by rw [e110]; rfl) (by decide) rfl (fun ls hl => ?_)
          refine lv_goto (tgt := 86) hx hb dX2_findFewest_113 (by decide) ?_
          exact ih86 v7 x110 z107 _ _ _ hI (lv_sub hl [1, 2, 3, 0] rfl) h
    exact w86 FU v7 (0 : Int32) z80 _ _ _ hI (lv_sub hl [1, 2, 3, 0] rfl) h
  refine lv_aload_n hx hb dX2_findFewest_0 rfl (lv_at hl 0 rfl) ?_
  replace h := bd_at h
  obtain ⟨r1, z1, e1, h⟩ := h
  refine r_calli (rest := []) hC hI oX_17 (C := "EqualCourt$Court") rfl ywX2_fillPool tw_645 (cX2_fillPool_ok  e1) ⟨Nat.le_of_ble_eq_true rfl, Nat.le_of_ble_eq_true rfl⟩ ⟨rfl, rfl⟩ rfl hl.1 rfl (Nat.le_of_ble_eq_true rfl) dX2_findFewest_1 (fun H locs hI => ?_)
  refine lv_istore (lv' := [(5, .int r1), (0, .ref (ad 17)), (1, .int v1), (2, .int v2), (3, .int v3), (4, .ref (ad v4))]) hx hb dX2_findFewest_4 hl (by decide) rfl (fun ls hl => ?_)
  refine lv_iconst (v := 0) hx hb dX2_findFewest_6 (by decide) ?_
  refine lv_istore (lv' := [(6, .int (0 : Int32)), (5, .int r1), (0, .ref (ad 17)), (1, .int v1), (2, .int v2), (3, .int v3), (4, .ref (ad v4))]) hx hb dX2_findFewest_7 hl (by decide) rfl (fun ls hl => ?_)
  refine lv_iconst (v := 0) hx hb dX2_findFewest_9 (by decide) ?_
  refine lv_istore (lv' := [(7, .int (0 : Int32)), (6, .int (0 : Int32)), (5, .int r1), (0, .ref (ad 17)), (1, .int v1), (2, .int v2), (3, .int v3), (4, .ref (ad v4))]) hx hb dX2_findFewest_10 hl (by decide) rfl (fun ls hl => ?_)
  have w12 : ∀ (N12 : Nat) (v1 : Int32) (v2 : Int32) (v3 : Int32) (v5 : Int32) (v6 : Int32) (v7 : Int32) (z : fS) (H : Heap) (locs : List Loc) (ls : Array Slot), fI D 76 ad (cfX ad cy cz) z s H locs → lv_has ls 10 [(0, .ref (ad 17)), (1, .int v1), (2, .int v2), (3, .int v3), (4, .ref (ad v4)), (5, .int v5), (6, .int v6), (7, .int v7)] → lX2_findFewest_12 v4 (jX2_findFewest_78 v4  ) v1 v2 v3 v5 N12 v6 v7 z = some (r, τ) → W p l e rmX2_findFewest s m args below meth c H locs 0 0 Q (F0 m 12 ls []) := by
    intro N12
    induction N12 with
    | zero =>
      intro v1 v2 v3 v5 v6 v7 z H locs ls hI hl h
      exact none_no h
    | succ N12 ih12 =>
      have w131 : ∀ (v1 : Int32) (v2 : Int32) (v3 : Int32) (v5 : Int32) (v7 : Int32) (v6 : Int32) (z : fS) (H : Heap) (locs : List Loc) (ls : Array Slot), fI D 76 ad (cfX ad cy cz) z s H locs → lv_has ls 10 [(0, .ref (ad 17)), (1, .int v1), (2, .int v2), (3, .int v3), (4, .ref (ad v4)), (5, .int v5), (6, .int v6), (7, .int v7)] → jX2_findFewest_131 v4 (lX2_findFewest_12 v4 (jX2_findFewest_78 v4  ) v1 v2 v3 v5 N12) (jX2_findFewest_78 v4  ) v1 v2 v3 v5 v7 v6 z = some (r, τ) → W p l e rmX2_findFewest s m args below meth c H locs 0 0 Q (F0 m 131 ls []) := by
        intro v1 v2 v3 v5 v7 v6 z H locs ls hI hl h
        unfold jX2_findFewest_131 at h
        obtain ⟨x131, e131⟩ : ∃ y : Int32, y = (v7 + (1 : Int32)) := ⟨_, rfl⟩
        replace h := bnd_at h e131
        refine lv_iinc (v := x131) (lv' := [(7, .int x131), (0, .ref (ad 17)), (1, .int v1), (2, .int v2), (3, .int v3), (4, .ref (ad v4)), (5, .int v5), (6, .int v6)]) hx hb dX2_findFewest_131 hl (k := 7) rfl (by rw [e131]; rfl) (by decide) rfl (fun ls hl => ?_)
        refine lv_goto (tgt := 12) hx hb dX2_findFewest_134 (by decide) ?_
        exact ih12 v1 v2 v3 v5 v6 x131 z _ _ _ hI (lv_sub hl [1, 2, 3, 4, 5, 6, 7, 0] rfl) h
      have w50 : ∀ (v1 : Int32) (v2 : Int32) (v3 : Int32) (v5 : Int32) (v6 : Int32) (v7 : Int32) (z : fS) (H : Heap) (locs : List Loc) (ls : Array Slot), fI D 76 ad (cfX ad cy cz) z s H locs → lv_has ls 10 [(0, .ref (ad 17)), (1, .int v1), (2, .int v2), (3, .int v3), (4, .ref (ad v4)), (5, .int v5), (6, .int v6), (7, .int v7)] → jX2_findFewest_50 v4 (lX2_findFewest_12 v4 (jX2_findFewest_78 v4  ) v1 v2 v3 v5 N12) (jX2_findFewest_78 v4  ) v1 v2 v3 v5 v6 v7 z = some (r, τ) → W p l e rmX2_findFewest s m args below meth c H locs 0 0 Q (F0 m 50 ls []) := by
        intro v1 v2 v3 v5 v6 v7 z H locs ls hI hl h
        unfold jX2_findFewest_50 at h
        refine lv_iconst (v := 1) hx hb dX2_findFewest_50 (by decide) ?_
        refine lv_istore (lv' := [(8, .int (1 : Int32)), (0, .ref (ad 17)), (1, .int v1), (2, .int v2), (3, .int v3), (4, .ref (ad v4)), (5, .int v5), (6, .int v6), (7, .int v7)]) hx hb dX2_findFewest_51 hl (by decide) rfl (fun ls hl => ?_)
        have w53 : ∀ (N53 : Nat) (v1 : Int32) (v2 : Int32) (v3 : Int32) (v5 : Int32) (v7 : Int32) (v6 : Int32) (v8 : Int32) (z : fS) (H : Heap) (locs : List Loc) (ls : Array Slot), fI D 76 ad (cfX ad cy cz) z s H locs → lv_has ls 10 [(0, .ref (ad 17)), (1, .int v1), (2, .int v2), (3, .int v3), (4, .ref (ad v4)), (5, .int v5), (6, .int v6), (7, .int v7), (8, .int v8)] → lX2_findFewest_53 v4 ((jX2_findFewest_78 v4  ) v7) (jX2_findFewest_131 v4 (lX2_findFewest_12 v4 (jX2_findFewest_78 v4  ) v1 v2 v3 v5 N12) (jX2_findFewest_78 v4  ) v1 v2 v3 v5 v7) v1 v2 v3 v5 v7 N53 v6 v8 z = some (r, τ) → W p l e rmX2_findFewest s m args below meth c H locs 0 0 Q (F0 m 53 ls []) := by
          intro N53
          induction N53 with
          | zero =>
            intro v1 v2 v3 v5 v7 v6 v8 z H locs ls hI hl h
            exact none_no h
          | succ N53 ih53 =>
            intro v1 v2 v3 v5 v7 v6 v8 z H locs ls hI hl h
            rw [lX2_findFewest_53.eq_2] at h
            refine lv_iload hx hb dX2_findFewest_53 (lv_at hl 8 rfl) ?_
            refine lv_if_eq (tgt := 131) hx hb dX2_findFewest_55 (by decide) (fun c55 => ?_) (fun c55 => ?_)
            · replace h := if_t h c55
              exact w131 v1 v2 v3 v5 v7 v6 z _ _ _ hI (lv_sub hl [0, 1, 2, 3, 4, 5, 6, 7] rfl) h
            · replace h := if_f h c55
              refine lv_iload hx hb dX2_findFewest_58 (lv_at hl 6 rfl) ?_
              refine lv_iload_n hx hb dX2_findFewest_60 rfl (lv_at hl 3 rfl) ?_
              refine lv_icmp_ge (tgt := 131) hx hb dX2_findFewest_61 (by decide) (fun c61 => ?_) (fun c61 => ?_)
              · replace h := if_t h c61
                exact w131 v1 v2 v3 v5 v7 v6 z _ _ _ hI (lv_sub hl [0, 1, 2, 3, 4, 5, 6, 7] rfl) h
              · replace h := if_f h c61
                obtain ⟨x64, e64⟩ : ∃ y : Int32, y = (v6 + (1 : Int32)) := ⟨_, rfl⟩
                replace h := bnd_at h e64
                refine lv_iinc (v := x64) (lv' := [(6, .int x64), (0, .ref (ad 17)), (1, .int v1), (2, .int v2), (3, .int v3), (4, .ref (ad v4)), (5, .int v5), (7, .int v7), (8, .int v8)]) hx hb dX2_findFewest_64 hl (k := 6) rfl (by rw [e64]; rfl) (by decide) rfl (fun ls hl => ?_)
                refine lv_aload_n hx hb dX2_findFewest_67 rfl (lv_at hl 1 rfl) ?_
                refine lv_iload hx hb dX2_findFewest_68 (lv_at hl 7 rfl) ?_
                refine lv_iload_n hx hb dX2_findFewest_70 rfl (lv_at hl 2 rfl) ?_
                refine lv_iload_n hx hb dX2_findFewest_71 rfl (lv_at hl 3 rfl) ?_
                replace h := bd_at h
                obtain ⟨r72, z72, e72, h⟩ := h
                refine r_calli (rest := []) hC hI oX_17 (C := "EqualCourt$Court") rfl ywX2_isOneByPicks tw_649 (cX2_isOneByPicks_ok  e72) ⟨Nat.le_of_ble_eq_true rfl, Nat.le_of_ble_eq_true rfl⟩ ⟨rfl, rfl⟩ rfl hl.1 rfl (Nat.le_of_ble_eq_true rfl) dX2_findFewest_72 (fun H locs hI => ?_)
                refine lv_if_eq (tgt := 118) hx hb dX2_findFewest_75 (by decide) (fun c75 => ?_) (fun c75 => ?_)
                · replace h := if_t h c75
                  refine lv_aload_n hx hb dX2_findFewest_118 rfl (lv_at hl 1 rfl) ?_
                  refine lv_iload hx hb dX2_findFewest_119 (lv_at hl 7 rfl) ?_
                  refine lv_iload hx hb dX2_findFewest_121 (lv_at hl 6 rfl) ?_
                  replace h := bd_at h
                  obtain ⟨r123, z123, e123, h⟩ := h
                  refine r_calli (rest := []) hC hI oX_17 (C := "EqualCourt$Court") rfl ywX2_pickNext tw_653 (cX2_pickNext_ok  e123) ⟨Nat.le_of_ble_eq_true rfl, Nat.le_of_ble_eq_true rfl⟩ ⟨rfl, rfl⟩ rfl hl.1 rfl (Nat.le_of_ble_eq_true rfl) dX2_findFewest_123 (fun H locs hI => ?_)
                  refine lv_istore (lv' := [(8, .int r123), (6, .int x64), (0, .ref (ad 17)), (1, .int v1), (2, .int v2), (3, .int v3), (4, .ref (ad v4)), (5, .int v5), (7, .int v7)]) hx hb dX2_findFewest_126 hl (by decide) rfl (fun ls hl => ?_)
                  refine lv_goto (tgt := 53) hx hb dX2_findFewest_128 (by decide) ?_
                  exact ih53 v1 v2 v3 v5 v7 x64 r123 z123 _ _ _ hI (lv_sub hl [2, 3, 4, 5, 6, 7, 1, 8, 0] rfl) h
                · replace h := if_f h c75
                  exact w78 v7 z72 _ _ _ hI (lv_sub hl [1, 5, 7] rfl) h
        exact w53 FU v1 v2 v3 v5 v7 v6 (1 : Int32) z _ _ _ hI (lv_sub hl [1, 2, 3, 4, 5, 6, 7, 8, 0] rfl) h
      intro v1 v2 v3 v5 v6 v7 z H locs ls hI hl h
      rw [lX2_findFewest_12.eq_2] at h
      refine lv_iload hx hb dX2_findFewest_12 (lv_at hl 7 rfl) ?_
      refine lv_iload hx hb dX2_findFewest_14 (lv_at hl 5 rfl) ?_
      refine lv_icmp_gt (tgt := 137) hx hb dX2_findFewest_16 (by decide) (fun c16 => ?_) (fun c16 => ?_)
      · replace h := if_t h c16
        refine lv_iconst (v := 0) hx hb dX2_findFewest_137 (by decide) ?_
        exact hret h (by decide) dX2_findFewest_138 hI
      · replace h := if_f h c16
        refine lv_iload hx hb dX2_findFewest_19 (lv_at hl 6 rfl) ?_
        refine lv_iload_n hx hb dX2_findFewest_21 rfl (lv_at hl 3 rfl) ?_
        refine lv_icmp_ge (tgt := 137) hx hb dX2_findFewest_22 (by decide) (fun c22 => ?_) (fun c22 => ?_)
        · replace h := if_t h c22
          refine lv_iconst (v := 0) hx hb dX2_findFewest_137 (by decide) ?_
          exact hret h (by decide) dX2_findFewest_138 hI
        · replace h := if_f h c22
          refine lv_iconst (v := 0) hx hb dX2_findFewest_25 (by decide) ?_
          refine lv_istore (lv' := [(8, .int (0 : Int32)), (0, .ref (ad 17)), (1, .int v1), (2, .int v2), (3, .int v3), (4, .ref (ad v4)), (5, .int v5), (6, .int v6), (7, .int v7)]) hx hb dX2_findFewest_26 hl (by decide) rfl (fun ls hl => ?_)
          have w28 : ∀ (N28 : Nat) (v1 : Int32) (v2 : Int32) (v3 : Int32) (v5 : Int32) (v6 : Int32) (v7 : Int32) (v8 : Int32) (z : fS) (H : Heap) (locs : List Loc) (ls : Array Slot), fI D 76 ad (cfX ad cy cz) z s H locs → lv_has ls 10 [(0, .ref (ad 17)), (1, .int v1), (2, .int v2), (3, .int v3), (4, .ref (ad v4)), (5, .int v5), (6, .int v6), (7, .int v7), (8, .int v8)] → lX2_findFewest_28 v4 (jX2_findFewest_50 v4 (lX2_findFewest_12 v4 (jX2_findFewest_78 v4  ) v1 v2 v3 v5 N12) (jX2_findFewest_78 v4  ) v1 v2 v3 v5 v6 v7) v1 v2 v3 v5 v6 v7 N28 v8 z = some (r, τ) → W p l e rmX2_findFewest s m args below meth c H locs 0 0 Q (F0 m 28 ls []) := by
            intro N28
            induction N28 with
            | zero =>
              intro v1 v2 v3 v5 v6 v7 v8 z H locs ls hI hl h
              exact none_no h
            | succ N28 ih28 =>
              intro v1 v2 v3 v5 v6 v7 v8 z H locs ls hI hl h
              rw [lX2_findFewest_28.eq_2] at h
              refine lv_iload hx hb dX2_findFewest_28 (lv_at hl 8 rfl) ?_
              refine lv_iload hx hb dX2_findFewest_30 (lv_at hl 7 rfl) ?_
              refine lv_icmp_ge (tgt := 50) hx hb dX2_findFewest_32 (by decide) (fun c32 => ?_) (fun c32 => ?_)
              · replace h := if_t h c32
                exact w50 v1 v2 v3 v5 v6 v7 z _ _ _ hI (lv_sub hl [0, 1, 2, 3, 4, 5, 6, 7] rfl) h
              · replace h := if_f h c32
                refine lv_aload_n hx hb dX2_findFewest_35 rfl (lv_at hl 0 rfl) ?_
                refine gX2_picks hC hI tw_203 dX2_findFewest_36 ?_
                refine lv_iload hx hb dX2_findFewest_39 (lv_at hl 8 rfl) ?_
                refine lv_iload hx hb dX2_findFewest_41 (lv_at hl 8 rfl) ?_
                have g43 := (gd_at h).1
                replace h := (gd_at h).2
                refine r_iast hC hI aX_22 g43 dX2_findFewest_43 (fun z43 H locs e43 hI => ?_)
                replace h := bnd_at h e43
                obtain ⟨x44, e44⟩ : ∃ y : Int32, y = (v8 + (1 : Int32)) := ⟨_, rfl⟩
                replace h := bnd_at h e44
                refine lv_iinc (v := x44) (lv' := [(8, .int x44), (0, .ref (ad 17)), (1, .int v1), (2, .int v2), (3, .int v3), (4, .ref (ad v4)), (5, .int v5), (6, .int v6), (7, .int v7)]) hx hb dX2_findFewest_44 hl (k := 8) rfl (by rw [e44]; rfl) (by decide) rfl (fun ls hl => ?_)
                refine lv_goto (tgt := 28) hx hb dX2_findFewest_47 (by decide) ?_
                exact ih28 v1 v2 v3 v5 v6 v7 x44 z43 _ _ _ hI (lv_sub hl [1, 2, 3, 4, 5, 6, 7, 8, 0] rfl) h
          exact w28 FU v1 v2 v3 v5 v6 v7 (0 : Int32) z _ _ _ hI (lv_sub hl [1, 2, 3, 4, 5, 6, 7, 8, 0] rfl) h
  exact w12 FU v1 v2 v3 r1 (0 : Int32) (0 : Int32) z1 _ _ _ hI (lv_sub hl [3, 4, 5, 6, 7, 2, 1, 0] rfl) h
