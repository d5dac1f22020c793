theorem dX3_isKnown_0 : decode cX3_isKnown 0 = .ok (.iload_n 1, 1) := by decide +kernel
theorem dX3_isKnown_1 : decode cX3_isKnown 1 = .ok (.iconst (-1), 1) := by decide +kernel
theorem dX3_isKnown_2 : decode cX3_isKnown 2 = .ok (.if_icmp .eq 38, 3) := by decide +kernel
theorem dX3_isKnown_5 : decode cX3_isKnown 5 = .ok (.aload_n 0, 1) := by decide +kernel
theorem dX3_isKnown_6 : decode cX3_isKnown 6 = .ok (.getfield 24, 3) := by decide +kernel
theorem dX3_isKnown_9 : decode cX3_isKnown 9 = .ok (.iload_n 1, 1) := by decide +kernel
theorem dX3_isKnown_10 : decode cX3_isKnown 10 = .ok (.invokevirtual 57, 3) := by decide +kernel
theorem dX3_isKnown_13 : decode cX3_isKnown 13 = .ok (.ifCond .eq 27, 3) := by decide +kernel
theorem dX3_isKnown_16 : decode cX3_isKnown 16 = .ok (.aload_n 0, 1) := by decide +kernel
theorem dX3_isKnown_17 : decode cX3_isKnown 17 = .ok (.getfield 24, 3) := by decide +kernel
theorem dX3_isKnown_20 : decode cX3_isKnown 20 = .ok (.iload_n 1, 1) := by decide +kernel
theorem dX3_isKnown_21 : decode cX3_isKnown 21 = .ok (.invokevirtual 60, 3) := by decide +kernel
theorem dX3_isKnown_24 : decode cX3_isKnown 24 = .ok (.ifCond .ne 16, 3) := by decide +kernel
theorem dX3_isKnown_27 : decode cX3_isKnown 27 = .ok (.aload_n 0, 1) := by decide +kernel
theorem dX3_isKnown_28 : decode cX3_isKnown 28 = .ok (.getfield 15, 3) := by decide +kernel
theorem dX3_isKnown_31 : decode cX3_isKnown 31 = .ok (.iload_n 1, 1) := by decide +kernel
theorem dX3_isKnown_32 : decode cX3_isKnown 32 = .ok (.iaload, 1) := by decide +kernel
theorem dX3_isKnown_33 : decode cX3_isKnown 33 = .ok (.aload_n 0, 1) := by decide +kernel
theorem dX3_isKnown_34 : decode cX3_isKnown 34 = .ok (.getfield 34, 3) := by decide +kernel
theorem dX3_isKnown_37 : decode cX3_isKnown 37 = .ok (.if_icmp .ne 7, 3) := by decide +kernel
theorem dX3_isKnown_40 : decode cX3_isKnown 40 = .ok (.iconst 1, 1) := by decide +kernel
theorem dX3_isKnown_41 : decode cX3_isKnown 41 = .ok (.goto 4, 3) := by decide +kernel
theorem dX3_isKnown_44 : decode cX3_isKnown 44 = .ok (.iconst 0, 1) := by decide +kernel
theorem dX3_isKnown_45 : decode cX3_isKnown 45 = .ok (.ireturn, 1) := by decide +kernel
abbrev rmX3_isKnown : Room := { frames := 1, cells := 0, slots := 0, locals := 21 }
theorem ywX3_isKnown : fY yX3_isKnown "EqualCourt$Maker" cX3_isKnown 2 (some .boolean) 1 := ⟨tw_740, tp_16, tw_9, tw_741, by decide +kernel⟩
set_option maxHeartbeats 4000000 in
set_option maxRecDepth 100000 in
theorem cX3_isKnown_ok {D : va_G} {ad : Nat → Nat} {cy cz : ClassId} {l : Launch} {z : fS} {v1 : Int32} {r : Int32} (h : fX3_isKnown z v1 = some r) : fMi D 76 ad (cfX ad cy cz) cy cz l yX3_isKnown cX3_isKnown 2 (some .boolean) rmX3_isKnown [.ref (ad 58), .int v1] z r z := by
  refine f_bodyz (by decide) (Nat.le_of_ble_eq_true rfl) (fun p e s m args below meth c Q hC hret ls hl hI => ?_)
  have hx := hC.1
  have hb := hC.2.1
  have hl : lv_has ls 2 [(0, .ref (ad 58)), (1, .int v1)] := hl
  unfold fX3_isKnown at h
  refine lv_iload_n hx hb dX3_isKnown_0 rfl (lv_at hl 1 rfl) ?_
  refine lv_iconst (v := -1) hx hb dX3_isKnown_1 (by decide) ?_
  refine lv_icmp_eq (tgt := 40) hx hb dX3_isKnown_2 (by decide) (fun c2 => ?_) (fun c2 => ?_)
  · replace h := if_t h c2
    refine lv_iconst (v := 1) hx hb dX3_isKnown_40 (by decide) ?_
    refine lv_goto (tgt := 45) hx hb dX3_isKnown_41 (by decide) ?_
    exact hret (ret_p _ h) (by decide) dX3_isKnown_45 hI
  · replace h := if_f h c2
    refine lv_aload_n hx hb dX3_isKnown_5 rfl (lv_at hl 0 rfl) ?_
    refine gX3_terms hC hI tw_229 dX3_isKnown_6 ?_
    refine lv_iload_n hx hb dX3_isKnown_9 rfl (lv_at hl 1 rfl) ?_
    replace h := bp_at h
    obtain ⟨r10, e10, h⟩ := h
    refine r_calli (rest := []) hC hI oX_1 (C := "EqualCourt$Terms") rfl ywX7_holesOf tw_742 (cX7_holesOf_ok  e10) ⟨Nat.le_of_ble_eq_true rfl, Nat.le_of_ble_eq_true rfl⟩ ⟨rfl, rfl⟩ rfl hl.1 rfl (Nat.le_of_ble_eq_true rfl) dX3_isKnown_10 (fun H locs hI => ?_)
    refine lv_if_eq (tgt := 40) hx hb dX3_isKnown_13 (by decide) (fun c13 => ?_) (fun c13 => ?_)
    · replace h := if_t h c13
      refine lv_iconst (v := 1) hx hb dX3_isKnown_40 (by decide) ?_
      refine lv_goto (tgt := 45) hx hb dX3_isKnown_41 (by decide) ?_
      exact hret (ret_p _ h) (by decide) dX3_isKnown_45 hI
    · replace h := if_f h c13
      refine lv_aload_n hx hb dX3_isKnown_16 rfl (lv_at hl 0 rfl) ?_
      refine gX3_terms hC hI tw_229 dX3_isKnown_17 ?_
      refine lv_iload_n hx hb dX3_isKnown_20 rfl (lv_at hl 1 rfl) ?_
      replace h := bp_at h
      obtain ⟨r21, e21, h⟩ := h
      refine r_calli (rest := []) hC hI oX_1 (C := "EqualCourt$Terms") rfl ywX7_isHole tw_746 (cX7_isHole_ok  e21) ⟨Nat.le_of_ble_eq_true rfl, Nat.le_of_ble_eq_true rfl⟩ ⟨rfl, rfl⟩ rfl hl.1 rfl (Nat.le_of_ble_eq_true rfl) dX3_isKnown_21 (fun H locs hI => ?_)
      refine lv_if_ne (tgt := 40) hx hb dX3_isKnown_24 (by decide) (fun c24 => ?_) (fun c24 => ?_)
      · replace h := if_f h c24
        refine lv_iconst (v := 1) hx hb dX3_isKnown_40 (by decide) ?_
        refine lv_goto (tgt := 45) hx hb dX3_isKnown_41 (by decide) ?_
        exact hret (ret_p _ h) (by decide) dX3_isKnown_45 hI
      · replace h := if_t h c24
        refine lv_aload_n hx hb dX3_isKnown_27 rfl (lv_at hl 0 rfl) ?_
        refine gX3_turnOfImage hC hI tw_231 dX3_isKnown_28 ?_
        refine lv_iload_n hx hb dX3_isKnown_31 rfl (lv_at hl 1 rfl) ?_
        have g32 := (gd_at h).1
        replace h := (gd_at h).2
        refine r_iald hC hI aX_60 g32 dX3_isKnown_32 ?_
        refine lv_aload_n hx hb dX3_isKnown_33 rfl (lv_at hl 0 rfl) ?_
        refine gX3_turn hC hI tw_234 dX3_isKnown_34 ?_
        refine lv_icmp_ne (tgt := 44) hx hb dX3_isKnown_37 (by decide) (fun c37 => ?_) (fun c37 => ?_)
        · replace h := if_f h c37
          refine lv_iconst (v := 0) hx hb dX3_isKnown_44 (by decide) ?_
          exact hret (ret_p _ h) (by decide) dX3_isKnown_45 hI
        · replace h := if_t h c37
          refine lv_iconst (v := 1) hx hb dX3_isKnown_40 (by decide) ?_
          refine lv_goto (tgt := 45) hx hb dX3_isKnown_41 (by decide) ?_
          exact hret (ret_p _ h) (by decide) dX3_isKnown_45 hI
theorem dX3_openPart_0 : decode cX3_openPart 0 = .ok (.iconst 0, 1) := by decide +kernel
theorem dX3_openPart_1 : decode cX3_openPart 1 = .ok (.istore_n 2, 1) := by decide +kernel
theorem dX3_openPart_2 : decode cX3_openPart 2 = .ok (.iload_n 2, 1) := by decide +kernel
theorem dX3_openPart_3 : decode cX3_openPart 3 = .ok (.aload_n 0, 1) := by decide +kernel
theorem dX3_openPart_4 : decode cX3_openPart 4 = .ok (.getfield 24, 3) := by decide +kernel
theorem dX3_openPart_7 : decode cX3_openPart 7 = .ok (.iload_n 1, 1) := by decide +kernel
theorem dX3_openPart_8 : decode cX3_openPart 8 = .ok (.invokevirtual 66, 3) := by decide +kernel
theorem dX3_openPart_11 : decode cX3_openPart 11 = .ok (.if_icmp .ge 35, 3) := by decide +kernel
theorem dX3_openPart_14 : decode cX3_openPart 14 = .ok (.aload_n 0, 1) := by decide +kernel
theorem dX3_openPart_15 : decode cX3_openPart 15 = .ok (.aload_n 0, 1) := by decide +kernel
theorem dX3_openPart_16 : decode cX3_openPart 16 = .ok (.getfield 24, 3) := by decide +kernel
theorem dX3_openPart_19 : decode cX3_openPart 19 = .ok (.iload_n 1, 1) := by decide +kernel
theorem dX3_openPart_20 : decode cX3_openPart 20 = .ok (.iload_n 2, 1) := by decide +kernel
theorem dX3_openPart_21 : decode cX3_openPart 21 = .ok (.invokevirtual 69, 3) := by decide +kernel
theorem dX3_openPart_24 : decode cX3_openPart 24 = .ok (.invokevirtual 39, 3) := by decide +kernel
theorem dX3_openPart_27 : decode cX3_openPart 27 = .ok (.ifCond .ne 13, 3) := by decide +kernel
theorem dX3_openPart_30 : decode cX3_openPart 30 = .ok (.aload_n 0, 1) := by decide +kernel
theorem dX3_openPart_31 : decode cX3_openPart 31 = .ok (.getfield 24, 3) := by decide +kernel
theorem dX3_openPart_34 : decode cX3_openPart 34 = .ok (.iload_n 1, 1) := by decide +kernel
theorem dX3_openPart_35 : decode cX3_openPart 35 = .ok (.iload_n 2, 1) := by decide +kernel
theorem dX3_openPart_36 : decode cX3_openPart 36 = .ok (.invokevirtual 69, 3) := by decide +kernel
theorem dX3_openPart_39 : decode cX3_openPart 39 = .ok (.ireturn, 1) := by decide +kernel
theorem dX3_openPart_40 : decode cX3_openPart 40 = .ok (.iinc 2 1, 3) := by decide +kernel
theorem dX3_openPart_43 : decode cX3_openPart 43 = .ok (.goto (-41), 3) := by decide +kernel
theorem dX3_openPart_46 : decode cX3_openPart 46 = .ok (.iconst (-1), 1) := by decide +kernel
theorem dX3_openPart_47 : decode cX3_openPart 47 = .ok (.ireturn, 1) := by decide +kernel
abbrev rmX3_openPart : Room := { frames := 2, cells := 0, slots := 0, locals := 42 }
theorem ywX3_openPart : fY yX3_openPart "EqualCourt$Maker" cX3_openPart 3 (some .int) 1 := ⟨tw_749, tp_17, tw_9, tw_750, by decide +kernel⟩
set_option maxHeartbeats 4000000 in
set_option maxRecDepth 100000 in
theorem cX3_openPart_ok {D : va_G} {ad : Nat → Nat} {cy cz : ClassId} {l : Launch} {z : fS} {v1 : Int32} {r : Int32} (h : fX3_openPart z v1 = some r) : fMi D 76 ad (cfX ad cy cz) cy cz l yX3_openPart cX3_openPart 3 (some .int) rmX3_openPart [.ref (ad 58), .int v1] z r z := by
  refine f_bodyi (by decide) (Nat.le_of_ble_eq_true rfl) (fun p e s m args below meth c Q hC hret ls hl hI => ?_)
  have hx := hC.1
  have hb := hC.2.1
  have hl : lv_has ls 3 [(0, .ref (ad 58)), (1, .int v1)] := hl
  unfold fX3_openPart at h
  refine lv_iconst (v := 0) hx hb dX3_openPart_0 (by decide) ?_
  refine lv_istore_n (lv' := [(2, .int (0 : Int32)), (0, .ref (ad 58)), (1, .int v1)]) hx hb dX3_openPart_1 rfl hl (by decide) rfl (fun ls hl => ?_)
  have w2 : ∀ (N2 : Nat) (v1 : Int32) (v2 : Int32) (H : Heap) (locs : List Loc) (ls : Array Slot), fI D 76 ad (cfX ad cy cz) z s H locs → lv_has ls 3 [(0, .ref (ad 58)), (1, .int v1), (2, .int v2)] → lX3_openPart_2   z v1 N2 v2 = some r → W p l e rmX3_openPart s m args below meth c H locs 0 0 Q (F0 m 2 ls []) := by
    intro N2
    induction N2 with
    | zero =>
      intro v1 v2 H locs ls hI hl h
      exact none_no h
    | succ N2 ih2 =>
      intro v1 v2 H locs ls hI hl h
      rw [lX3_openPart_2.eq_2] at h
      refine lv_iload_n hx hb dX3_openPart_2 rfl (lv_at hl 2 rfl) ?_
      refine lv_aload_n hx hb dX3_openPart_3 rfl (lv_at hl 0 rfl) ?_
      refine gX3_terms hC hI tw_229 dX3_openPart_4 ?_
      refine lv_iload_n hx hb dX3_openPart_7 rfl (lv_at hl 1 rfl) ?_
      replace h := bp_at h
      obtain ⟨r8, e8, h⟩ := h
      refine r_calli (rest := [.int v2]) hC hI oX_1 (C := "EqualCourt$Terms") rfl ywX7_sizeOf tw_751 (cX7_sizeOf_ok  e8) ⟨Nat.le_of_ble_eq_true rfl, Nat.le_of_ble_eq_true rfl⟩ ⟨rfl, rfl⟩ rfl hl.1 rfl (Nat.le_of_ble_eq_true rfl) dX3_openPart_8 (fun H locs hI => ?_)
      refine lv_icmp_ge (tgt := 46) hx hb dX3_openPart_11 (by decide) (fun c11 => ?_) (fun c11 => ?_)
      · replace h := if_t h c11
        refine lv_iconst (v := -1) hx hb dX3_openPart_46 (by decide) ?_
        exact hret (ret_p _ h) dX3_openPart_47 hI
      · replace h := if_f h c11
        refine lv_aload_n hx hb dX3_openPart_14 rfl (lv_at hl 0 rfl) ?_
        refine lv_aload_n hx hb dX3_openPart_15 rfl (lv_at hl 0 rfl) ?_
        refine gX3_terms hC hI tw_229 dX3_openPart_16 ?_
        refine lv_iload_n hx hb dX3_openPart_19 rfl (lv_at hl 1 rfl) ?_
        refine lv_iload_n hx hb dX3_openPart_20 rfl (lv_at hl 2 rfl) ?_
        replace h := bp_at h
        obtain ⟨r21, e21, h⟩ := h
        refine r_calli (rest := [.ref (ad 58)]) hC hI oX_1 (C := "EqualCourt$Terms") rfl ywX7_partOf tw_752 (cX7_partOf_ok  e21) ⟨Nat.le_of_ble_eq_true rfl, Nat.le_of_ble_eq_true rfl⟩ ⟨rfl, rfl⟩ rfl hl.1 rfl (Nat.le_of_ble_eq_true rfl) dX3_openPart_21 (fun H locs hI => ?_)
        replace h := bp_at h
        obtain ⟨r24, e24, h⟩ := h
        refine r_calli (rest := []) hC hI oX_58 (C := "EqualCourt$Maker") rfl ywX3_isKnown tw_738 (cX3_isKnown_ok  e24) ⟨Nat.le_of_ble_eq_true rfl, Nat.le_of_ble_eq_true rfl⟩ ⟨rfl, rfl⟩ rfl hl.1 rfl (Nat.le_of_ble_eq_true rfl) dX3_openPart_24 (fun H locs hI => ?_)
        refine lv_if_ne (tgt := 40) hx hb dX3_openPart_27 (by decide) (fun c27 => ?_) (fun c27 => ?_)
        · replace h := if_f h c27
          obtain ⟨x40, e40⟩ : ∃ y : Int32, y = (v2 + (1 : Int32)) := ⟨_, rfl⟩
          replace h := bnd_at h e40
          refine lv_iinc (v := x40) (lv' := [(2, .int x40), (0, .ref (ad 58)), (1, .int v1)]) hx hb dX3_openPart_40 hl (k := 2) rfl (by rw [e40]; rfl) (by decide) rfl (fun ls hl => ?_)
          refine lv_goto (tgt := 2) hx hb dX3_openPart_43 (by decide) ?_
          exact ih2 v1 x40 _ _ _ hI (lv_sub hl [1, 2, 0] rfl) h
        · replace h := if_t h c27
          refine lv_aload_n hx hb dX3_openPart_30 rfl (lv_at hl 0 rfl) ?_
          refine gX3_terms hC hI tw_229 dX3_openPart_31 ?_
          refine lv_iload_n hx hb dX3_openPart_34 rfl (lv_at hl 1 rfl) ?_
          refine lv_iload_n hx hb dX3_openPart_35 rfl (lv_at hl 2 rfl) ?_
          replace h := bp_at h
          obtain ⟨r36, e36, h⟩ := h
          refine r_calli (rest := []) hC hI oX_1 (C := "EqualCourt$Terms") rfl ywX7_partOf tw_752 (cX7_partOf_ok  e36) ⟨Nat.le_of_ble_eq_true rfl, Nat.le_of_ble_eq_true rfl⟩ ⟨rfl, rfl⟩ rfl hl.1 rfl (Nat.le_of_ble_eq_true rfl) dX3_openPart_36 (fun H locs hI => ?_)
          exact hret (ret_p _ h) dX3_openPart_39 hI
  exact w2 FU v1 (0 : Int32) _ _ _ hI (lv_sub hl [1, 2, 0] rfl) h
theorem dX3_imageOf_0 : decode cX3_imageOf 0 = .ok (.iload_n 1, 1) := by decide +kernel
theorem dX3_imageOf_1 : decode cX3_imageOf 1 = .ok (.iconst (-1), 1) := by decide +kernel
theorem dX3_imageOf_2 : decode cX3_imageOf 2 = .ok (.if_icmp .eq 14, 3) := by decide +kernel
theorem dX3_imageOf_5 : decode cX3_imageOf 5 = .ok (.aload_n 0, 1) := by decide +kernel
theorem dX3_imageOf_6 : decode cX3_imageOf 6 = .ok (.getfield 24, 3) := by decide +kernel
theorem dX3_imageOf_9 : decode cX3_imageOf 9 = .ok (.iload_n 1, 1) := by decide +kernel
theorem dX3_imageOf_10 : decode cX3_imageOf 10 = .ok (.invokevirtual 57, 3) := by decide +kernel
theorem dX3_imageOf_13 : decode cX3_imageOf 13 = .ok (.ifCond .ne 5, 3) := by decide +kernel
theorem dX3_imageOf_16 : decode cX3_imageOf 16 = .ok (.iload_n 1, 1) := by decide +kernel
theorem dX3_imageOf_17 : decode cX3_imageOf 17 = .ok (.ireturn, 1) := by decide +kernel
theorem dX3_imageOf_18 : decode cX3_imageOf 18 = .ok (.aload_n 0, 1) := by decide +kernel
theorem dX3_imageOf_19 : decode cX3_imageOf 19 = .ok (.getfield 24, 3) := by decide +kernel
theorem dX3_imageOf_22 : decode cX3_imageOf 22 = .ok (.iload_n 1, 1) := by decide +kernel
theorem dX3_imageOf_23 : decode cX3_imageOf 23 = .ok (.invokevirtual 60, 3) := by decide +kernel
theorem dX3_imageOf_26 : decode cX3_imageOf 26 = .ok (.ifCond .eq 20, 3) := by decide +kernel
theorem dX3_imageOf_29 : decode cX3_imageOf 29 = .ok (.aload_n 0, 1) := by decide +kernel
theorem dX3_imageOf_30 : decode cX3_imageOf 30 = .ok (.getfield 21, 3) := by decide +kernel
theorem dX3_imageOf_33 : decode cX3_imageOf 33 = .ok (.aload_n 0, 1) := by decide +kernel
theorem dX3_imageOf_34 : decode cX3_imageOf 34 = .ok (.getfield 24, 3) := by decide +kernel
theorem dX3_imageOf_37 : decode cX3_imageOf 37 = .ok (.iload_n 1, 1) := by decide +kernel
theorem dX3_imageOf_38 : decode cX3_imageOf 38 = .ok (.invokevirtual 63, 3) := by decide +kernel
theorem dX3_imageOf_41 : decode cX3_imageOf 41 = .ok (.bipush 90, 2) := by decide +kernel
theorem dX3_imageOf_43 : decode cX3_imageOf 43 = .ok (.isub, 1) := by decide +kernel
theorem dX3_imageOf_44 : decode cX3_imageOf 44 = .ok (.iaload, 1) := by decide +kernel
theorem dX3_imageOf_45 : decode cX3_imageOf 45 = .ok (.ireturn, 1) := by decide +kernel
theorem dX3_imageOf_46 : decode cX3_imageOf 46 = .ok (.aload_n 0, 1) := by decide +kernel
theorem dX3_imageOf_47 : decode cX3_imageOf 47 = .ok (.getfield 9, 3) := by decide +kernel
theorem dX3_imageOf_50 : decode cX3_imageOf 50 = .ok (.iload_n 1, 1) := by decide +kernel
theorem dX3_imageOf_51 : decode cX3_imageOf 51 = .ok (.iaload, 1) := by decide +kernel
theorem dX3_imageOf_52 : decode cX3_imageOf 52 = .ok (.ireturn, 1) := by decide +kernel
abbrev rmX3_imageOf : Room := { frames := 1, cells := 0, slots := 0, locals := 21 }
theorem ywX3_imageOf : fY yX3_imageOf "EqualCourt$Maker" cX3_imageOf 2 (some .int) 1 := ⟨tw_759, tp_19, tw_9, tw_760, by decide +kernel⟩
set_option maxHeartbeats 4000000 in
set_option maxRecDepth 100000 in
theorem cX3_imageOf_ok {D : va_G} {ad : Nat → Nat} {cy cz : ClassId} {l : Launch} {z : fS} {v1 : Int32} {r : Int32} (h : fX3_imageOf z v1 = some r) : fMi D 76 ad (cfX ad cy cz) cy cz l yX3_imageOf cX3_imageOf 2 (some .int) rmX3_imageOf [.ref (ad 58), .int v1] z r z := by
  refine f_bodyi (by decide) (Nat.le_of_ble_eq_true rfl) (fun p e s m args below meth c Q hC hret ls hl hI => ?_)
  have hx := hC.1
  have hb := hC.2.1
  have hl : lv_has ls 2 [(0, .ref (ad 58)), (1, .int v1)] := hl
  unfold fX3_imageOf at h
  refine lv_iload_n hx hb dX3_imageOf_0 rfl (lv_at hl 1 rfl) ?_
  refine lv_iconst (v := -1) hx hb dX3_imageOf_1 (by decide) ?_
  refine lv_icmp_eq (tgt := 16) hx hb dX3_imageOf_2 (by decide) (fun c2 => ?_) (fun c2 => ?_)
  · replace h := if_t h c2
    refine lv_iload_n hx hb dX3_imageOf_16 rfl (lv_at hl 1 rfl) ?_
    exact hret (ret_p _ h) dX3_imageOf_17 hI
  · replace h := if_f h c2
    refine lv_aload_n hx hb dX3_imageOf_5 rfl (lv_at hl 0 rfl) ?_
    refine gX3_terms hC hI tw_229 dX3_imageOf_6 ?_
    refine lv_iload_n hx hb dX3_imageOf_9 rfl (lv_at hl 1 rfl) ?_
    replace h := bp_at h
    obtain ⟨r10, e10, h⟩ := h
    refine r_calli (rest := []) hC hI oX_1 (C := "EqualCourt$Terms") rfl ywX7_holesOf tw_742 (cX7_holesOf_ok  e10) ⟨Nat.le_of_ble_eq_true rfl, Nat.le_of_ble_eq_true rfl⟩ ⟨rfl, rfl⟩ rfl hl.1 rfl (Nat.le_of_ble_eq_true rfl) dX3_imageOf_10 (fun H locs hI => ?_)
    refine lv_if_ne (tgt := 18) hx hb dX3_imageOf_13 (by decide) (fun c13 => ?_) (fun c13 => ?_)
    · replace h := if_f h c13
      refine lv_aload_n hx hb dX3_imageOf_18 rfl (lv_at hl 0 rfl) ?_
      refine gX3_terms hC hI tw_229 dX3_imageOf_19 ?_
      refine lv_iload_n hx hb dX3_imageOf_22 rfl (lv_at hl 1 rfl) ?_
      replace h := bp_at h
      obtain ⟨r23, e23, h⟩ := h
      refine r_calli (rest := []) hC hI oX_1 (C := "EqualCourt$Terms") rfl ywX7_isHole tw_746 (cX7_isHole_ok  e23) ⟨Nat.le_of_ble_eq_true rfl, Nat.le_of_ble_eq_true rfl⟩ ⟨rfl, rfl⟩ rfl hl.1 rfl (Nat.le_of_ble_eq_true rfl) dX3_imageOf_23 (fun H locs hI => ?_)
      refine lv_if_eq (tgt := 46) hx hb dX3_imageOf_26 (by decide) (fun c26 => ?_) (fun c26 => ?_)
      · replace h := if_t h c26
        refine lv_aload_n hx hb dX3_imageOf_46 rfl (lv_at hl 0 rfl) ?_
        refine gX3_images hC hI tw_230 dX3_imageOf_47 ?_
        refine lv_iload_n hx hb dX3_imageOf_50 rfl (lv_at hl 1 rfl) ?_
        have g51 := (gd_at h).1
        replace h := (gd_at h).2
        refine r_iald hC hI aX_59 g51 dX3_imageOf_51 ?_
        exact hret (ret_p _ h) dX3_imageOf_52 hI
      · replace h := if_f h c26
        refine lv_aload_n hx hb dX3_imageOf_29 rfl (lv_at hl 0 rfl) ?_
        refine gX3_fillings hC hI tw_233 dX3_imageOf_30 ?_
        refine lv_aload_n hx hb dX3_imageOf_33 rfl (lv_at hl 0 rfl) ?_
        refine gX3_terms hC hI tw_229 dX3_imageOf_34 ?_
        refine lv_iload_n hx hb dX3_imageOf_37 rfl (lv_at hl 1 rfl) ?_
        replace h := bp_at h
        obtain ⟨r38, e38, h⟩ := h
        refine r_calli (rest := [.ref (ad 62)]) hC hI oX_1 (C := "EqualCourt$Terms") rfl ywX7_shownBy tw_761 (cX7_shownBy_ok  e38) ⟨Nat.le_of_ble_eq_true rfl, Nat.le_of_ble_eq_true rfl⟩ ⟨rfl, rfl⟩ rfl hl.1 rfl (Nat.le_of_ble_eq_true rfl) dX3_imageOf_38 (fun H locs hI => ?_)
        refine lv_bipush (v := 90) hx hb dX3_imageOf_41 (by decide) ?_
        refine lv_isub hx hb dX3_imageOf_43 ?_
        have g44 := (gd_at h).1
        replace h := (gd_at h).2
        refine r_iald hC hI aX_62 g44 dX3_imageOf_44 ?_
        exact hret (ret_p _ h) dX3_imageOf_45 hI
    · replace h := if_t h c13
      refine lv_iload_n hx hb dX3_imageOf_16 rfl (lv_at hl 1 rfl) ?_
      exact hret (ret_p _ h) dX3_imageOf_17 hI
theorem dX3_makeImage_0 : decode cX3_makeImage 0 = .ok (.aload_n 0, 1) := by decide +kernel
theorem dX3_makeImage_1 : decode cX3_makeImage 1 = .ok (.aload_n 0, 1) := by decide +kernel
theorem dX3_makeImage_2 : decode cX3_makeImage 2 = .ok (.getfield 24, 3) := by decide +kernel
theorem dX3_makeImage_5 : decode cX3_makeImage 5 = .ok (.iload_n 1, 1) := by decide +kernel
theorem dX3_makeImage_6 : decode cX3_makeImage 6 = .ok (.iconst 0, 1) := by decide +kernel
theorem dX3_makeImage_7 : decode cX3_makeImage 7 = .ok (.invokevirtual 69, 3) := by decide +kernel
theorem dX3_makeImage_10 : decode cX3_makeImage 10 = .ok (.invokevirtual 54, 3) := by decide +kernel
theorem dX3_makeImage_13 : decode cX3_makeImage 13 = .ok (.istore_n 2, 1) := by decide +kernel
theorem dX3_makeImage_14 : decode cX3_makeImage 14 = .ok (.aload_n 0, 1) := by decide +kernel
theorem dX3_makeImage_15 : decode cX3_makeImage 15 = .ok (.aload_n 0, 1) := by decide +kernel
theorem dX3_makeImage_16 : decode cX3_makeImage 16 = .ok (.getfield 24, 3) := by decide +kernel
theorem dX3_makeImage_19 : decode cX3_makeImage 19 = .ok (.iload_n 1, 1) := by decide +kernel
theorem dX3_makeImage_20 : decode cX3_makeImage 20 = .ok (.iconst 1, 1) := by decide +kernel
theorem dX3_makeImage_21 : decode cX3_makeImage 21 = .ok (.invokevirtual 69, 3) := by decide +kernel
theorem dX3_makeImage_24 : decode cX3_makeImage 24 = .ok (.invokevirtual 54, 3) := by decide +kernel
theorem dX3_makeImage_27 : decode cX3_makeImage 27 = .ok (.istore_n 3, 1) := by decide +kernel
theorem dX3_makeImage_28 : decode cX3_makeImage 28 = .ok (.aload_n 0, 1) := by decide +kernel
theorem dX3_makeImage_29 : decode cX3_makeImage 29 = .ok (.aload_n 0, 1) := by decide +kernel
theorem dX3_makeImage_30 : decode cX3_makeImage 30 = .ok (.getfield 24, 3) := by decide +kernel
theorem dX3_makeImage_33 : decode cX3_makeImage 33 = .ok (.iload_n 1, 1) := by decide +kernel
theorem dX3_makeImage_34 : decode cX3_makeImage 34 = .ok (.iconst 2, 1) := by decide +kernel
theorem dX3_makeImage_35 : decode cX3_makeImage 35 = .ok (.invokevirtual 69, 3) := by decide +kernel
theorem dX3_makeImage_38 : decode cX3_makeImage 38 = .ok (.invokevirtual 54, 3) := by decide +kernel
theorem dX3_makeImage_41 : decode cX3_makeImage 41 = .ok (.istore 4, 2) := by decide +kernel
theorem dX3_makeImage_43 : decode cX3_makeImage 43 = .ok (.aload_n 0, 1) := by decide +kernel
theorem dX3_makeImage_44 : decode cX3_makeImage 44 = .ok (.getfield 24, 3) := by decide +kernel
theorem dX3_makeImage_47 : decode cX3_makeImage 47 = .ok (.aload_n 0, 1) := by decide +kernel
theorem dX3_makeImage_48 : decode cX3_makeImage 48 = .ok (.getfield 24, 3) := by decide +kernel
theorem dX3_makeImage_51 : decode cX3_makeImage 51 = .ok (.iload_n 1, 1) := by decide +kernel
theorem dX3_makeImage_52 : decode cX3_makeImage 52 = .ok (.invokevirtual 73, 3) := by decide +kernel
theorem dX3_makeImage_55 : decode cX3_makeImage 55 = .ok (.aload_n 0, 1) := by decide +kernel
theorem dX3_makeImage_56 : decode cX3_makeImage 56 = .ok (.getfield 24, 3) := by decide +kernel
theorem dX3_makeImage_59 : decode cX3_makeImage 59 = .ok (.iload_n 1, 1) := by decide +kernel
theorem dX3_makeImage_60 : decode cX3_makeImage 60 = .ok (.invokevirtual 63, 3) := by decide +kernel
theorem dX3_makeImage_63 : decode cX3_makeImage 63 = .ok (.iload_n 2, 1) := by decide +kernel
theorem dX3_makeImage_64 : decode cX3_makeImage 64 = .ok (.iload_n 3, 1) := by decide +kernel
theorem dX3_makeImage_65 : decode cX3_makeImage 65 = .ok (.iload 4, 2) := by decide +kernel
theorem dX3_makeImage_67 : decode cX3_makeImage 67 = .ok (.invokevirtual 76, 3) := by decide +kernel
theorem dX3_makeImage_70 : decode cX3_makeImage 70 = .ok (.istore 5, 2) := by decide +kernel
theorem dX3_makeImage_72 : decode cX3_makeImage 72 = .ok (.aload_n 0, 1) := by decide +kernel
theorem dX3_makeImage_73 : decode cX3_makeImage 73 = .ok (.getfield 9, 3) := by decide +kernel
theorem dX3_makeImage_76 : decode cX3_makeImage 76 = .ok (.iload_n 1, 1) := by decide +kernel
theorem dX3_makeImage_77 : decode cX3_makeImage 77 = .ok (.iload 5, 2) := by decide +kernel
theorem dX3_makeImage_79 : decode cX3_makeImage 79 = .ok (.iastore, 1) := by decide +kernel
theorem dX3_makeImage_80 : decode cX3_makeImage 80 = .ok (.aload_n 0, 1) := by decide +kernel
theorem dX3_makeImage_81 : decode cX3_makeImage 81 = .ok (.getfield 15, 3) := by decide +kernel
theorem dX3_makeImage_84 : decode cX3_makeImage 84 = .ok (.iload_n 1, 1) := by decide +kernel
theorem dX3_makeImage_85 : decode cX3_makeImage 85 = .ok (.aload_n 0, 1) := by decide +kernel
theorem dX3_makeImage_86 : decode cX3_makeImage 86 = .ok (.getfield 34, 3) := by decide +kernel
theorem dX3_makeImage_89 : decode cX3_makeImage 89 = .ok (.iastore, 1) := by decide +kernel
theorem dX3_makeImage_90 : decode cX3_makeImage 90 = .ok (.iload 5, 2) := by decide +kernel
theorem dX3_makeImage_92 : decode cX3_makeImage 92 = .ok (.iconst (-1), 1) := by decide +kernel
theorem dX3_makeImage_93 : decode cX3_makeImage 93 = .ok (.if_icmp .eq 7, 3) := by decide +kernel
theorem dX3_makeImage_96 : decode cX3_makeImage 96 = .ok (.iconst 1, 1) := by decide +kernel
theorem dX3_makeImage_97 : decode cX3_makeImage 97 = .ok (.goto 4, 3) := by decide +kernel
theorem dX3_makeImage_100 : decode cX3_makeImage 100 = .ok (.iconst 0, 1) := by decide +kernel
theorem dX3_makeImage_101 : decode cX3_makeImage 101 = .ok (.ireturn, 1) := by decide +kernel
abbrev rmX3_makeImage : Room := { frames := 3, cells := 0, slots := 0, locals := 82 }
theorem ywX3_makeImage : fY yX3_makeImage "EqualCourt$Maker" cX3_makeImage 6 (some .boolean) 1 := ⟨tw_755, tp_18, tw_9, tw_756, by decide +kernel⟩
set_option maxHeartbeats 4000000 in
set_option maxRecDepth 100000 in
theorem cX3_makeImage_ok {D : va_G} {ad : Nat → Nat} {cy cz : ClassId} {l : Launch} {z : fS} {v1 : Int32} {r : Int32} {τ : fS} (h : fX3_makeImage z v1 = some (r, τ)) : fMi D 76 ad (cfX ad cy cz) cy cz l yX3_makeImage cX3_makeImage 6 (some .boolean) rmX3_makeImage [.ref (ad 58), .int v1] z r τ := by
  refine f_bodyz (by decide) (Nat.le_of_ble_eq_true rfl) (fun p e s m args below meth c Q hC hret ls hl hI => ?_)
  have hx := hC.1
  have hb := hC.2.1
  have hl : lv_has ls 6 [(0, .ref (ad 58)), (1, .int v1)] := hl
  unfold fX3_makeImage at h
  refine lv_aload_n hx hb dX3_makeImage_0 rfl (lv_at hl 0 rfl) ?_
  refine lv_aload_n hx hb dX3_makeImage_1 rfl (lv_at hl 0 rfl) ?_
  refine gX3_terms hC hI tw_229 dX3_makeImage_2 ?_
  refine lv_iload_n hx hb dX3_makeImage_5 rfl (lv_at hl 1 rfl) ?_
  refine lv_iconst (v := 0) hx hb dX3_makeImage_6 (by decide) ?_
  replace h := bp_at h
  obtain ⟨r7, e7, h⟩ := h
  refine r_calli (rest := [.ref (ad 58)]) hC hI oX_1 (C := "EqualCourt$Terms") rfl ywX7_partOf tw_752 (cX7_partOf_ok  e7) ⟨Nat.le_of_ble_eq_true rfl, Nat.le_of_ble_eq_true rfl⟩ ⟨rfl, rfl⟩ rfl hl.1 rfl (Nat.le_of_ble_eq_true rfl) dX3_makeImage_7 (fun H locs hI => ?_)
  replace h := bp_at h
  obtain ⟨r10, e10, h⟩ := h
  refine r_calli (rest := []) hC hI oX_58 (C := "EqualCourt$Maker") rfl ywX3_imageOf tw_757 (cX3_imageOf_ok  e10) ⟨Nat.le_of_ble_eq_true rfl, Nat.le_of_ble_eq_true rfl⟩ ⟨rfl, rfl⟩ rfl hl.1 rfl (Nat.le_of_ble_eq_true rfl) dX3_makeImage_10 (fun H locs hI => ?_)
  refine lv_istore_n (lv' := [(2, .int r10), (0, .ref (ad 58)), (1, .int v1)]) hx hb dX3_makeImage_13 rfl hl (by decide) rfl (fun ls hl => ?_)
  refine lv_aload_n hx hb dX3_makeImage_14 rfl (lv_at hl 1 rfl) ?_
  refine lv_aload_n hx hb dX3_makeImage_15 rfl (lv_at hl 1 rfl) ?_
  refine gX3_terms hC hI tw_229 dX3_makeImage_16 ?_
  refine lv_iload_n hx hb dX3_makeImage_19 rfl (lv_at hl 2 rfl) ?_
  refine lv_iconst (v := 1) hx hb dX3_makeImage_20 (by decide) ?_
  replace h := bp_at h
  obtain ⟨r21, e21, h⟩ := h
  refine r_calli (rest := [.ref (ad 58)]) hC hI oX_1 (C := "EqualCourt$Terms") rfl ywX7_partOf tw_752 (cX7_partOf_ok  e21) ⟨Nat.le_of_ble_eq_true rfl, Nat.le_of_ble_eq_true rfl⟩ ⟨rfl, rfl⟩ rfl hl.1 rfl (Nat.le_of_ble_eq_true rfl) dX3_makeImage_21 (fun H locs hI => ?_)
  replace h := bp_at h
  obtain ⟨r24, e24, h⟩ := h
  refine r_calli (rest := []) hC hI oX_58 (C := "EqualCourt$Maker") rfl ywX3_imageOf tw_757 (cX3_imageOf_ok  e24) ⟨Nat.le_of_ble_eq_true rfl, Nat.le_of_ble_eq_true rfl⟩ ⟨rfl, rfl⟩ rfl hl.1 rfl (Nat.le_of_ble_eq_true rfl) dX3_makeImage_24 (fun H locs hI => ?_)
  refine lv_istore_n (lv' := [(3, .int r24), (2, .int r10), (0, .ref (ad 58)), (1, .int v1)]) hx hb dX3_makeImage_27 rfl hl (by decide) rfl (fun ls hl => ?_)
  refine lv_aload_n hx hb dX3_makeImage_28 rfl (lv_at hl 2 rfl) ?_
  refine lv_aload_n hx hb dX3_makeImage_29 rfl (lv_at hl 2 rfl) ?_
  refine gX3_terms hC hI tw_229 dX3_makeImage_30 ?_
  refine lv_iload_n hx hb dX3_makeImage_33 rfl (lv_at hl 3 rfl) ?_
  refine lv_iconst (v := 2) hx hb dX3_makeImage_34 (by decide) ?_
  replace h := bp_at h
  obtain ⟨r35, e35, h⟩ := h
  refine r_calli (rest := [.ref (ad 58)]) hC hI oX_1 (C := "EqualCourt$Terms") rfl ywX7_partOf tw_752 (cX7_partOf_ok  e35) ⟨Nat.le_of_ble_eq_true rfl, Nat.le_of_ble_eq_true rfl⟩ ⟨rfl, rfl⟩ rfl hl.1 rfl (Nat.le_of_ble_eq_true rfl) dX3_makeImage_35 (fun H locs hI => ?_)
  replace h := bp_at h
  obtain ⟨r38, e38, h⟩ := h
  refine r_calli (rest := []) hC hI oX_58 (C := "EqualCourt$Maker") rfl ywX3_imageOf tw_757 (cX3_imageOf_ok  e38) ⟨Nat.le_of_ble_eq_true rfl, Nat.le_of_ble_eq_true rfl⟩ ⟨rfl, rfl⟩ rfl hl.1 rfl (Nat.le_of_ble_eq_true rfl) dX3_makeImage_38 (fun H locs hI => ?_)
  refine lv_istore (lv' := [(4, .int r38), (3, .int r24), (2, .int r10), (0, .ref (ad 58)), (1, .int v1)]) hx hb dX3_makeImage_41 hl (by decide) rfl (fun ls hl => ?_)
  refine lv_aload_n hx hb dX3_makeImage_43 rfl (lv_at hl 3 rfl) ?_
  refine gX3_terms hC hI tw_229 dX3_makeImage_44 ?_
  refine lv_aload_n hx hb dX3_makeImage_47 rfl (lv_at hl 3 rfl) ?_
  refine gX3_terms hC hI tw_229 dX3_makeImage_48 ?_
  refine lv_iload_n hx hb dX3_makeImage_51 rfl (lv_at hl 4 rfl) ?_
  replace h := bp_at h
  obtain ⟨r52, e52, h⟩ := h
  refine r_calli (rest := [.ref (ad 1)]) hC hI oX_1 (C := "EqualCourt$Terms") rfl ywX7_kindOf tw_762 (cX7_kindOf_ok  e52) ⟨Nat.le_of_ble_eq_true rfl, Nat.le_of_ble_eq_true rfl⟩ ⟨rfl, rfl⟩ rfl hl.1 rfl (Nat.le_of_ble_eq_true rfl) dX3_makeImage_52 (fun H locs hI => ?_)
  refine lv_aload_n hx hb dX3_makeImage_55 rfl (lv_at hl 3 rfl) ?_
  refine gX3_terms hC hI tw_229 dX3_makeImage_56 ?_
  refine lv_iload_n hx hb dX3_makeImage_59 rfl (lv_at hl 4 rfl) ?_
  replace h := bp_at h
  obtain ⟨r60, e60, h⟩ := h
  refine r_calli (rest := [.int r52, .ref (ad 1)]) hC hI oX_1 (C := "EqualCourt$Terms") rfl ywX7_shownBy tw_761 (cX7_shownBy_ok  e60) ⟨Nat.le_of_ble_eq_true rfl, Nat.le_of_ble_eq_true rfl⟩ ⟨rfl, rfl⟩ rfl hl.1 rfl (Nat.le_of_ble_eq_true rfl) dX3_makeImage_60 (fun H locs hI => ?_)
  refine lv_iload_n hx hb dX3_makeImage_63 rfl (lv_at hl 2 rfl) ?_
  refine lv_iload_n hx hb dX3_makeImage_64 rfl (lv_at hl 1 rfl) ?_
  refine lv_iload hx hb dX3_makeImage_65 (lv_at hl 0 rfl) ?_
  replace h := bd_at h
  obtain ⟨r67, z67, e67, h⟩ := h
  refine r_calli (rest := []) hC hI oX_1 (C := "EqualCourt$Terms") rfl ywX7_findOrMake tw_763 (cX7_findOrMake_ok  e67) ⟨Nat.le_of_ble_eq_true rfl, Nat.le_of_ble_eq_true rfl⟩ ⟨rfl, rfl⟩ rfl hl.1 rfl (Nat.le_of_ble_eq_true rfl) dX3_makeImage_67 (fun H locs hI => ?_)
  refine lv_istore (lv' := [(5, .int r67), (4, .int r38), (3, .int r24), (2, .int r10), (0, .ref (ad 58)), (1, .int v1)]) hx hb dX3_makeImage_70 hl (by decide) rfl (fun ls hl => ?_)
  refine lv_aload_n hx hb dX3_makeImage_72 rfl (lv_at hl 4 rfl) ?_
  refine gX3_images hC hI tw_230 dX3_makeImage_73 ?_
  refine lv_iload_n hx hb dX3_makeImage_76 rfl (lv_at hl 5 rfl) ?_
  refine lv_iload hx hb dX3_makeImage_77 (lv_at hl 0 rfl) ?_
  have g79 := (gd_at h).1
  replace h := (gd_at h).2
  refine r_iast hC hI aX_59 g79 dX3_makeImage_79 (fun z79 H locs e79 hI => ?_)
  replace h := bnd_at h e79
  refine lv_aload_n hx hb dX3_makeImage_80 rfl (lv_at hl 4 rfl) ?_
  refine gX3_turnOfImage hC hI tw_231 dX3_makeImage_81 ?_
  refine lv_iload_n hx hb dX3_makeImage_84 rfl (lv_at hl 5 rfl) ?_
  refine lv_aload_n hx hb dX3_makeImage_85 rfl (lv_at hl 4 rfl) ?_
  refine gX3_turn hC hI tw_234 dX3_makeImage_86 ?_
  have g89 := (gd_at h).1
  replace h := (gd_at h).2
  refine r_iast hC hI aX_60 g89 dX3_makeImage_89 (fun z89 H locs e89 hI => ?_)
  replace h := bnd_at h e89
  refine lv_iload hx hb dX3_makeImage_90 (lv_at hl 0 rfl) ?_
  refine lv_iconst (v := -1) hx hb dX3_makeImage_92 (by decide) ?_
  refine lv_icmp_eq (tgt := 100) hx hb dX3_makeImage_93 (by decide) (fun c93 => ?_) (fun c93 => ?_)
  · replace h := if_t h c93
    refine lv_iconst (v := 0) hx hb dX3_makeImage_100 (by decide) ?_
    exact hret h (by decide) dX3_makeImage_101 hI
  · replace h := if_f h c93
    refine lv_iconst (v := 1) hx hb dX3_makeImage_96 (by decide) ?_
    refine lv_goto (tgt := 101) hx hb dX3_makeImage_97 (by decide) ?_
    exact hret h (by decide) dX3_makeImage_101 hI
theorem dX3_makeInstance_0 : decode cX3_makeInstance 0 = .ok (.aload_n 0, 1) := by decide +kernel
theorem dX3_makeInstance_1 : decode cX3_makeInstance 1 = .ok (.getfield 24, 3) := by decide +kernel
theorem dX3_makeInstance_4 : decode cX3_makeInstance 4 = .ok (.invokevirtual 28, 3) := by decide +kernel
theorem dX3_makeInstance_7 : decode cX3_makeInstance 7 = .ok (.istore 5, 2) := by decide +kernel
theorem dX3_makeInstance_9 : decode cX3_makeInstance 9 = .ok (.aload_n 0, 1) := by decide +kernel
theorem dX3_makeInstance_10 : decode cX3_makeInstance 10 = .ok (.getfield 21, 3) := by decide +kernel
theorem dX3_makeInstance_13 : decode cX3_makeInstance 13 = .ok (.iconst 0, 1) := by decide +kernel
theorem dX3_makeInstance_14 : decode cX3_makeInstance 14 = .ok (.iload_n 2, 1) := by decide +kernel
theorem dX3_makeInstance_15 : decode cX3_makeInstance 15 = .ok (.iastore, 1) := by decide +kernel
theorem dX3_makeInstance_16 : decode cX3_makeInstance 16 = .ok (.aload_n 0, 1) := by decide +kernel
theorem dX3_makeInstance_17 : decode cX3_makeInstance 17 = .ok (.getfield 21, 3) := by decide +kernel
theorem dX3_makeInstance_20 : decode cX3_makeInstance 20 = .ok (.iconst 1, 1) := by decide +kernel
theorem dX3_makeInstance_21 : decode cX3_makeInstance 21 = .ok (.iload_n 3, 1) := by decide +kernel
theorem dX3_makeInstance_22 : decode cX3_makeInstance 22 = .ok (.iastore, 1) := by decide +kernel
theorem dX3_makeInstance_23 : decode cX3_makeInstance 23 = .ok (.aload_n 0, 1) := by decide +kernel
theorem dX3_makeInstance_24 : decode cX3_makeInstance 24 = .ok (.getfield 21, 3) := by decide +kernel
theorem dX3_makeInstance_27 : decode cX3_makeInstance 27 = .ok (.iconst 2, 1) := by decide +kernel
theorem dX3_makeInstance_28 : decode cX3_makeInstance 28 = .ok (.iload 4, 2) := by decide +kernel
theorem dX3_makeInstance_30 : decode cX3_makeInstance 30 = .ok (.iastore, 1) := by decide +kernel
theorem dX3_makeInstance_31 : decode cX3_makeInstance 31 = .ok (.aload_n 0, 1) := by decide +kernel
theorem dX3_makeInstance_32 : decode cX3_makeInstance 32 = .ok (.dup, 1) := by decide +kernel
theorem dX3_makeInstance_33 : decode cX3_makeInstance 33 = .ok (.getfield 34, 3) := by decide +kernel
theorem dX3_makeInstance_36 : decode cX3_makeInstance 36 = .ok (.iconst 1, 1) := by decide +kernel
theorem dX3_makeInstance_37 : decode cX3_makeInstance 37 = .ok (.iadd, 1) := by decide +kernel
theorem dX3_makeInstance_38 : decode cX3_makeInstance 38 = .ok (.putfield 34, 3) := by decide +kernel
theorem dX3_makeInstance_41 : decode cX3_makeInstance 41 = .ok (.iconst 0, 1) := by decide +kernel
theorem dX3_makeInstance_42 : decode cX3_makeInstance 42 = .ok (.istore 6, 2) := by decide +kernel
theorem dX3_makeInstance_44 : decode cX3_makeInstance 44 = .ok (.aload_n 0, 1) := by decide +kernel
theorem dX3_makeInstance_45 : decode cX3_makeInstance 45 = .ok (.getfield 18, 3) := by decide +kernel
theorem dX3_makeInstance_48 : decode cX3_makeInstance 48 = .ok (.iconst 0, 1) := by decide +kernel
theorem dX3_makeInstance_49 : decode cX3_makeInstance 49 = .ok (.iload_n 1, 1) := by decide +kernel
theorem dX3_makeInstance_50 : decode cX3_makeInstance 50 = .ok (.iastore, 1) := by decide +kernel
theorem dX3_makeInstance_51 : decode cX3_makeInstance 51 = .ok (.iconst 0, 1) := by decide +kernel
theorem dX3_makeInstance_52 : decode cX3_makeInstance 52 = .ok (.istore 7, 2) := by decide +kernel
theorem dX3_makeInstance_54 : decode cX3_makeInstance 54 = .ok (.iload 7, 2) := by decide +kernel
theorem dX3_makeInstance_56 : decode cX3_makeInstance 56 = .ok (.ldc 38, 2) := by decide +kernel
theorem dX3_makeInstance_58 : decode cX3_makeInstance 58 = .ok (.if_icmp .ge 106, 3) := by decide +kernel
theorem dX3_makeInstance_61 : decode cX3_makeInstance 61 = .ok (.iload 6, 2) := by decide +kernel
theorem dX3_makeInstance_63 : decode cX3_makeInstance 63 = .ok (.ifCond .lt 101, 3) := by decide +kernel
theorem dX3_makeInstance_66 : decode cX3_makeInstance 66 = .ok (.aload_n 0, 1) := by decide +kernel
theorem dX3_makeInstance_67 : decode cX3_makeInstance 67 = .ok (.getfield 18, 3) := by decide +kernel
theorem dX3_makeInstance_70 : decode cX3_makeInstance 70 = .ok (.iload 6, 2) := by decide +kernel
theorem dX3_makeInstance_72 : decode cX3_makeInstance 72 = .ok (.iaload, 1) := by decide +kernel
theorem dX3_makeInstance_73 : decode cX3_makeInstance 73 = .ok (.istore 8, 2) := by decide +kernel
theorem dX3_makeInstance_75 : decode cX3_makeInstance 75 = .ok (.aload_n 0, 1) := by decide +kernel
theorem dX3_makeInstance_76 : decode cX3_makeInstance 76 = .ok (.iload 8, 2) := by decide +kernel
theorem dX3_makeInstance_78 : decode cX3_makeInstance 78 = .ok (.invokevirtual 39, 3) := by decide +kernel
theorem dX3_makeInstance_81 : decode cX3_makeInstance 81 = .ok (.ifCond .eq 7, 3) := by decide +kernel
theorem dX3_makeInstance_84 : decode cX3_makeInstance 84 = .ok (.iconst (-1), 1) := by decide +kernel
theorem dX3_makeInstance_85 : decode cX3_makeInstance 85 = .ok (.goto 9, 3) := by decide +kernel
theorem dX3_makeInstance_88 : decode cX3_makeInstance 88 = .ok (.aload_n 0, 1) := by decide +kernel
theorem dX3_makeInstance_89 : decode cX3_makeInstance 89 = .ok (.iload 8, 2) := by decide +kernel
theorem dX3_makeInstance_91 : decode cX3_makeInstance 91 = .ok (.invokevirtual 43, 3) := by decide +kernel
theorem dX3_makeInstance_94 : decode cX3_makeInstance 94 = .ok (.istore 9, 2) := by decide +kernel
theorem dX3_makeInstance_96 : decode cX3_makeInstance 96 = .ok (.iload 9, 2) := by decide +kernel
theorem dX3_makeInstance_98 : decode cX3_makeInstance 98 = .ok (.iconst (-1), 1) := by decide +kernel
theorem dX3_makeInstance_99 : decode cX3_makeInstance 99 = .ok (.if_icmp .eq 27, 3) := by decide +kernel
theorem dX3_makeInstance_102 : decode cX3_makeInstance 102 = .ok (.iload 6, 2) := by decide +kernel
theorem dX3_makeInstance_104 : decode cX3_makeInstance 104 = .ok (.iconst 1, 1) := by decide +kernel
theorem dX3_makeInstance_105 : decode cX3_makeInstance 105 = .ok (.iadd, 1) := by decide +kernel
theorem dX3_makeInstance_106 : decode cX3_makeInstance 106 = .ok (.bipush 120, 2) := by decide +kernel
theorem dX3_makeInstance_108 : decode cX3_makeInstance 108 = .ok (.if_icmp .ge 18, 3) := by decide +kernel
theorem dX3_makeInstance_111 : decode cX3_makeInstance 111 = .ok (.iinc 6 1, 3) := by decide +kernel
theorem dX3_makeInstance_114 : decode cX3_makeInstance 114 = .ok (.aload_n 0, 1) := by decide +kernel
theorem dX3_makeInstance_115 : decode cX3_makeInstance 115 = .ok (.getfield 18, 3) := by decide +kernel
theorem dX3_makeInstance_118 : decode cX3_makeInstance 118 = .ok (.iload 6, 2) := by decide +kernel
theorem dX3_makeInstance_120 : decode cX3_makeInstance 120 = .ok (.iload 9, 2) := by decide +kernel
theorem dX3_makeInstance_122 : decode cX3_makeInstance 122 = .ok (.iastore, 1) := by decide +kernel
theorem dX3_makeInstance_123 : decode cX3_makeInstance 123 = .ok (.goto 35, 3) := by decide +kernel
theorem dX3_makeInstance_126 : decode cX3_makeInstance 126 = .ok (.aload_n 0, 1) := by decide +kernel
theorem dX3_makeInstance_127 : decode cX3_makeInstance 127 = .ok (.iload 8, 2) := by decide +kernel
theorem dX3_makeInstance_129 : decode cX3_makeInstance 129 = .ok (.invokevirtual 39, 3) := by decide +kernel
theorem dX3_makeInstance_132 : decode cX3_makeInstance 132 = .ok (.ifCond .ne 23, 3) := by decide +kernel
theorem dX3_makeInstance_135 : decode cX3_makeInstance 135 = .ok (.aload_n 0, 1) := by decide +kernel
theorem dX3_makeInstance_136 : decode cX3_makeInstance 136 = .ok (.iload 8, 2) := by decide +kernel
theorem dX3_makeInstance_138 : decode cX3_makeInstance 138 = .ok (.invokevirtual 47, 3) := by decide +kernel
theorem dX3_makeInstance_141 : decode cX3_makeInstance 141 = .ok (.ifCond .ne 14, 3) := by decide +kernel
theorem dX3_makeInstance_144 : decode cX3_makeInstance 144 = .ok (.aload_n 0, 1) := by decide +kernel
theorem dX3_makeInstance_145 : decode cX3_makeInstance 145 = .ok (.getfield 24, 3) := by decide +kernel
theorem dX3_makeInstance_148 : decode cX3_makeInstance 148 = .ok (.iload 5, 2) := by decide +kernel
theorem dX3_makeInstance_150 : decode cX3_makeInstance 150 = .ok (.invokevirtual 50, 3) := by decide +kernel
theorem dX3_makeInstance_153 : decode cX3_makeInstance 153 = .ok (.iconst (-1), 1) := by decide +kernel
theorem dX3_makeInstance_154 : decode cX3_makeInstance 154 = .ok (.ireturn, 1) := by decide +kernel
theorem dX3_makeInstance_155 : decode cX3_makeInstance 155 = .ok (.iinc 6 (-1), 3) := by decide +kernel
theorem dX3_makeInstance_158 : decode cX3_makeInstance 158 = .ok (.iinc 7 1, 3) := by decide +kernel
theorem dX3_makeInstance_161 : decode cX3_makeInstance 161 = .ok (.goto (-107), 3) := by decide +kernel
theorem dX3_makeInstance_164 : decode cX3_makeInstance 164 = .ok (.aload_n 0, 1) := by decide +kernel
theorem dX3_makeInstance_165 : decode cX3_makeInstance 165 = .ok (.iload_n 1, 1) := by decide +kernel
theorem dX3_makeInstance_166 : decode cX3_makeInstance 166 = .ok (.invokevirtual 54, 3) := by decide +kernel
theorem dX3_makeInstance_169 : decode cX3_makeInstance 169 = .ok (.ireturn, 1) := by decide +kernel
abbrev rmX3_makeInstance : Room := { frames := 4, cells := 0, slots := 0, locals := 107 }
theorem ywX3_makeInstance : fY yX3_makeInstance "EqualCourt$Maker" cX3_makeInstance 10 (some .int) 4 := ⟨tw_733, tw_734, tw_9, tw_735, by decide +kernel⟩
set_option maxHeartbeats 4000000 in
set_option maxRecDepth 100000 in
theorem cX3_makeInstance_ok {D : va_G} {ad : Nat → Nat} {cy cz : ClassId} {l : Launch} {z : fS} {v1 : Int32} {v2 : Int32} {v3 : Int32} {v4 : Int32} {r : Int32} {τ : fS} (h : fX3_makeInstance z v1 v2 v3 v4 = some (r, τ)) : fMi D 76 ad (cfX ad cy cz) cy cz l yX3_makeInstance cX3_makeInstance 10 (some .int) rmX3_makeInstance [.ref (ad 58), .int v1, .int v2, .int v3, .int v4] z r τ := by
  refine f_bodyi (by decide) (Nat.le_of_ble_eq_true rfl) (fun p e s m args below meth c Q hC hret ls hl hI => ?_)
  have hx := hC.1
  have hb := hC.2.1
  have hl : lv_has ls 10 [(0, .ref (ad 58)), (1, .int v1), (2, .int v2), (3, .int v3), (4, .int v4)] := hl
  unfold fX3_makeInstance at h
  refine lv_aload_n hx hb dX3_makeInstance_0 rfl (lv_at hl 0 rfl) ?_
  refine gX3_terms hC hI tw_229 dX3_makeInstance_1 ?_
  replace h := bp_at h
  obtain ⟨r4, e4, h⟩ := h
  refine r_calli (rest := []) hC hI oX_1 (C := "EqualCourt$Terms") rfl ywX7_count tw_736 (cX7_count_ok  e4) ⟨Nat.le_of_ble_eq_true rfl, Nat.le_of_ble_eq_true rfl⟩ ⟨rfl, rfl⟩ rfl hl.1 rfl (Nat.le_of_ble_eq_true rfl) dX3_makeInstance_4 (fun H locs hI => ?_)
  refine lv_istore (lv' := [(5, .int r4), (0, .ref (ad 58)), (1, .int v1), (2, .int v2), (3, .int v3), (4, .int v4)]) hx hb dX3_makeInstance_7 hl (by decide) rfl (fun ls hl => ?_)
  refine lv_aload_n hx hb dX3_makeInstance_9 rfl (lv_at hl 1 rfl) ?_
  refine gX3_fillings hC hI tw_233 dX3_makeInstance_10 ?_
  refine lv_iconst (v := 0) hx hb dX3_makeInstance_13 (by decide) ?_
  refine lv_iload_n hx hb dX3_makeInstance_14 rfl (lv_at hl 3 rfl) ?_
  have g15 := (gd_at h).1
  replace h := (gd_at h).2
  refine r_iast hC hI aX_62 g15 dX3_makeInstance_15 (fun z15 H locs e15 hI => ?_)
  replace h := bnd_at h e15
  refine lv_aload_n hx hb dX3_makeInstance_16 rfl (lv_at hl 1 rfl) ?_
  refine gX3_fillings hC hI tw_233 dX3_makeInstance_17 ?_
  refine lv_iconst (v := 1) hx hb dX3_makeInstance_20 (by decide) ?_
  refine lv_iload_n hx hb dX3_makeInstance_21 rfl (lv_at hl 4 rfl) ?_
  have g22 := (gd_at h).1
  replace h := (gd_at h).2
  refine r_iast hC hI aX_62 g22 dX3_makeInstance_22 (fun z22 H locs e22 hI => ?_)
  replace h := bnd_at h e22
  refine lv_aload_n hx hb dX3_makeInstance_23 rfl (lv_at hl 1 rfl) ?_
  refine gX3_fillings hC hI tw_233 dX3_makeInstance_24 ?_
  refine lv_iconst (v := 2) hx hb dX3_makeInstance_27 (by decide) ?_
  refine lv_iload hx hb dX3_makeInstance_28 (lv_at hl 5 rfl) ?_
  have g30 := (gd_at h).1
  replace h := (gd_at h).2
  refine r_iast hC hI aX_62 g30 dX3_makeInstance_30 (fun z30 H locs e30 hI => ?_)
  replace h := bnd_at h e30
  refine lv_aload_n hx hb dX3_makeInstance_31 rfl (lv_at hl 1 rfl) ?_
  refine lv_dup hx hb dX3_makeInstance_32 rfl ?_
  refine gX3_turn hC hI tw_234 dX3_makeInstance_33 ?_
  refine lv_iconst (v := 1) hx hb dX3_makeInstance_36 (by decide) ?_
  refine lv_iadd hx hb dX3_makeInstance_37 ?_
  refine pX3_turn hC hI tw_234 dX3_makeInstance_38 (fun z38 H locs e38 hI => ?_)
  replace h := bnd_at h e38
  refine lv_iconst (v := 0) hx hb dX3_makeInstance_41 (by decide) ?_
  refine lv_istore (lv' := [(6, .int (0 : Int32)), (5, .int r4), (0, .ref (ad 58)), (1, .int v1), (2, .int v2), (3, .int v3), (4, .int v4)]) hx hb dX3_makeInstance_42 hl (by decide) rfl (fun ls hl => ?_)
  refine lv_aload_n hx hb dX3_makeInstance_44 rfl (lv_at hl 2 rfl) ?_
  refine gX3_path hC hI tw_232 dX3_makeInstance_45 ?_
  refine lv_iconst (v := 0) hx hb dX3_makeInstance_48 (by decide) ?_
  refine lv_iload_n hx hb dX3_makeInstance_49 rfl (lv_at hl 3 rfl) ?_
  have g50 := (gd_at h).1
  replace h := (gd_at h).2
  refine r_iast hC hI aX_61 g50 dX3_makeInstance_50 (fun z50 H locs e50 hI => ?_)
  replace h := bnd_at h e50
  refine lv_iconst (v := 0) hx hb dX3_makeInstance_51 (by decide) ?_
  refine lv_istore (lv' := [(7, .int (0 : Int32)), (6, .int (0 : Int32)), (5, .int r4), (0, .ref (ad 58)), (1, .int v1), (2, .int v2), (3, .int v3), (4, .int v4)]) hx hb dX3_makeInstance_52 hl (by decide) rfl (fun ls hl => ?_)
  have w54 : ∀ (N54 : Nat) (v1 : Int32) (v5 : Int32) (v6 : Int32) (v7 : Int32) (z : fS) (H : Heap) (locs : List Loc) (ls : Array Slot), fI D 76 ad (cfX ad cy cz) z s H locs → lv_has ls 10 [(0, .ref (ad 58)), (1, .int v1), (5, .int v5), (6, .int v6), (7, .int v7)] → lX3_makeInstance_54   v1 v5 N54 v6 v7 z = some (r, τ) → W p l e rmX3_makeInstance s m args below meth c H locs 0 0 Q (F0 m 54 ls []) := by
    intro N54
    induction N54 with
    | zero =>
      intro v1 v5 v6 v7 z H locs ls hI hl h
      exact none_no h
    | succ N54 ih54 =>
      have w126 : ∀ (v1 : Int32) (v5 : Int32) (v6 : Int32) (v7 : Int32) (v8 : Int32) (z : fS) (H : Heap) (locs : List Loc) (ls : Array Slot), fI D 76 ad (cfX ad cy cz) z s H locs → lv_has ls 10 [(0, .ref (ad 58)), (1, .int v1), (5, .int v5), (6, .int v6), (7, .int v7), (8, .int v8)] → jX3_makeInstance_126  (lX3_makeInstance_54   v1 v5 N54) v1 v5 v6 v7 v8 z = some (r, τ) → W p l e rmX3_makeInstance s m args below meth c H locs 0 0 Q (F0 m 126 ls []) := by
        intro v1 v5 v6 v7 v8 z H locs ls hI hl h
        unfold jX3_makeInstance_126 at h
        refine lv_aload_n hx hb dX3_makeInstance_126 rfl (lv_at hl 0 rfl) ?_
        refine lv_iload hx hb dX3_makeInstance_127 (lv_at hl 5 rfl) ?_
        replace h := bp_at h
        obtain ⟨r129, e129, h⟩ := h
        refine r_calli (rest := []) hC hI oX_58 (C := "EqualCourt$Maker") rfl ywX3_isKnown tw_738 (cX3_isKnown_ok  e129) ⟨Nat.le_of_ble_eq_true rfl, Nat.le_of_ble_eq_true rfl⟩ ⟨rfl, rfl⟩ rfl hl.1 rfl (Nat.le_of_ble_eq_true rfl) dX3_makeInstance_129 (fun H locs hI => ?_)
        refine lv_if_ne (tgt := 155) hx hb dX3_makeInstance_132 (by decide) (fun c132 => ?_) (fun c132 => ?_)
        · replace h := if_f h c132
          obtain ⟨x155, e155⟩ : ∃ y : Int32, y = (v6 + (-1 : Int32)) := ⟨_, rfl⟩
          replace h := bnd_at h e155
          refine lv_iinc (v := x155) (lv' := [(6, .int x155), (0, .ref (ad 58)), (1, .int v1), (5, .int v5), (7, .int v7), (8, .int v8)]) hx hb dX3_makeInstance_155 hl (k := 3) rfl (by rw [e155]; rfl) (by decide) rfl (fun ls hl => ?_)
          obtain ⟨x158, e158⟩ : ∃ y : Int32, y = (v7 + (1 : Int32)) := ⟨_, rfl⟩
          replace h := bnd_at h e158
          refine lv_iinc (v := x158) (lv' := [(7, .int x158), (6, .int x155), (0, .ref (ad 58)), (1, .int v1), (5, .int v5), (8, .int v8)]) hx hb dX3_makeInstance_158 hl (k := 4) rfl (by rw [e158]; rfl) (by decide) rfl (fun ls hl => ?_)
          refine lv_goto (tgt := 54) hx hb dX3_makeInstance_161 (by decide) ?_
          exact ih54 v1 v5 x155 x158 z _ _ _ hI (lv_sub hl [2, 3, 4, 1, 0] rfl) h
        · replace h := if_t h c132
          refine lv_aload_n hx hb dX3_makeInstance_135 rfl (lv_at hl 0 rfl) ?_
          refine lv_iload hx hb dX3_makeInstance_136 (lv_at hl 5 rfl) ?_
          replace h := bd_at h
          obtain ⟨r138, z138, e138, h⟩ := h
          refine r_calli (rest := []) hC hI oX_58 (C := "EqualCourt$Maker") rfl ywX3_makeImage tw_753 (cX3_makeImage_ok  e138) ⟨Nat.le_of_ble_eq_true rfl, Nat.le_of_ble_eq_true rfl⟩ ⟨rfl, rfl⟩ rfl hl.1 rfl (Nat.le_of_ble_eq_true rfl) dX3_makeInstance_138 (fun H locs hI => ?_)
          refine lv_if_ne (tgt := 155) hx hb dX3_makeInstance_141 (by decide) (fun c141 => ?_) (fun c141 => ?_)
          · replace h := if_f h c141
            obtain ⟨x155, e155⟩ : ∃ y : Int32, y = (v6 + (-1 : Int32)) := ⟨_, rfl⟩
            replace h := bnd_at h e155
            refine lv_iinc (v := x155) (lv' := [(6, .int x155), (0, .ref (ad 58)), (1, .int v1), (5, .int v5), (7, .int v7), (8, .int v8)]) hx hb dX3_makeInstance_155 hl (k := 3) rfl (by rw [e155]; rfl) (by decide) rfl (fun ls hl => ?_)
            obtain ⟨x158, e158⟩ : ∃ y : Int32, y = (v7 + (1 : Int32)) := ⟨_, rfl⟩
            replace h := bnd_at h e158
            refine lv_iinc (v := x158) (lv' := [(7, .int x158), (6, .int x155), (0, .ref (ad 58)), (1, .int v1), (5, .int v5), (8, .int v8)]) hx hb dX3_makeInstance_158 hl (k := 4) rfl (by rw [e158]; rfl) (by decide) rfl (fun ls hl => ?_)
            refine lv_goto (tgt := 54) hx hb dX3_makeInstance_161 (by decide) ?_
            exact ih54 v1 v5 x155 x158 z138 _ _ _ hI (lv_sub hl [2, 3, 4, 1, 0] rfl) h
          · replace h := if_t h c141
            refine lv_aload_n hx hb dX3_makeInstance_144 rfl (lv_at hl 0 rfl) ?_
            refine gX3_terms hC hI tw_229 dX3_makeInstance_145 ?_
            refine lv_iload hx hb dX3_makeInstance_148 (lv_at hl 2 rfl) ?_
            replace h := bp_at h
            obtain ⟨z150, e150, h⟩ := h
            refine r_callv (rest := []) hC hI oX_1 (C := "EqualCourt$Terms") rfl ywX7_unmakeFrom tw_764 (cX7_unmakeFrom_ok  e150) ⟨Nat.le_of_ble_eq_true rfl, Nat.le_of_ble_eq_true rfl⟩ ⟨rfl, rfl⟩ rfl hl.1 rfl (Nat.le_of_ble_eq_true rfl) dX3_makeInstance_150 (fun H locs hI => ?_)
            refine lv_iconst (v := -1) hx hb dX3_makeInstance_153 (by decide) ?_
            exact hret h dX3_makeInstance_154 hI
      have w94 : ∀ (v1 : Int32) (v5 : Int32) (v6 : Int32) (v7 : Int32) (v8 : Int32) (y0 : Int32) (z : fS) (H : Heap) (locs : List Loc) (ls : Array Slot), fI D 76 ad (cfX ad cy cz) z s H locs → lv_has ls 10 [(0, .ref (ad 58)), (1, .int v1), (5, .int v5), (6, .int v6), (7, .int v7), (8, .int v8)] → jX3_makeInstance_94  (lX3_makeInstance_54   v1 v5 N54) v1 v5 v6 v7 v8 y0 z = some (r, τ) → W p l e rmX3_makeInstance s m args below meth c H locs 0 0 Q (F0 m 94 ls [.int y0]) := by
        intro v1 v5 v6 v7 v8 y0 z H locs ls hI hl h
        unfold jX3_makeInstance_94 at h
        refine lv_istore (lv' := [(9, .int y0), (0, .ref (ad 58)), (1, .int v1), (5, .int v5), (6, .int v6), (7, .int v7), (8, .int v8)]) hx hb dX3_makeInstance_94 hl (by decide) rfl (fun ls hl => ?_)
        refine lv_iload hx hb dX3_makeInstance_96 (lv_at hl 0 rfl) ?_
        refine lv_iconst (v := -1) hx hb dX3_makeInstance_98 (by decide) ?_
        refine lv_icmp_eq (tgt := 126) hx hb dX3_makeInstance_99 (by decide) (fun c99 => ?_) (fun c99 => ?_)
        · replace h := if_t h c99
          exact w126 v1 v5 v6 v7 v8 z _ _ _ hI (lv_sub hl [1, 2, 3, 4, 5, 6] rfl) h
        · replace h := if_f h c99
          refine lv_iload hx hb dX3_makeInstance_102 (lv_at hl 4 rfl) ?_
          refine lv_iconst (v := 1) hx hb dX3_makeInstance_104 (by decide) ?_
          refine lv_iadd hx hb dX3_makeInstance_105 ?_
          refine lv_bipush (v := 120) hx hb dX3_makeInstance_106 (by decide) ?_
          refine lv_icmp_ge (tgt := 126) hx hb dX3_makeInstance_108 (by decide) (fun c108 => ?_) (fun c108 => ?_)
          · replace h := if_t h c108
            exact w126 v1 v5 v6 v7 v8 z _ _ _ hI (lv_sub hl [1, 2, 3, 4, 5, 6] rfl) h
          · replace h := if_f h c108
            obtain ⟨x111, e111⟩ : ∃ y : Int32, y = (v6 + (1 : Int32)) := ⟨_, rfl⟩
            replace h := bnd_at h e111
            refine lv_iinc (v := x111) (lv' := [(6, .int x111), (9, .int y0), (0, .ref (ad 58)), (1, .int v1), (5, .int v5), (7, .int v7), (8, .int v8)]) hx hb dX3_makeInstance_111 hl (k := 4) rfl (by rw [e111]; rfl) (by decide) rfl (fun ls hl => ?_)
            refine lv_aload_n hx hb dX3_makeInstance_114 rfl (lv_at hl 2 rfl) ?_
            refine gX3_path hC hI tw_232 dX3_makeInstance_115 ?_
            refine lv_iload hx hb dX3_makeInstance_118 (lv_at hl 0 rfl) ?_
            refine lv_iload hx hb dX3_makeInstance_120 (lv_at hl 1 rfl) ?_
            have g122 := (gd_at h).1
            replace h := (gd_at h).2
            refine r_iast hC hI aX_61 g122 dX3_makeInstance_122 (fun z122 H locs e122 hI => ?_)
            replace h := bnd_at h e122
            refine lv_goto (tgt := 158) hx hb dX3_makeInstance_123 (by decide) ?_
            obtain ⟨x158, e158⟩ : ∃ y : Int32, y = (v7 + (1 : Int32)) := ⟨_, rfl⟩
            replace h := bnd_at h e158
            refine lv_iinc (v := x158) (lv' := [(7, .int x158), (6, .int x111), (9, .int y0), (0, .ref (ad 58)), (1, .int v1), (5, .int v5), (8, .int v8)]) hx hb dX3_makeInstance_158 hl (k := 5) rfl (by rw [e158]; rfl) (by decide) rfl (fun ls hl => ?_)
            refine lv_goto (tgt := 54) hx hb dX3_makeInstance_161 (by decide) ?_
            exact ih54 v1 v5 x111 x158 z122 _ _ _ hI (lv_sub hl [3, 4, 5, 1, 0] rfl) h
      intro v1 v5 v6 v7 z H locs ls hI hl h
      rw [lX3_makeInstance_54.eq_2] at h
      refine lv_iload hx hb dX3_makeInstance_54 (lv_at hl 4 rfl) ?_
      refine lv_ldc (v := 1000000) hx hb hC.2.2.2.1 (hC.2.2.2.2.1 _ tw_737) dX3_makeInstance_56 ?_
      refine lv_icmp_ge (tgt := 164) hx hb dX3_makeInstance_58 (by decide) (fun c58 => ?_) (fun c58 => ?_)
      · replace h := if_t h c58
        refine lv_aload_n hx hb dX3_makeInstance_164 rfl (lv_at hl 0 rfl) ?_
        refine lv_iload_n hx hb dX3_makeInstance_165 rfl (lv_at hl 1 rfl) ?_
        replace h := bp_at h
        obtain ⟨r166, e166, h⟩ := h
        refine r_calli (rest := []) hC hI oX_58 (C := "EqualCourt$Maker") rfl ywX3_imageOf tw_757 (cX3_imageOf_ok  e166) ⟨Nat.le_of_ble_eq_true rfl, Nat.le_of_ble_eq_true rfl⟩ ⟨rfl, rfl⟩ rfl hl.1 rfl (Nat.le_of_ble_eq_true rfl) dX3_makeInstance_166 (fun H locs hI => ?_)
        exact hret h dX3_makeInstance_169 hI
      · replace h := if_f h c58
        refine lv_iload hx hb dX3_makeInstance_61 (lv_at hl 3 rfl) ?_
        refine lv_if_lt (tgt := 164) hx hb dX3_makeInstance_63 (by decide) (fun c63 => ?_) (fun c63 => ?_)
        · replace h := if_t h c63
          refine lv_aload_n hx hb dX3_makeInstance_164 rfl (lv_at hl 0 rfl) ?_
          refine lv_iload_n hx hb dX3_makeInstance_165 rfl (lv_at hl 1 rfl) ?_
          replace h := bp_at h
          obtain ⟨r166, e166, h⟩ := h
          refine r_calli (rest := []) hC hI oX_58 (C := "EqualCourt$Maker") rfl ywX3_imageOf tw_757 (cX3_imageOf_ok  e166) ⟨Nat.le_of_ble_eq_true rfl, Nat.le_of_ble_eq_true rfl⟩ ⟨rfl, rfl⟩ rfl hl.1 rfl (Nat.le_of_ble_eq_true rfl) dX3_makeInstance_166 (fun H locs hI => ?_)
          exact hret h dX3_makeInstance_169 hI
        · replace h := if_f h c63
          refine lv_aload_n hx hb dX3_makeInstance_66 rfl (lv_at hl 0 rfl) ?_
          refine gX3_path hC hI tw_232 dX3_makeInstance_67 ?_
          refine lv_iload hx hb dX3_makeInstance_70 (lv_at hl 3 rfl) ?_
          have g72 := (gd_at h).1
          replace h := (gd_at h).2
          refine r_iald hC hI aX_61 g72 dX3_makeInstance_72 ?_
          refine lv_topi (fun x73 e73 => ?_)
          replace h := bnd_at h e73
          refine lv_istore (lv' := [(8, .int x73), (0, .ref (ad 58)), (1, .int v1), (5, .int v5), (6, .int v6), (7, .int v7)]) hx hb dX3_makeInstance_73 hl (by decide) rfl (fun ls hl => ?_)
          refine lv_aload_n hx hb dX3_makeInstance_75 rfl (lv_at hl 1 rfl) ?_
          refine lv_iload hx hb dX3_makeInstance_76 (lv_at hl 0 rfl) ?_
          replace h := bp_at h
          obtain ⟨r78, e78, h⟩ := h
          refine r_calli (rest := []) hC hI oX_58 (C := "EqualCourt$Maker") rfl ywX3_isKnown tw_738 (cX3_isKnown_ok  e78) ⟨Nat.le_of_ble_eq_true rfl, Nat.le_of_ble_eq_true rfl⟩ ⟨rfl, rfl⟩ rfl hl.1 rfl (Nat.le_of_ble_eq_true rfl) dX3_makeInstance_78 (fun H locs hI => ?_)
          refine lv_if_eq (tgt := 88) hx hb dX3_makeInstance_81 (by decide) (fun c81 => ?_) (fun c81 => ?_)
          · replace h := if_t h c81
            refine lv_aload_n hx hb dX3_makeInstance_88 rfl (lv_at hl 1 rfl) ?_
            refine lv_iload hx hb dX3_makeInstance_89 (lv_at hl 0 rfl) ?_
            replace h := bp_at h
            obtain ⟨r91, e91, h⟩ := h
            refine r_calli (rest := []) hC hI oX_58 (C := "EqualCourt$Maker") rfl ywX3_openPart tw_747 (cX3_openPart_ok  e91) ⟨Nat.le_of_ble_eq_true rfl, Nat.le_of_ble_eq_true rfl⟩ ⟨rfl, rfl⟩ rfl hl.1 rfl (Nat.le_of_ble_eq_true rfl) dX3_makeInstance_91 (fun H locs hI => ?_)
            exact w94 v1 v5 v6 v7 x73 r91 z _ _ _ hI (lv_sub hl [1, 2, 3, 4, 5, 0] rfl) h
          · replace h := if_f h c81
            refine lv_iconst (v := -1) hx hb dX3_makeInstance_84 (by decide) ?_
            refine lv_goto (tgt := 94) hx hb dX3_makeInstance_85 (by decide) ?_
            exact w94 v1 v5 v6 v7 x73 (-1 : Int32) z _ _ _ hI (lv_sub hl [1, 2, 3, 4, 5, 0] rfl) h
  exact w54 FU v1 r4 (0 : Int32) (0 : Int32) z50 _ _ _ hI (lv_sub hl [3, 4, 2, 1, 0] rfl) h
theorem dX6_count_0 : decode cX6_count 0 = .ok (.aload_n 0, 1) := by decide +kernel
theorem dX6_count_1 : decode cX6_count 1 = .ok (.getfield 35, 3) := by decide +kernel
theorem dX6_count_4 : decode cX6_count 4 = .ok (.ireturn, 1) := by decide +kernel
abbrev rmX6_count : Room := { frames := 0, cells := 0, slots := 0, locals := 0 }
theorem ywX6_count : fY yX6_count "EqualCourt$Steps" cX6_count 1 (some .int) 0 := ⟨tw_498, tw_499, tw_10, tw_500, by decide +kernel⟩
set_option maxHeartbeats 4000000 in
set_option maxRecDepth 100000 in
theorem cX6_count_ok {D : va_G} {ad : Nat → Nat} {cy cz : ClassId} {l : Launch} {z : fS}  {r : Int32} (h : fX6_count z = some r) : fMi D 76 ad (cfX ad cy cz) cy cz l yX6_count cX6_count 1 (some .int) rmX6_count [.ref (ad 63)] z r z := by
  refine f_bodyi (by decide) (Nat.le_of_ble_eq_true rfl) (fun p e s m args below meth c Q hC hret ls hl hI => ?_)
  have hx := hC.1
  have hb := hC.2.1
  have hl : lv_has ls 1 [(0, .ref (ad 63))] := hl
  unfold fX6_count at h
  refine lv_aload_n hx hb dX6_count_0 rfl (lv_at hl 0 rfl) ?_
  refine gX6_count hC hI tw_261 dX6_count_1 ?_
  exact hret (ret_p _ h) dX6_count_4 hI
theorem dX6_add_0 : decode cX6_add 0 = .ok (.aload_n 0, 1) := by decide +kernel
theorem dX6_add_1 : decode cX6_add 1 = .ok (.getfield 35, 3) := by decide +kernel
theorem dX6_add_4 : decode cX6_add 4 = .ok (.bipush 100, 2) := by decide +kernel
theorem dX6_add_6 : decode cX6_add 6 = .ok (.if_icmp .lt 5, 3) := by decide +kernel
theorem dX6_add_9 : decode cX6_add 9 = .ok (.iconst (-1), 1) := by decide +kernel
theorem dX6_add_10 : decode cX6_add 10 = .ok (.ireturn, 1) := by decide +kernel
theorem dX6_add_11 : decode cX6_add 11 = .ok (.aload_n 0, 1) := by decide +kernel
theorem dX6_add_12 : decode cX6_add 12 = .ok (.getfield 9, 3) := by decide +kernel
theorem dX6_add_15 : decode cX6_add 15 = .ok (.aload_n 0, 1) := by decide +kernel
theorem dX6_add_16 : decode cX6_add 16 = .ok (.getfield 35, 3) := by decide +kernel
theorem dX6_add_19 : decode cX6_add 19 = .ok (.iload_n 1, 1) := by decide +kernel
theorem dX6_add_20 : decode cX6_add 20 = .ok (.iastore, 1) := by decide +kernel
theorem dX6_add_21 : decode cX6_add 21 = .ok (.aload_n 0, 1) := by decide +kernel
theorem dX6_add_22 : decode cX6_add 22 = .ok (.getfield 15, 3) := by decide +kernel
theorem dX6_add_25 : decode cX6_add 25 = .ok (.aload_n 0, 1) := by decide +kernel
theorem dX6_add_26 : decode cX6_add 26 = .ok (.getfield 35, 3) := by decide +kernel
theorem dX6_add_29 : decode cX6_add 29 = .ok (.iload_n 2, 1) := by decide +kernel
theorem dX6_add_30 : decode cX6_add 30 = .ok (.iastore, 1) := by decide +kernel
theorem dX6_add_31 : decode cX6_add 31 = .ok (.aload_n 0, 1) := by decide +kernel
theorem dX6_add_32 : decode cX6_add 32 = .ok (.getfield 18, 3) := by decide +kernel
theorem dX6_add_35 : decode cX6_add 35 = .ok (.aload_n 0, 1) := by decide +kernel
theorem dX6_add_36 : decode cX6_add 36 = .ok (.getfield 35, 3) := by decide +kernel
theorem dX6_add_39 : decode cX6_add 39 = .ok (.iload_n 3, 1) := by decide +kernel
theorem dX6_add_40 : decode cX6_add 40 = .ok (.iastore, 1) := by decide +kernel
theorem dX6_add_41 : decode cX6_add 41 = .ok (.aload_n 0, 1) := by decide +kernel
theorem dX6_add_42 : decode cX6_add 42 = .ok (.getfield 21, 3) := by decide +kernel
theorem dX6_add_45 : decode cX6_add 45 = .ok (.aload_n 0, 1) := by decide +kernel
theorem dX6_add_46 : decode cX6_add 46 = .ok (.getfield 35, 3) := by decide +kernel
theorem dX6_add_49 : decode cX6_add 49 = .ok (.iload 4, 2) := by decide +kernel
theorem dX6_add_51 : decode cX6_add 51 = .ok (.iastore, 1) := by decide +kernel
theorem dX6_add_52 : decode cX6_add 52 = .ok (.aload_n 0, 1) := by decide +kernel
theorem dX6_add_53 : decode cX6_add 53 = .ok (.getfield 24, 3) := by decide +kernel
theorem dX6_add_56 : decode cX6_add 56 = .ok (.aload_n 0, 1) := by decide +kernel
theorem dX6_add_57 : decode cX6_add 57 = .ok (.getfield 35, 3) := by decide +kernel
theorem dX6_add_60 : decode cX6_add 60 = .ok (.iload 5, 2) := by decide +kernel
theorem dX6_add_62 : decode cX6_add 62 = .ok (.iastore, 1) := by decide +kernel
theorem dX6_add_63 : decode cX6_add 63 = .ok (.aload_n 0, 1) := by decide +kernel
theorem dX6_add_64 : decode cX6_add 64 = .ok (.dup, 1) := by decide +kernel
theorem dX6_add_65 : decode cX6_add 65 = .ok (.getfield 35, 3) := by decide +kernel
theorem dX6_add_68 : decode cX6_add 68 = .ok (.iconst 1, 1) := by decide +kernel
theorem dX6_add_69 : decode cX6_add 69 = .ok (.iadd, 1) := by decide +kernel
theorem dX6_add_70 : decode cX6_add 70 = .ok (.putfield 35, 3) := by decide +kernel
theorem dX6_add_73 : decode cX6_add 73 = .ok (.aload_n 0, 1) := by decide +kernel
theorem dX6_add_74 : decode cX6_add 74 = .ok (.getfield 35, 3) := by decide +kernel
theorem dX6_add_77 : decode cX6_add 77 = .ok (.iconst 1, 1) := by decide +kernel
theorem dX6_add_78 : decode cX6_add 78 = .ok (.isub, 1) := by decide +kernel
theorem dX6_add_79 : decode cX6_add 79 = .ok (.ireturn, 1) := by decide +kernel
abbrev rmX6_add : Room := { frames := 0, cells := 0, slots := 0, locals := 0 }
theorem ywX6_add : fY yX6_add "EqualCourt$Steps" cX6_add 6 (some .int) 5 := ⟨tw_791, tw_792, tw_10, tw_793, by decide +kernel⟩
set_option maxHeartbeats 4000000 in
set_option maxRecDepth 100000 in
theorem cX6_add_ok {D : va_G} {ad : Nat → Nat} {cy cz : ClassId} {l : Launch} {z : fS} {v1 : Int32} {v2 : Int32} {v3 : Int32} {v4 : Int32} {v5 : Int32} {r : Int32} {τ : fS} (h : fX6_add z v1 v2 v3 v4 v5 = some (r, τ)) : fMi D 76 ad (cfX ad cy cz) cy cz l yX6_add cX6_add 6 (some .int) rmX6_add [.ref (ad 63), .int v1, .int v2, .int v3, .int v4, .int v5] z r τ := by
  refine f_bodyi (by decide) (Nat.le_of_ble_eq_true rfl) (fun p e s m args below meth c Q hC hret ls hl hI => ?_)
  have hx := hC.1
  have hb := hC.2.1
  have hl : lv_has ls 6 [(0, .ref (ad 63)), (1, .int v1), (2, .int v2), (3, .int v3), (4, .int v4), (5, .int v5)] := hl
  unfold fX6_add at h
  refine lv_aload_n hx hb dX6_add_0 rfl (lv_at hl 0 rfl) ?_
  refine gX6_count hC hI tw_261 dX6_add_1 ?_
  refine lv_bipush (v := 100) hx hb dX6_add_4 (by decide) ?_
  refine lv_icmp_lt (tgt := 11) hx hb dX6_add_6 (by decide) (fun c6 => ?_) (fun c6 => ?_)
  · replace h := if_t h c6
    refine lv_aload_n hx hb dX6_add_11 rfl (lv_at hl 0 rfl) ?_
    refine gX6_reasons hC hI tw_256 dX6_add_12 ?_
    refine lv_aload_n hx hb dX6_add_15 rfl (lv_at hl 0 rfl) ?_
    refine gX6_count hC hI tw_261 dX6_add_16 ?_
    refine lv_iload_n hx hb dX6_add_19 rfl (lv_at hl 1 rfl) ?_
    have g20 := (gd_at h).1
    replace h := (gd_at h).2
    refine r_iast hC hI aX_64 g20 dX6_add_20 (fun z20 H locs e20 hI => ?_)
    replace h := bnd_at h e20
    refine lv_aload_n hx hb dX6_add_21 rfl (lv_at hl 0 rfl) ?_
    refine gX6_lefts hC hI tw_257 dX6_add_22 ?_
    refine lv_aload_n hx hb dX6_add_25 rfl (lv_at hl 0 rfl) ?_
    refine gX6_count hC hI tw_261 dX6_add_26 ?_
    refine lv_iload_n hx hb dX6_add_29 rfl (lv_at hl 2 rfl) ?_
    have g30 := (gd_at h).1
    replace h := (gd_at h).2
    refine r_iast hC hI aX_65 g30 dX6_add_30 (fun z30 H locs e30 hI => ?_)
    replace h := bnd_at h e30
    refine lv_aload_n hx hb dX6_add_31 rfl (lv_at hl 0 rfl) ?_
    refine gX6_rights hC hI tw_258 dX6_add_32 ?_
    refine lv_aload_n hx hb dX6_add_35 rfl (lv_at hl 0 rfl) ?_
    refine gX6_count hC hI tw_261 dX6_add_36 ?_
    refine lv_iload_n hx hb dX6_add_39 rfl (lv_at hl 3 rfl) ?_
    have g40 := (gd_at h).1
    replace h := (gd_at h).2
    refine r_iast hC hI aX_66 g40 dX6_add_40 (fun z40 H locs e40 hI => ?_)
    replace h := bnd_at h e40
    refine lv_aload_n hx hb dX6_add_41 rfl (lv_at hl 0 rfl) ?_
    refine gX6_is hC hI tw_259 dX6_add_42 ?_
    refine lv_aload_n hx hb dX6_add_45 rfl (lv_at hl 0 rfl) ?_
    refine gX6_count hC hI tw_261 dX6_add_46 ?_
    refine lv_iload hx hb dX6_add_49 (lv_at hl 4 rfl) ?_
    have g51 := (gd_at h).1
    replace h := (gd_at h).2
    refine r_iast hC hI aX_67 g51 dX6_add_51 (fun z51 H locs e51 hI => ?_)
    replace h := bnd_at h e51
    refine lv_aload_n hx hb dX6_add_52 rfl (lv_at hl 0 rfl) ?_
    refine gX6_js hC hI tw_260 dX6_add_53 ?_
    refine lv_aload_n hx hb dX6_add_56 rfl (lv_at hl 0 rfl) ?_
    refine gX6_count hC hI tw_261 dX6_add_57 ?_
    refine lv_iload hx hb dX6_add_60 (lv_at hl 5 rfl) ?_
    have g62 := (gd_at h).1
    replace h := (gd_at h).2
    refine r_iast hC hI aX_68 g62 dX6_add_62 (fun z62 H locs e62 hI => ?_)
    replace h := bnd_at h e62
    refine lv_aload_n hx hb dX6_add_63 rfl (lv_at hl 0 rfl) ?_
    refine lv_dup hx hb dX6_add_64 rfl ?_
    refine gX6_count hC hI tw_261 dX6_add_65 ?_
    refine lv_iconst (v := 1) hx hb dX6_add_68 (by decide) ?_
    refine lv_iadd hx hb dX6_add_69 ?_
    refine pX6_count hC hI tw_261 dX6_add_70 (fun z70 H locs e70 hI => ?_)
    replace h := bnd_at h e70
    refine lv_aload_n hx hb dX6_add_73 rfl (lv_at hl 0 rfl) ?_
    refine gX6_count hC hI tw_261 dX6_add_74 ?_
    refine lv_iconst (v := 1) hx hb dX6_add_77 (by decide) ?_
    refine lv_isub hx hb dX6_add_78 ?_
    exact hret h dX6_add_79 hI
  · replace h := if_f h c6
    refine lv_iconst (v := -1) hx hb dX6_add_9 (by decide) ?_
    exact hret h dX6_add_10 hI
theorem dX6_forget_0 : decode cX6_forget 0 = .ok (.aload_n 0, 1) := by decide +kernel
theorem dX6_forget_1 : decode cX6_forget 1 = .ok (.iconst 0, 1) := by decide +kernel
theorem dX6_forget_2 : decode cX6_forget 2 = .ok (.putfield 35, 3) := by decide +kernel
theorem dX6_forget_5 : decode cX6_forget 5 = .ok (.return_, 1) := by decide +kernel
abbrev rmX6_forget : Room := { frames := 0, cells := 0, slots := 0, locals := 0 }
theorem ywX6_forget : fY yX6_forget "EqualCourt$Steps" cX6_forget 1 none 0 := ⟨tw_799, tw_800, tw_10, tw_801, by decide +kernel⟩
set_option maxHeartbeats 4000000 in
set_option maxRecDepth 100000 in
theorem cX6_forget_ok {D : va_G} {ad : Nat → Nat} {cy cz : ClassId} {l : Launch} {z : fS}  {τ : fS} (h : fX6_forget z = some τ) : fMv D 76 ad (cfX ad cy cz) cy cz l yX6_forget cX6_forget 1 none rmX6_forget [.ref (ad 63)] z τ := by
  refine f_bodyv (by decide) (Nat.le_of_ble_eq_true rfl) (fun p e s m args below meth c Q hC hret ls hl hI => ?_)
  have hx := hC.1
  have hb := hC.2.1
  have hl : lv_has ls 1 [(0, .ref (ad 63))] := hl
  unfold fX6_forget at h
  refine lv_aload_n hx hb dX6_forget_0 rfl (lv_at hl 0 rfl) ?_
  refine lv_iconst (v := 0) hx hb dX6_forget_1 (by decide) ?_
  refine pX6_count hC hI tw_261 dX6_forget_2 (fun z2 H locs e2 hI => ?_)
  replace h := bnd_at h e2
  exact hret h dX6_forget_5 hI
theorem dX6_says_0 : decode cX6_says 0 = .ok (.iload_n 1, 1) := by decide +kernel
theorem dX6_says_1 : decode cX6_says 1 = .ok (.ifCond .lt 35, 3) := by decide +kernel
theorem dX6_says_4 : decode cX6_says 4 = .ok (.iload_n 1, 1) := by decide +kernel
theorem dX6_says_5 : decode cX6_says 5 = .ok (.aload_n 0, 1) := by decide +kernel
theorem dX6_says_6 : decode cX6_says 6 = .ok (.getfield 35, 3) := by decide +kernel
theorem dX6_says_9 : decode cX6_says 9 = .ok (.if_icmp .ge 27, 3) := by decide +kernel
theorem dX6_says_12 : decode cX6_says 12 = .ok (.aload_n 0, 1) := by decide +kernel
theorem dX6_says_13 : decode cX6_says 13 = .ok (.getfield 15, 3) := by decide +kernel
theorem dX6_says_16 : decode cX6_says 16 = .ok (.iload_n 1, 1) := by decide +kernel
theorem dX6_says_17 : decode cX6_says 17 = .ok (.iaload, 1) := by decide +kernel
theorem dX6_says_18 : decode cX6_says 18 = .ok (.iload_n 2, 1) := by decide +kernel
theorem dX6_says_19 : decode cX6_says 19 = .ok (.if_icmp .ne 17, 3) := by decide +kernel
theorem dX6_says_22 : decode cX6_says 22 = .ok (.aload_n 0, 1) := by decide +kernel
theorem dX6_says_23 : decode cX6_says 23 = .ok (.getfield 18, 3) := by decide +kernel
theorem dX6_says_26 : decode cX6_says 26 = .ok (.iload_n 1, 1) := by decide +kernel
theorem dX6_says_27 : decode cX6_says 27 = .ok (.iaload, 1) := by decide +kernel
theorem dX6_says_28 : decode cX6_says 28 = .ok (.iload_n 3, 1) := by decide +kernel
theorem dX6_says_29 : decode cX6_says 29 = .ok (.if_icmp .ne 7, 3) := by decide +kernel
theorem dX6_says_32 : decode cX6_says 32 = .ok (.iconst 1, 1) := by decide +kernel
theorem dX6_says_33 : decode cX6_says 33 = .ok (.goto 4, 3) := by decide +kernel
theorem dX6_says_36 : decode cX6_says 36 = .ok (.iconst 0, 1) := by decide +kernel
theorem dX6_says_37 : decode cX6_says 37 = .ok (.ireturn, 1) := by decide +kernel
abbrev rmX6_says : Room := { frames := 0, cells := 0, slots := 0, locals := 0 }
theorem ywX6_says : fY yX6_says "EqualCourt$Steps" cX6_says 4 (some .boolean) 3 := ⟨tw_820, tw_821, tw_10, tw_822, by decide +kernel⟩
set_option maxHeartbeats 4000000 in
set_option maxRecDepth 100000 in
theorem cX6_says_ok {D : va_G} {ad : Nat → Nat} {cy cz : ClassId} {l : Launch} {z : fS} {v1 : Int32} {v2 : Int32} {v3 : Int32} {r : Int32} (h : fX6_says z v1 v2 v3 = some r) : fMi D 76 ad (cfX ad cy cz) cy cz l yX6_says cX6_says 4 (some .boolean) rmX6_says [.ref (ad 63), .int v1, .int v2, .int v3] z r z := by
  refine f_bodyz (by decide) (Nat.le_of_ble_eq_true rfl) (fun p e s m args below meth c Q hC hret ls hl hI => ?_)
  have hx := hC.1
  have hb := hC.2.1
  have hl : lv_has ls 4 [(0, .ref (ad 63)), (1, .int v1), (2, .int v2), (3, .int v3)] := hl
  unfold fX6_says at h
  refine lv_iload_n hx hb dX6_says_0 rfl (lv_at hl 1 rfl) ?_
  refine lv_if_lt (tgt := 36) hx hb dX6_says_1 (by decide) (fun c1 => ?_) (fun c1 => ?_)
  · replace h := if_t h c1
    refine lv_iconst (v := 0) hx hb dX6_says_36 (by decide) ?_
    exact hret (ret_p _ h) (by decide) dX6_says_37 hI
  · replace h := if_f h c1
    refine lv_iload_n hx hb dX6_says_4 rfl (lv_at hl 1 rfl) ?_
    refine lv_aload_n hx hb dX6_says_5 rfl (lv_at hl 0 rfl) ?_
    refine gX6_count hC hI tw_261 dX6_says_6 ?_
    refine lv_icmp_ge (tgt := 36) hx hb dX6_says_9 (by decide) (fun c9 => ?_) (fun c9 => ?_)
    · replace h := if_t h c9
      refine lv_iconst (v := 0) hx hb dX6_says_36 (by decide) ?_
      exact hret (ret_p _ h) (by decide) dX6_says_37 hI
    · replace h := if_f h c9
      refine lv_aload_n hx hb dX6_says_12 rfl (lv_at hl 0 rfl) ?_
      refine gX6_lefts hC hI tw_257 dX6_says_13 ?_
      refine lv_iload_n hx hb dX6_says_16 rfl (lv_at hl 1 rfl) ?_
      have g17 := (gd_at h).1
      replace h := (gd_at h).2
      refine r_iald hC hI aX_65 g17 dX6_says_17 ?_
      refine lv_iload_n hx hb dX6_says_18 rfl (lv_at hl 2 rfl) ?_
      refine lv_icmp_ne (tgt := 36) hx hb dX6_says_19 (by decide) (fun c19 => ?_) (fun c19 => ?_)
      · replace h := if_f h c19
        refine lv_iconst (v := 0) hx hb dX6_says_36 (by decide) ?_
        exact hret (ret_p _ h) (by decide) dX6_says_37 hI
      · replace h := if_t h c19
        refine lv_aload_n hx hb dX6_says_22 rfl (lv_at hl 0 rfl) ?_
        refine gX6_rights hC hI tw_258 dX6_says_23 ?_
        refine lv_iload_n hx hb dX6_says_26 rfl (lv_at hl 1 rfl) ?_
        have g27 := (gd_at h).1
        replace h := (gd_at h).2
        refine r_iald hC hI aX_66 g27 dX6_says_27 ?_
        refine lv_iload_n hx hb dX6_says_28 rfl (lv_at hl 3 rfl) ?_
        refine lv_icmp_ne (tgt := 36) hx hb dX6_says_29 (by decide) (fun c29 => ?_) (fun c29 => ?_)
        · replace h := if_f h c29
          refine lv_iconst (v := 0) hx hb dX6_says_36 (by decide) ?_
          exact hret (ret_p _ h) (by decide) dX6_says_37 hI
        · replace h := if_t h c29
          refine lv_iconst (v := 1) hx hb dX6_says_32 (by decide) ?_
          refine lv_goto (tgt := 37) hx hb dX6_says_33 (by decide) ?_
          exact hret (ret_p _ h) (by decide) dX6_says_37 hI
theorem dX6_isSaid_0 : decode cX6_isSaid 0 = .ok (.aload_n 0, 1) := by decide +kernel
theorem dX6_isSaid_1 : decode cX6_isSaid 1 = .ok (.getfield 31, 3) := by decide +kernel
theorem dX6_isSaid_4 : decode cX6_isSaid 4 = .ok (.iload_n 1, 1) := by decide +kernel
theorem dX6_isSaid_5 : decode cX6_isSaid 5 = .ok (.invokevirtual 56, 3) := by decide +kernel
theorem dX6_isSaid_8 : decode cX6_isSaid 8 = .ok (.ifCond .eq 25, 3) := by decide +kernel
theorem dX6_isSaid_11 : decode cX6_isSaid 11 = .ok (.aload_n 0, 1) := by decide +kernel
theorem dX6_isSaid_12 : decode cX6_isSaid 12 = .ok (.getfield 31, 3) := by decide +kernel
theorem dX6_isSaid_15 : decode cX6_isSaid 15 = .ok (.iload_n 1, 1) := by decide +kernel
theorem dX6_isSaid_16 : decode cX6_isSaid 16 = .ok (.invokevirtual 62, 3) := by decide +kernel
theorem dX6_isSaid_19 : decode cX6_isSaid 19 = .ok (.ifCond .eq 14, 3) := by decide +kernel
theorem dX6_isSaid_22 : decode cX6_isSaid 22 = .ok (.aload_n 0, 1) := by decide +kernel
theorem dX6_isSaid_23 : decode cX6_isSaid 23 = .ok (.getfield 31, 3) := by decide +kernel
theorem dX6_isSaid_26 : decode cX6_isSaid 26 = .ok (.iload_n 1, 1) := by decide +kernel
theorem dX6_isSaid_27 : decode cX6_isSaid 27 = .ok (.invokevirtual 65, 3) := by decide +kernel
theorem dX6_isSaid_30 : decode cX6_isSaid 30 = .ok (.ifCond .ne 5, 3) := by decide +kernel
theorem dX6_isSaid_33 : decode cX6_isSaid 33 = .ok (.iconst 0, 1) := by decide +kernel
theorem dX6_isSaid_34 : decode cX6_isSaid 34 = .ok (.ireturn, 1) := by decide +kernel
theorem dX6_isSaid_35 : decode cX6_isSaid 35 = .ok (.aload_n 0, 1) := by decide +kernel
theorem dX6_isSaid_36 : decode cX6_isSaid 36 = .ok (.getfield 31, 3) := by decide +kernel
theorem dX6_isSaid_39 : decode cX6_isSaid 39 = .ok (.iload_n 1, 1) := by decide +kernel
theorem dX6_isSaid_40 : decode cX6_isSaid 40 = .ok (.invokevirtual 68, 3) := by decide +kernel
theorem dX6_isSaid_43 : decode cX6_isSaid 43 = .ok (.istore 4, 2) := by decide +kernel
theorem dX6_isSaid_45 : decode cX6_isSaid 45 = .ok (.aload_n 0, 1) := by decide +kernel
theorem dX6_isSaid_46 : decode cX6_isSaid 46 = .ok (.getfield 31, 3) := by decide +kernel
theorem dX6_isSaid_49 : decode cX6_isSaid 49 = .ok (.iload_n 1, 1) := by decide +kernel
theorem dX6_isSaid_50 : decode cX6_isSaid 50 = .ok (.invokevirtual 72, 3) := by decide +kernel
theorem dX6_isSaid_53 : decode cX6_isSaid 53 = .ok (.istore 5, 2) := by decide +kernel
theorem dX6_isSaid_55 : decode cX6_isSaid 55 = .ok (.iload 4, 2) := by decide +kernel
theorem dX6_isSaid_57 : decode cX6_isSaid 57 = .ok (.iload_n 2, 1) := by decide +kernel
theorem dX6_isSaid_58 : decode cX6_isSaid 58 = .ok (.if_icmp .ne 9, 3) := by decide +kernel
theorem dX6_isSaid_61 : decode cX6_isSaid 61 = .ok (.iload 5, 2) := by decide +kernel
theorem dX6_isSaid_63 : decode cX6_isSaid 63 = .ok (.iload_n 3, 1) := by decide +kernel
theorem dX6_isSaid_64 : decode cX6_isSaid 64 = .ok (.if_icmp .eq 15, 3) := by decide +kernel
theorem dX6_isSaid_67 : decode cX6_isSaid 67 = .ok (.iload 4, 2) := by decide +kernel
theorem dX6_isSaid_69 : decode cX6_isSaid 69 = .ok (.iload_n 3, 1) := by decide +kernel
theorem dX6_isSaid_70 : decode cX6_isSaid 70 = .ok (.if_icmp .ne 13, 3) := by decide +kernel
theorem dX6_isSaid_73 : decode cX6_isSaid 73 = .ok (.iload 5, 2) := by decide +kernel
theorem dX6_isSaid_75 : decode cX6_isSaid 75 = .ok (.iload_n 2, 1) := by decide +kernel
theorem dX6_isSaid_76 : decode cX6_isSaid 76 = .ok (.if_icmp .ne 7, 3) := by decide +kernel
theorem dX6_isSaid_79 : decode cX6_isSaid 79 = .ok (.iconst 1, 1) := by decide +kernel
theorem dX6_isSaid_80 : decode cX6_isSaid 80 = .ok (.goto 4, 3) := by decide +kernel
theorem dX6_isSaid_83 : decode cX6_isSaid 83 = .ok (.iconst 0, 1) := by decide +kernel
theorem dX6_isSaid_84 : decode cX6_isSaid 84 = .ok (.ireturn, 1) := by decide +kernel
abbrev rmX6_isSaid : Room := { frames := 1, cells := 0, slots := 0, locals := 21 }
theorem ywX6_isSaid : fY yX6_isSaid "EqualCourt$Steps" cX6_isSaid 6 (some .boolean) 3 := ⟨tw_812, tp_22, tw_10, tw_813, by decide +kernel⟩
set_option maxHeartbeats 4000000 in
set_option maxRecDepth 100000 in
theorem cX6_isSaid_ok {D : va_G} {ad : Nat → Nat} {cy cz : ClassId} {l : Launch} {z : fS} {v1 : Int32} {v2 : Int32} {v3 : Int32} {r : Int32} (h : fX6_isSaid z v1 v2 v3 = some r) : fMi D 76 ad (cfX ad cy cz) cy cz l yX6_isSaid cX6_isSaid 6 (some .boolean) rmX6_isSaid [.ref (ad 63), .int v1, .int v2, .int v3] z r z := by
  refine f_bodyz (by decide) (Nat.le_of_ble_eq_true rfl) (fun p e s m args below meth c Q hC hret ls hl hI => ?_)
  have hx := hC.1
  have hb := hC.2.1
  have hl : lv_has ls 6 [(0, .ref (ad 63)), (1, .int v1), (2, .int v2), (3, .int v3)] := hl
  unfold fX6_isSaid at h
  have w67 : ∀ (v2 : Int32) (v3 : Int32) (v4 : Int32) (v5 : Int32) (H : Heap) (locs : List Loc) (ls : Array Slot), fI D 76 ad (cfX ad cy cz) z s H locs → lv_has ls 6 [(2, .int v2), (3, .int v3), (4, .int v4), (5, .int v5)] → jX6_isSaid_67   z v2 v3 v4 v5 = some r → W p l e rmX6_isSaid s m args below meth c H locs 0 0 Q (F0 m 67 ls []) := by
    intro v2 v3 v4 v5 H locs ls hI hl h
    unfold jX6_isSaid_67 at h
    refine lv_iload hx hb dX6_isSaid_67 (lv_at hl 2 rfl) ?_
    refine lv_iload_n hx hb dX6_isSaid_69 rfl (lv_at hl 1 rfl) ?_
    refine lv_icmp_ne (tgt := 83) hx hb dX6_isSaid_70 (by decide) (fun c70 => ?_) (fun c70 => ?_)
    · replace h := if_f h c70
      refine lv_iconst (v := 0) hx hb dX6_isSaid_83 (by decide) ?_
      exact hret (ret_p _ h) (by decide) dX6_isSaid_84 hI
    · replace h := if_t h c70
      refine lv_iload hx hb dX6_isSaid_73 (lv_at hl 3 rfl) ?_
      refine lv_iload_n hx hb dX6_isSaid_75 rfl (lv_at hl 0 rfl) ?_
      refine lv_icmp_ne (tgt := 83) hx hb dX6_isSaid_76 (by decide) (fun c76 => ?_) (fun c76 => ?_)
      · replace h := if_f h c76
        refine lv_iconst (v := 0) hx hb dX6_isSaid_83 (by decide) ?_
        exact hret (ret_p _ h) (by decide) dX6_isSaid_84 hI
      · replace h := if_t h c76
        refine lv_iconst (v := 1) hx hb dX6_isSaid_79 (by decide) ?_
        refine lv_goto (tgt := 84) hx hb dX6_isSaid_80 (by decide) ?_
        exact hret (ret_p _ h) (by decide) dX6_isSaid_84 hI
  refine lv_aload_n hx hb dX6_isSaid_0 rfl (lv_at hl 0 rfl) ?_
  refine gX6_sayings hC hI tw_255 dX6_isSaid_1 ?_
  refine lv_iload_n hx hb dX6_isSaid_4 rfl (lv_at hl 1 rfl) ?_
  replace h := bp_at h
  obtain ⟨r5, e5, h⟩ := h
  refine r_calli (rest := []) hC hI oX_11 (C := "EqualCourt$Sayings") rfl ywX5_has tw_814 (cX5_has_ok  e5) ⟨Nat.le_of_ble_eq_true rfl, Nat.le_of_ble_eq_true rfl⟩ ⟨rfl, rfl⟩ rfl hl.1 rfl (Nat.le_of_ble_eq_true rfl) dX6_isSaid_5 (fun H locs hI => ?_)
  refine lv_if_eq (tgt := 33) hx hb dX6_isSaid_8 (by decide) (fun c8 => ?_) (fun c8 => ?_)
  · replace h := if_t h c8
    refine lv_iconst (v := 0) hx hb dX6_isSaid_33 (by decide) ?_
    exact hret (ret_p _ h) (by decide) dX6_isSaid_34 hI
  · replace h := if_f h c8
    refine lv_aload_n hx hb dX6_isSaid_11 rfl (lv_at hl 0 rfl) ?_
    refine gX6_sayings hC hI tw_255 dX6_isSaid_12 ?_
    refine lv_iload_n hx hb dX6_isSaid_15 rfl (lv_at hl 1 rfl) ?_
    replace h := bp_at h
    obtain ⟨r16, e16, h⟩ := h
    refine r_calli (rest := []) hC hI oX_11 (C := "EqualCourt$Sayings") rfl ywX5_isTaken tw_815 (cX5_isTaken_ok  e16) ⟨Nat.le_of_ble_eq_true rfl, Nat.le_of_ble_eq_true rfl⟩ ⟨rfl, rfl⟩ rfl hl.1 rfl (Nat.le_of_ble_eq_true rfl) dX6_isSaid_16 (fun H locs hI => ?_)
    refine lv_if_eq (tgt := 33) hx hb dX6_isSaid_19 (by decide) (fun c19 => ?_) (fun c19 => ?_)
    · replace h := if_t h c19
      refine lv_iconst (v := 0) hx hb dX6_isSaid_33 (by decide) ?_
      exact hret (ret_p _ h) (by decide) dX6_isSaid_34 hI
    · replace h := if_f h c19
      refine lv_aload_n hx hb dX6_isSaid_22 rfl (lv_at hl 0 rfl) ?_
      refine gX6_sayings hC hI tw_255 dX6_isSaid_23 ?_
      refine lv_iload_n hx hb dX6_isSaid_26 rfl (lv_at hl 1 rfl) ?_
      replace h := bp_at h
      obtain ⟨r27, e27, h⟩ := h
      refine r_calli (rest := []) hC hI oX_11 (C := "EqualCourt$Sayings") rfl ywX5_isSame tw_816 (cX5_isSame_ok  e27) ⟨Nat.le_of_ble_eq_true rfl, Nat.le_of_ble_eq_true rfl⟩ ⟨rfl, rfl⟩ rfl hl.1 rfl (Nat.le_of_ble_eq_true rfl) dX6_isSaid_27 (fun H locs hI => ?_)
      refine lv_if_ne (tgt := 35) hx hb dX6_isSaid_30 (by decide) (fun c30 => ?_) (fun c30 => ?_)
      · replace h := if_f h c30
        refine lv_aload_n hx hb dX6_isSaid_35 rfl (lv_at hl 0 rfl) ?_
        refine gX6_sayings hC hI tw_255 dX6_isSaid_36 ?_
        refine lv_iload_n hx hb dX6_isSaid_39 rfl (lv_at hl 1 rfl) ?_
        replace h := bp_at h
        obtain ⟨r40, e40, h⟩ := h
        refine r_calli (rest := []) hC hI oX_11 (C := "EqualCourt$Sayings") rfl ywX5_left tw_817 (cX5_left_ok  e40) ⟨Nat.le_of_ble_eq_true rfl, Nat.le_of_ble_eq_true rfl⟩ ⟨rfl, rfl⟩ rfl hl.1 rfl (Nat.le_of_ble_eq_true rfl) dX6_isSaid_40 (fun H locs hI => ?_)
        refine lv_istore (lv' := [(4, .int r40), (0, .ref (ad 63)), (1, .int v1), (2, .int v2), (3, .int v3)]) hx hb dX6_isSaid_43 hl (by decide) rfl (fun ls hl => ?_)
        refine lv_aload_n hx hb dX6_isSaid_45 rfl (lv_at hl 1 rfl) ?_
        refine gX6_sayings hC hI tw_255 dX6_isSaid_46 ?_
        refine lv_iload_n hx hb dX6_isSaid_49 rfl (lv_at hl 2 rfl) ?_
        replace h := bp_at h
        obtain ⟨r50, e50, h⟩ := h
        refine r_calli (rest := []) hC hI oX_11 (C := "EqualCourt$Sayings") rfl ywX5_right tw_818 (cX5_right_ok  e50) ⟨Nat.le_of_ble_eq_true rfl, Nat.le_of_ble_eq_true rfl⟩ ⟨rfl, rfl⟩ rfl hl.1 rfl (Nat.le_of_ble_eq_true rfl) dX6_isSaid_50 (fun H locs hI => ?_)
        refine lv_istore (lv' := [(5, .int r50), (4, .int r40), (0, .ref (ad 63)), (1, .int v1), (2, .int v2), (3, .int v3)]) hx hb dX6_isSaid_53 hl (by decide) rfl (fun ls hl => ?_)
        refine lv_iload hx hb dX6_isSaid_55 (lv_at hl 1 rfl) ?_
        refine lv_iload_n hx hb dX6_isSaid_57 rfl (lv_at hl 4 rfl) ?_
        refine lv_icmp_ne (tgt := 67) hx hb dX6_isSaid_58 (by decide) (fun c58 => ?_) (fun c58 => ?_)
        · replace h := if_f h c58
          exact w67 v2 v3 r40 r50 _ _ _ hI (lv_sub hl [4, 5, 1, 0] rfl) h
        · replace h := if_t h c58
          refine lv_iload hx hb dX6_isSaid_61 (lv_at hl 0 rfl) ?_
          refine lv_iload_n hx hb dX6_isSaid_63 rfl (lv_at hl 5 rfl) ?_
          refine lv_icmp_eq (tgt := 79) hx hb dX6_isSaid_64 (by decide) (fun c64 => ?_) (fun c64 => ?_)
          · replace h := if_t h c64
            refine lv_iconst (v := 1) hx hb dX6_isSaid_79 (by decide) ?_
            refine lv_goto (tgt := 84) hx hb dX6_isSaid_80 (by decide) ?_
            exact hret (ret_p _ h) (by decide) dX6_isSaid_84 hI
          · replace h := if_f h c64
            exact w67 v2 v3 r40 r50 _ _ _ hI (lv_sub hl [4, 5, 1, 0] rfl) h
      · replace h := if_t h c30
        refine lv_iconst (v := 0) hx hb dX6_isSaid_33 (by decide) ?_
        exact hret (ret_p _ h) (by decide) dX6_isSaid_34 hI
theorem dX6_isChained_0 : decode cX6_isChained 0 = .ok (.iload_n 2, 1) := by decide +kernel
theorem dX6_isChained_1 : decode cX6_isChained 1 = .ok (.ifCond .lt 17, 3) := by decide +kernel
theorem dX6_isChained_4 : decode cX6_isChained 4 = .ok (.iload_n 2, 1) := by decide +kernel
theorem dX6_isChained_5 : decode cX6_isChained 5 = .ok (.iload_n 1, 1) := by decide +kernel
theorem dX6_isChained_6 : decode cX6_isChained 6 = .ok (.if_icmp .ge 12, 3) := by decide +kernel
theorem dX6_isChained_9 : decode cX6_isChained 9 = .ok (.iload_n 3, 1) := by decide +kernel
theorem dX6_isChained_10 : decode cX6_isChained 10 = .ok (.ifCond .lt 8, 3) := by decide +kernel
theorem dX6_isChained_13 : decode cX6_isChained 13 = .ok (.iload_n 3, 1) := by decide +kernel
theorem dX6_isChained_14 : decode cX6_isChained 14 = .ok (.iload_n 1, 1) := by decide +kernel
theorem dX6_isChained_15 : decode cX6_isChained 15 = .ok (.if_icmp .lt 5, 3) := by decide +kernel
theorem dX6_isChained_18 : decode cX6_isChained 18 = .ok (.iconst 0, 1) := by decide +kernel
theorem dX6_isChained_19 : decode cX6_isChained 19 = .ok (.ireturn, 1) := by decide +kernel
theorem dX6_isChained_20 : decode cX6_isChained 20 = .ok (.aload_n 0, 1) := by decide +kernel
theorem dX6_isChained_21 : decode cX6_isChained 21 = .ok (.getfield 15, 3) := by decide +kernel
theorem dX6_isChained_24 : decode cX6_isChained 24 = .ok (.iload_n 2, 1) := by decide +kernel
theorem dX6_isChained_25 : decode cX6_isChained 25 = .ok (.iaload, 1) := by decide +kernel
theorem dX6_isChained_26 : decode cX6_isChained 26 = .ok (.aload_n 0, 1) := by decide +kernel
theorem dX6_isChained_27 : decode cX6_isChained 27 = .ok (.getfield 15, 3) := by decide +kernel
theorem dX6_isChained_30 : decode cX6_isChained 30 = .ok (.iload_n 1, 1) := by decide +kernel
theorem dX6_isChained_31 : decode cX6_isChained 31 = .ok (.iaload, 1) := by decide +kernel
theorem dX6_isChained_32 : decode cX6_isChained 32 = .ok (.if_icmp .ne 37, 3) := by decide +kernel
theorem dX6_isChained_35 : decode cX6_isChained 35 = .ok (.aload_n 0, 1) := by decide +kernel
theorem dX6_isChained_36 : decode cX6_isChained 36 = .ok (.getfield 18, 3) := by decide +kernel
theorem dX6_isChained_39 : decode cX6_isChained 39 = .ok (.iload_n 2, 1) := by decide +kernel
theorem dX6_isChained_40 : decode cX6_isChained 40 = .ok (.iaload, 1) := by decide +kernel
theorem dX6_isChained_41 : decode cX6_isChained 41 = .ok (.aload_n 0, 1) := by decide +kernel
theorem dX6_isChained_42 : decode cX6_isChained 42 = .ok (.getfield 15, 3) := by decide +kernel
theorem dX6_isChained_45 : decode cX6_isChained 45 = .ok (.iload_n 3, 1) := by decide +kernel
theorem dX6_isChained_46 : decode cX6_isChained 46 = .ok (.iaload, 1) := by decide +kernel
theorem dX6_isChained_47 : decode cX6_isChained 47 = .ok (.if_icmp .ne 22, 3) := by decide +kernel
theorem dX6_isChained_50 : decode cX6_isChained 50 = .ok (.aload_n 0, 1) := by decide +kernel
theorem dX6_isChained_51 : decode cX6_isChained 51 = .ok (.getfield 18, 3) := by decide +kernel
theorem dX6_isChained_54 : decode cX6_isChained 54 = .ok (.iload_n 3, 1) := by decide +kernel
theorem dX6_isChained_55 : decode cX6_isChained 55 = .ok (.iaload, 1) := by decide +kernel
theorem dX6_isChained_56 : decode cX6_isChained 56 = .ok (.aload_n 0, 1) := by decide +kernel
theorem dX6_isChained_57 : decode cX6_isChained 57 = .ok (.getfield 18, 3) := by decide +kernel
theorem dX6_isChained_60 : decode cX6_isChained 60 = .ok (.iload_n 1, 1) := by decide +kernel
theorem dX6_isChained_61 : decode cX6_isChained 61 = .ok (.iaload, 1) := by decide +kernel
theorem dX6_isChained_62 : decode cX6_isChained 62 = .ok (.if_icmp .ne 7, 3) := by decide +kernel
theorem dX6_isChained_65 : decode cX6_isChained 65 = .ok (.iconst 1, 1) := by decide +kernel
theorem dX6_isChained_66 : decode cX6_isChained 66 = .ok (.goto 4, 3) := by decide +kernel
theorem dX6_isChained_69 : decode cX6_isChained 69 = .ok (.iconst 0, 1) := by decide +kernel
theorem dX6_isChained_70 : decode cX6_isChained 70 = .ok (.ireturn, 1) := by decide +kernel
abbrev rmX6_isChained : Room := { frames := 0, cells := 0, slots := 0, locals := 0 }
theorem ywX6_isChained : fY yX6_isChained "EqualCourt$Steps" cX6_isChained 4 (some .boolean) 3 := ⟨tw_825, tp_23, tw_10, tw_826, by decide +kernel⟩
set_option maxHeartbeats 4000000 in
set_option maxRecDepth 100000 in
theorem cX6_isChained_ok {D : va_G} {ad : Nat → Nat} {cy cz : ClassId} {l : Launch} {z : fS} {v1 : Int32} {v2 : Int32} {v3 : Int32} {r : Int32} (h : fX6_isChained z v1 v2 v3 = some r) : fMi D 76 ad (cfX ad cy cz) cy cz l yX6_isChained cX6_isChained 4 (some .boolean) rmX6_isChained [.ref (ad 63), .int v1, .int v2, .int v3] z r z := by
  refine f_bodyz (by decide) (Nat.le_of_ble_eq_true rfl) (fun p e s m args below meth c Q hC hret ls hl hI => ?_)
  have hx := hC.1
  have hb := hC.2.1
  have hl : lv_has ls 4 [(0, .ref (ad 63)), (1, .int v1), (2, .int v2), (3, .int v3)] := hl
  unfold fX6_isChained at h
  refine lv_iload_n hx hb dX6_isChained_0 rfl (lv_at hl 2 rfl) ?_
  refine lv_if_lt (tgt := 18) hx hb dX6_isChained_1 (by decide) (fun c1 => ?_) (fun c1 => ?_)
  · replace h := if_t h c1
    refine lv_iconst (v := 0) hx hb dX6_isChained_18 (by decide) ?_
    exact hret (ret_p _ h) (by decide) dX6_isChained_19 hI
  · replace h := if_f h c1
    refine lv_iload_n hx hb dX6_isChained_4 rfl (lv_at hl 2 rfl) ?_
    refine lv_iload_n hx hb dX6_isChained_5 rfl (lv_at hl 1 rfl) ?_
    refine lv_icmp_ge (tgt := 18) hx hb dX6_isChained_6 (by decide) (fun c6 => ?_) (fun c6 => ?_)
    · replace h := if_t h c6
      refine lv_iconst (v := 0) hx hb dX6_isChained_18 (by decide) ?_
      exact hret (ret_p _ h) (by decide) dX6_isChained_19 hI
    · replace h := if_f h c6
      refine lv_iload_n hx hb dX6_isChained_9 rfl (lv_at hl 3 rfl) ?_
      refine lv_if_lt (tgt := 18) hx hb dX6_isChained_10 (by decide) (fun c10 => ?_) (fun c10 => ?_)
      · replace h := if_t h c10
        refine lv_iconst (v := 0) hx hb dX6_isChained_18 (by decide) ?_
        exact hret (ret_p _ h) (by decide) dX6_isChained_19 hI
      · replace h := if_f h c10
        refine lv_iload_n hx hb dX6_isChained_13 rfl (lv_at hl 3 rfl) ?_
        refine lv_iload_n hx hb dX6_isChained_14 rfl (lv_at hl 1 rfl) ?_
        refine lv_icmp_lt (tgt := 20) hx hb dX6_isChained_15 (by decide) (fun c15 => ?_) (fun c15 => ?_)
        · replace h := if_t h c15
          refine lv_aload_n hx hb dX6_isChained_20 rfl (lv_at hl 0 rfl) ?_
          refine gX6_lefts hC hI tw_257 dX6_isChained_21 ?_
          refine lv_iload_n hx hb dX6_isChained_24 rfl (lv_at hl 2 rfl) ?_
          have g25 := (gd_at h).1
          replace h := (gd_at h).2
          refine r_iald hC hI aX_65 g25 dX6_isChained_25 ?_
          refine lv_aload_n hx hb dX6_isChained_26 rfl (lv_at hl 0 rfl) ?_
          refine gX6_lefts hC hI tw_257 dX6_isChained_27 ?_
          refine lv_iload_n hx hb dX6_isChained_30 rfl (lv_at hl 1 rfl) ?_
          have g31 := (gd_at h).1
          replace h := (gd_at h).2
          refine r_iald hC hI aX_65 g31 dX6_isChained_31 ?_
          refine lv_icmp_ne (tgt := 69) hx hb dX6_isChained_32 (by decide) (fun c32 => ?_) (fun c32 => ?_)
          · replace h := if_f h c32
            refine lv_iconst (v := 0) hx hb dX6_isChained_69 (by decide) ?_
            exact hret (ret_p _ h) (by decide) dX6_isChained_70 hI
          · replace h := if_t h c32
            refine lv_aload_n hx hb dX6_isChained_35 rfl (lv_at hl 0 rfl) ?_
            refine gX6_rights hC hI tw_258 dX6_isChained_36 ?_
            refine lv_iload_n hx hb dX6_isChained_39 rfl (lv_at hl 2 rfl) ?_
            have g40 := (gd_at h).1
            replace h := (gd_at h).2
            refine r_iald hC hI aX_66 g40 dX6_isChained_40 ?_
            refine lv_aload_n hx hb dX6_isChained_41 rfl (lv_at hl 0 rfl) ?_
            refine gX6_lefts hC hI tw_257 dX6_isChained_42 ?_
            refine lv_iload_n hx hb dX6_isChained_45 rfl (lv_at hl 3 rfl) ?_
            have g46 := (gd_at h).1
            replace h := (gd_at h).2
            refine r_iald hC hI aX_65 g46 dX6_isChained_46 ?_
            refine lv_icmp_ne (tgt := 69) hx hb dX6_isChained_47 (by decide) (fun c47 => ?_) (fun c47 => ?_)
            · replace h := if_f h c47
              refine lv_iconst (v := 0) hx hb dX6_isChained_69 (by decide) ?_
              exact hret (ret_p _ h) (by decide) dX6_isChained_70 hI
            · replace h := if_t h c47
              refine lv_aload_n hx hb dX6_isChained_50 rfl (lv_at hl 0 rfl) ?_
              refine gX6_rights hC hI tw_258 dX6_isChained_51 ?_
              refine lv_iload_n hx hb dX6_isChained_54 rfl (lv_at hl 3 rfl) ?_
              have g55 := (gd_at h).1
              replace h := (gd_at h).2
              refine r_iald hC hI aX_66 g55 dX6_isChained_55 ?_
              refine lv_aload_n hx hb dX6_isChained_56 rfl (lv_at hl 0 rfl) ?_
              refine gX6_rights hC hI tw_258 dX6_isChained_57 ?_
              refine lv_iload_n hx hb dX6_isChained_60 rfl (lv_at hl 1 rfl) ?_
              have g61 := (gd_at h).1
              replace h := (gd_at h).2
              refine r_iald hC hI aX_66 g61 dX6_isChained_61 ?_
              refine lv_icmp_ne (tgt := 69) hx hb dX6_isChained_62 (by decide) (fun c62 => ?_) (fun c62 => ?_)
              · replace h := if_f h c62
                refine lv_iconst (v := 0) hx hb dX6_isChained_69 (by decide) ?_
                exact hret (ret_p _ h) (by decide) dX6_isChained_70 hI
              · replace h := if_t h c62
                refine lv_iconst (v := 1) hx hb dX6_isChained_65 (by decide) ?_
                refine lv_goto (tgt := 70) hx hb dX6_isChained_66 (by decide) ?_
                exact hret (ret_p _ h) (by decide) dX6_isChained_70 hI
        · replace h := if_f h c15
          refine lv_iconst (v := 0) hx hb dX6_isChained_18 (by decide) ?_
          exact hret (ret_p _ h) (by decide) dX6_isChained_19 hI
theorem dX6_isSameBefore_0 : decode cX6_isSameBefore 0 = .ok (.iload_n 2, 1) := by decide +kernel
theorem dX6_isSameBefore_1 : decode cX6_isSameBefore 1 = .ok (.iload_n 3, 1) := by decide +kernel
theorem dX6_isSameBefore_2 : decode cX6_isSameBefore 2 = .ok (.if_icmp .ne 5, 3) := by decide +kernel
theorem dX6_isSameBefore_5 : decode cX6_isSameBefore 5 = .ok (.iconst 1, 1) := by decide +kernel
theorem dX6_isSameBefore_6 : decode cX6_isSameBefore 6 = .ok (.ireturn, 1) := by decide +kernel
theorem dX6_isSameBefore_7 : decode cX6_isSameBefore 7 = .ok (.iconst 0, 1) := by decide +kernel
theorem dX6_isSameBefore_8 : decode cX6_isSameBefore 8 = .ok (.istore 4, 2) := by decide +kernel
theorem dX6_isSameBefore_10 : decode cX6_isSameBefore 10 = .ok (.iload 4, 2) := by decide +kernel
theorem dX6_isSameBefore_12 : decode cX6_isSameBefore 12 = .ok (.iload_n 1, 1) := by decide +kernel
theorem dX6_isSameBefore_13 : decode cX6_isSameBefore 13 = .ok (.if_icmp .ge 22, 3) := by decide +kernel
theorem dX6_isSameBefore_16 : decode cX6_isSameBefore 16 = .ok (.aload_n 0, 1) := by decide +kernel
theorem dX6_isSameBefore_17 : decode cX6_isSameBefore 17 = .ok (.iload 4, 2) := by decide +kernel
theorem dX6_isSameBefore_19 : decode cX6_isSameBefore 19 = .ok (.iload_n 2, 1) := by decide +kernel
theorem dX6_isSameBefore_20 : decode cX6_isSameBefore 20 = .ok (.iload_n 3, 1) := by decide +kernel
theorem dX6_isSameBefore_21 : decode cX6_isSameBefore 21 = .ok (.invokevirtual 43, 3) := by decide +kernel
theorem dX6_isSameBefore_24 : decode cX6_isSameBefore 24 = .ok (.ifCond .eq 5, 3) := by decide +kernel
theorem dX6_isSameBefore_27 : decode cX6_isSameBefore 27 = .ok (.iconst 1, 1) := by decide +kernel
theorem dX6_isSameBefore_28 : decode cX6_isSameBefore 28 = .ok (.ireturn, 1) := by decide +kernel
theorem dX6_isSameBefore_29 : decode cX6_isSameBefore 29 = .ok (.iinc 4 1, 3) := by decide +kernel
theorem dX6_isSameBefore_32 : decode cX6_isSameBefore 32 = .ok (.goto (-22), 3) := by decide +kernel
theorem dX6_isSameBefore_35 : decode cX6_isSameBefore 35 = .ok (.iconst 0, 1) := by decide +kernel
theorem dX6_isSameBefore_36 : decode cX6_isSameBefore 36 = .ok (.ireturn, 1) := by decide +kernel
abbrev rmX6_isSameBefore : Room := { frames := 1, cells := 0, slots := 0, locals := 23 }
theorem ywX6_isSameBefore : fY yX6_isSameBefore "EqualCourt$Steps" cX6_isSameBefore 5 (some .boolean) 3 := ⟨tw_837, tp_25, tw_10, tw_838, by decide +kernel⟩
set_option maxHeartbeats 4000000 in
set_option maxRecDepth 100000 in
theorem cX6_isSameBefore_ok {D : va_G} {ad : Nat → Nat} {cy cz : ClassId} {l : Launch} {z : fS} {v1 : Int32} {v2 : Int32} {v3 : Int32} {r : Int32} (h : fX6_isSameBefore z v1 v2 v3 = some r) : fMi D 76 ad (cfX ad cy cz) cy cz l yX6_isSameBefore cX6_isSameBefore 5 (some .boolean) rmX6_isSameBefore [.ref (ad 63), .int v1, .int v2, .int v3] z r z := by
  refine f_bodyz (by decide) (Nat.le_of_ble_eq_true rfl) (fun p e s m args below meth c Q hC hret ls hl hI => ?_)
  have hx := hC.1
  have hb := hC.2.1
  have hl : lv_has ls 5 [(0, .ref (ad 63)), (1, .int v1), (2, .int v2), (3, .int v3)] := hl
  unfold fX6_isSameBefore at h
  refine lv_iload_n hx hb dX6_isSameBefore_0 rfl (lv_at hl 2 rfl) ?_
  refine lv_iload_n hx hb dX6_isSameBefore_1 rfl (lv_at hl 3 rfl) ?_
  refine lv_icmp_ne (tgt := 7) hx hb dX6_isSameBefore_2 (by decide) (fun c2 => ?_) (fun c2 => ?_)
  · replace h := if_f h c2
    refine lv_iconst (v := 0) hx hb dX6_isSameBefore_7 (by decide) ?_
    refine lv_istore (lv' := [(4, .int (0 : Int32)), (0, .ref (ad 63)), (1, .int v1), (2, .int v2), (3, .int v3)]) hx hb dX6_isSameBefore_8 hl (by decide) rfl (fun ls hl => ?_)
    have w10 : ∀ (N10 : Nat) (v1 : Int32) (v2 : Int32) (v3 : Int32) (v4 : Int32) (H : Heap) (locs : List Loc) (ls : Array Slot), fI D 76 ad (cfX ad cy cz) z s H locs → lv_has ls 5 [(0, .ref (ad 63)), (1, .int v1), (2, .int v2), (3, .int v3), (4, .int v4)] → lX6_isSameBefore_10   z v1 v2 v3 N10 v4 = some r → W p l e rmX6_isSameBefore s m args below meth c H locs 0 0 Q (F0 m 10 ls []) := by
      intro N10
      induction N10 with
      | zero =>
        intro v1 v2 v3 v4 H locs ls hI hl h
        exact none_no h
      | succ N10 ih10 =>
        intro v1 v2 v3 v4 H locs ls hI hl h
        rw [lX6_isSameBefore_10.eq_2] at h
        refine lv_iload hx hb dX6_isSameBefore_10 (lv_at hl 4 rfl) ?_
        refine lv_iload_n hx hb dX6_isSameBefore_12 rfl (lv_at hl 1 rfl) ?_
        refine lv_icmp_ge (tgt := 35) hx hb dX6_isSameBefore_13 (by decide) (fun c13 => ?_) (fun c13 => ?_)
        · replace h := if_t h c13
          refine lv_iconst (v := 0) hx hb dX6_isSameBefore_35 (by decide) ?_
          exact hret (ret_p _ h) (by decide) dX6_isSameBefore_36 hI
        · replace h := if_f h c13
          refine lv_aload_n hx hb dX6_isSameBefore_16 rfl (lv_at hl 0 rfl) ?_
          refine lv_iload hx hb dX6_isSameBefore_17 (lv_at hl 4 rfl) ?_
          refine lv_iload_n hx hb dX6_isSameBefore_19 rfl (lv_at hl 2 rfl) ?_
          refine lv_iload_n hx hb dX6_isSameBefore_20 rfl (lv_at hl 3 rfl) ?_
          replace h := bp_at h
          obtain ⟨r21, e21, h⟩ := h
          refine r_calli (rest := []) hC hI oX_63 (C := "EqualCourt$Steps") rfl ywX6_says tw_819 (cX6_says_ok  e21) ⟨Nat.le_of_ble_eq_true rfl, Nat.le_of_ble_eq_true rfl⟩ ⟨rfl, rfl⟩ rfl hl.1 rfl (Nat.le_of_ble_eq_true rfl) dX6_isSameBefore_21 (fun H locs hI => ?_)
          refine lv_if_eq (tgt := 29) hx hb dX6_isSameBefore_24 (by decide) (fun c24 => ?_) (fun c24 => ?_)
          · replace h := if_t h c24
            obtain ⟨x29, e29⟩ : ∃ y : Int32, y = (v4 + (1 : Int32)) := ⟨_, rfl⟩
            replace h := bnd_at h e29
            refine lv_iinc (v := x29) (lv' := [(4, .int x29), (0, .ref (ad 63)), (1, .int v1), (2, .int v2), (3, .int v3)]) hx hb dX6_isSameBefore_29 hl (k := 4) rfl (by rw [e29]; rfl) (by decide) rfl (fun ls hl => ?_)
            refine lv_goto (tgt := 10) hx hb dX6_isSameBefore_32 (by decide) ?_
            exact ih10 v1 v2 v3 x29 _ _ _ hI (lv_sub hl [1, 2, 3, 4, 0] rfl) h
          · replace h := if_f h c24
            refine lv_iconst (v := 1) hx hb dX6_isSameBefore_27 (by decide) ?_
            exact hret (ret_p _ h) (by decide) dX6_isSameBefore_28 hI
    exact w10 FU v1 v2 v3 (0 : Int32) _ _ _ hI (lv_sub hl [1, 2, 3, 4, 0] rfl) h
  · replace h := if_t h c2
    refine lv_iconst (v := 1) hx hb dX6_isSameBefore_5 (by decide) ?_
    exact hret (ret_p _ h) (by decide) dX6_isSameBefore_6 hI
theorem dX6_isByParts_0 : decode cX6_isByParts 0 = .ok (.aload_n 0, 1) := by decide +kernel
theorem dX6_isByParts_1 : decode cX6_isByParts 1 = .ok (.getfield 27, 3) := by decide +kernel
theorem dX6_isByParts_4 : decode cX6_isByParts 4 = .ok (.iload_n 2, 1) := by decide +kernel
theorem dX6_isByParts_5 : decode cX6_isByParts 5 = .ok (.invokevirtual 75, 3) := by decide +kernel
theorem dX6_isByParts_8 : decode cX6_isByParts 8 = .ok (.istore 5, 2) := by decide +kernel
theorem dX6_isByParts_10 : decode cX6_isByParts 10 = .ok (.aload_n 0, 1) := by decide +kernel
theorem dX6_isByParts_11 : decode cX6_isByParts 11 = .ok (.getfield 27, 3) := by decide +kernel
theorem dX6_isByParts_14 : decode cX6_isByParts 14 = .ok (.iload_n 2, 1) := by decide +kernel
theorem dX6_isByParts_15 : decode cX6_isByParts 15 = .ok (.invokevirtual 80, 3) := by decide +kernel
theorem dX6_isByParts_18 : decode cX6_isByParts 18 = .ok (.istore 6, 2) := by decide +kernel
theorem dX6_isByParts_20 : decode cX6_isByParts 20 = .ok (.iload 6, 2) := by decide +kernel
theorem dX6_isByParts_22 : decode cX6_isByParts 22 = .ok (.ifCond .eq 48, 3) := by decide +kernel
theorem dX6_isByParts_25 : decode cX6_isByParts 25 = .ok (.iload 5, 2) := by decide +kernel
theorem dX6_isByParts_27 : decode cX6_isByParts 27 = .ok (.aload_n 0, 1) := by decide +kernel
theorem dX6_isByParts_28 : decode cX6_isByParts 28 = .ok (.getfield 27, 3) := by decide +kernel
theorem dX6_isByParts_31 : decode cX6_isByParts 31 = .ok (.iload_n 3, 1) := by decide +kernel
theorem dX6_isByParts_32 : decode cX6_isByParts 32 = .ok (.invokevirtual 75, 3) := by decide +kernel
theorem dX6_isByParts_35 : decode cX6_isByParts 35 = .ok (.if_icmp .ne 35, 3) := by decide +kernel
theorem dX6_isByParts_38 : decode cX6_isByParts 38 = .ok (.iload 6, 2) := by decide +kernel
theorem dX6_isByParts_40 : decode cX6_isByParts 40 = .ok (.aload_n 0, 1) := by decide +kernel
theorem dX6_isByParts_41 : decode cX6_isByParts 41 = .ok (.getfield 27, 3) := by decide +kernel
theorem dX6_isByParts_44 : decode cX6_isByParts 44 = .ok (.iload_n 3, 1) := by decide +kernel
theorem dX6_isByParts_45 : decode cX6_isByParts 45 = .ok (.invokevirtual 80, 3) := by decide +kernel
theorem dX6_isByParts_48 : decode cX6_isByParts 48 = .ok (.if_icmp .ne 22, 3) := by decide +kernel
theorem dX6_isByParts_51 : decode cX6_isByParts 51 = .ok (.aload_n 0, 1) := by decide +kernel
theorem dX6_isByParts_52 : decode cX6_isByParts 52 = .ok (.getfield 27, 3) := by decide +kernel
theorem dX6_isByParts_55 : decode cX6_isByParts 55 = .ok (.iload_n 2, 1) := by decide +kernel
theorem dX6_isByParts_56 : decode cX6_isByParts 56 = .ok (.invokevirtual 83, 3) := by decide +kernel
theorem dX6_isByParts_59 : decode cX6_isByParts 59 = .ok (.aload_n 0, 1) := by decide +kernel
theorem dX6_isByParts_60 : decode cX6_isByParts 60 = .ok (.getfield 27, 3) := by decide +kernel
theorem dX6_isByParts_63 : decode cX6_isByParts 63 = .ok (.iload_n 3, 1) := by decide +kernel
theorem dX6_isByParts_64 : decode cX6_isByParts 64 = .ok (.invokevirtual 83, 3) := by decide +kernel
theorem dX6_isByParts_67 : decode cX6_isByParts 67 = .ok (.if_icmp .eq 5, 3) := by decide +kernel
theorem dX6_isByParts_70 : decode cX6_isByParts 70 = .ok (.iconst 0, 1) := by decide +kernel
theorem dX6_isByParts_71 : decode cX6_isByParts 71 = .ok (.ireturn, 1) := by decide +kernel
theorem dX6_isByParts_72 : decode cX6_isByParts 72 = .ok (.iload 4, 2) := by decide +kernel
theorem dX6_isByParts_74 : decode cX6_isByParts 74 = .ok (.ifCond .eq 13, 3) := by decide +kernel
theorem dX6_isByParts_77 : decode cX6_isByParts 77 = .ok (.iload 5, 2) := by decide +kernel
theorem dX6_isByParts_79 : decode cX6_isByParts 79 = .ok (.iconst 4, 1) := by decide +kernel
theorem dX6_isByParts_80 : decode cX6_isByParts 80 = .ok (.if_icmp .ne 7, 3) := by decide +kernel
theorem dX6_isByParts_83 : decode cX6_isByParts 83 = .ok (.iconst 1, 1) := by decide +kernel
theorem dX6_isByParts_84 : decode cX6_isByParts 84 = .ok (.goto 4, 3) := by decide +kernel
theorem dX6_isByParts_87 : decode cX6_isByParts 87 = .ok (.iconst 0, 1) := by decide +kernel
theorem dX6_isByParts_88 : decode cX6_isByParts 88 = .ok (.istore 7, 2) := by decide +kernel
theorem dX6_isByParts_90 : decode cX6_isByParts 90 = .ok (.iconst 0, 1) := by decide +kernel
theorem dX6_isByParts_91 : decode cX6_isByParts 91 = .ok (.istore 8, 2) := by decide +kernel
theorem dX6_isByParts_93 : decode cX6_isByParts 93 = .ok (.iload 8, 2) := by decide +kernel
theorem dX6_isByParts_95 : decode cX6_isByParts 95 = .ok (.iload 6, 2) := by decide +kernel
theorem dX6_isByParts_97 : decode cX6_isByParts 97 = .ok (.if_icmp .ge 55, 3) := by decide +kernel
theorem dX6_isByParts_100 : decode cX6_isByParts 100 = .ok (.iload 7, 2) := by decide +kernel
theorem dX6_isByParts_102 : decode cX6_isByParts 102 = .ok (.ifCond .eq 10, 3) := by decide +kernel
theorem dX6_isByParts_105 : decode cX6_isByParts 105 = .ok (.iconst 1, 1) := by decide +kernel
theorem dX6_isByParts_106 : decode cX6_isByParts 106 = .ok (.iload 8, 2) := by decide +kernel
theorem dX6_isByParts_108 : decode cX6_isByParts 108 = .ok (.isub, 1) := by decide +kernel
theorem dX6_isByParts_109 : decode cX6_isByParts 109 = .ok (.goto 5, 3) := by decide +kernel
theorem dX6_isByParts_112 : decode cX6_isByParts 112 = .ok (.iload 8, 2) := by decide +kernel
theorem dX6_isByParts_114 : decode cX6_isByParts 114 = .ok (.istore 9, 2) := by decide +kernel
theorem dX6_isByParts_116 : decode cX6_isByParts 116 = .ok (.aload_n 0, 1) := by decide +kernel
theorem dX6_isByParts_117 : decode cX6_isByParts 117 = .ok (.iload_n 1, 1) := by decide +kernel
theorem dX6_isByParts_118 : decode cX6_isByParts 118 = .ok (.aload_n 0, 1) := by decide +kernel
theorem dX6_isByParts_119 : decode cX6_isByParts 119 = .ok (.getfield 27, 3) := by decide +kernel
theorem dX6_isByParts_122 : decode cX6_isByParts 122 = .ok (.iload_n 2, 1) := by decide +kernel
theorem dX6_isByParts_123 : decode cX6_isByParts 123 = .ok (.iload 8, 2) := by decide +kernel
theorem dX6_isByParts_125 : decode cX6_isByParts 125 = .ok (.invokevirtual 86, 3) := by decide +kernel
theorem dX6_isByParts_128 : decode cX6_isByParts 128 = .ok (.aload_n 0, 1) := by decide +kernel
theorem dX6_isByParts_129 : decode cX6_isByParts 129 = .ok (.getfield 27, 3) := by decide +kernel
theorem dX6_isByParts_132 : decode cX6_isByParts 132 = .ok (.iload_n 3, 1) := by decide +kernel
theorem dX6_isByParts_133 : decode cX6_isByParts 133 = .ok (.iload 9, 2) := by decide +kernel
theorem dX6_isByParts_135 : decode cX6_isByParts 135 = .ok (.invokevirtual 86, 3) := by decide +kernel
theorem dX6_isByParts_138 : decode cX6_isByParts 138 = .ok (.invokevirtual 90, 3) := by decide +kernel
theorem dX6_isByParts_141 : decode cX6_isByParts 141 = .ok (.ifCond .ne 5, 3) := by decide +kernel
theorem dX6_isByParts_144 : decode cX6_isByParts 144 = .ok (.iconst 0, 1) := by decide +kernel
theorem dX6_isByParts_145 : decode cX6_isByParts 145 = .ok (.ireturn, 1) := by decide +kernel
theorem dX6_isByParts_146 : decode cX6_isByParts 146 = .ok (.iinc 8 1, 3) := by decide +kernel
theorem dX6_isByParts_149 : decode cX6_isByParts 149 = .ok (.goto (-56), 3) := by decide +kernel
theorem dX6_isByParts_152 : decode cX6_isByParts 152 = .ok (.iconst 1, 1) := by decide +kernel
theorem dX6_isByParts_153 : decode cX6_isByParts 153 = .ok (.ireturn, 1) := by decide +kernel
abbrev rmX6_isByParts : Room := { frames := 2, cells := 0, slots := 0, locals := 47 }
theorem ywX6_isByParts : fY yX6_isByParts "EqualCourt$Steps" cX6_isByParts 10 (some .boolean) 4 := ⟨tw_829, tp_24, tw_10, tw_830, by decide +kernel⟩
set_option maxHeartbeats 4000000 in
set_option maxRecDepth 100000 in
theorem cX6_isByParts_ok {D : va_G} {ad : Nat → Nat} {cy cz : ClassId} {l : Launch} {z : fS} {v1 : Int32} {v2 : Int32} {v3 : Int32} {v4 : Int32} {r : Int32} (h : fX6_isByParts z v1 v2 v3 v4 = some r) : fMi D 76 ad (cfX ad cy cz) cy cz l yX6_isByParts cX6_isByParts 10 (some .boolean) rmX6_isByParts [.ref (ad 63), .int v1, .int v2, .int v3, .int v4] z r z := by
  refine f_bodyz (by decide) (Nat.le_of_ble_eq_true rfl) (fun p e s m args below meth c Q hC hret ls hl hI => ?_)
  have hx := hC.1
  have hb := hC.2.1
  have hl : lv_has ls 10 [(0, .ref (ad 63)), (1, .int v1), (2, .int v2), (3, .int v3), (4, .int v4)] := hl
  unfold fX6_isByParts at h
  have w88 : ∀ (v1 : Int32) (v2 : Int32) (v3 : Int32) (v6 : Int32) (y0 : Int32) (H : Heap) (locs : List Loc) (ls : Array Slot), fI D 76 ad (cfX ad cy cz) z s H locs → lv_has ls 10 [(0, .ref (ad 63)), (1, .int v1), (2, .int v2), (3, .int v3), (6, .int v6)] → jX6_isByParts_88   z v1 v2 v3 v6 y0 = some r → W p l e rmX6_isByParts s m args below meth c H locs 0 0 Q (F0 m 88 ls [.int y0]) := by
    intro v1 v2 v3 v6 y0 H locs ls hI hl h
    unfold jX6_isByParts_88 at h
    refine lv_istore (lv' := [(7, .int y0), (0, .ref (ad 63)), (1, .int v1), (2, .int v2), (3, .int v3), (6, .int v6)]) hx hb dX6_isByParts_88 hl (by decide) rfl (fun ls hl => ?_)
    refine lv_iconst (v := 0) hx hb dX6_isByParts_90 (by decide) ?_
    refine lv_istore (lv' := [(8, .int (0 : Int32)), (7, .int y0), (0, .ref (ad 63)), (1, .int v1), (2, .int v2), (3, .int v3), (6, .int v6)]) hx hb dX6_isByParts_91 hl (by decide) rfl (fun ls hl => ?_)
    have w93 : ∀ (N93 : Nat) (v1 : Int32) (v2 : Int32) (v3 : Int32) (v6 : Int32) (v7 : Int32) (v8 : Int32) (H : Heap) (locs : List Loc) (ls : Array Slot), fI D 76 ad (cfX ad cy cz) z s H locs → lv_has ls 10 [(0, .ref (ad 63)), (1, .int v1), (2, .int v2), (3, .int v3), (6, .int v6), (7, .int v7), (8, .int v8)] → lX6_isByParts_93   z v1 v2 v3 v6 v7 N93 v8 = some r → W p l e rmX6_isByParts s m args below meth c H locs 0 0 Q (F0 m 93 ls []) := by
      intro N93
      induction N93 with
      | zero =>
        intro v1 v2 v3 v6 v7 v8 H locs ls hI hl h
        exact none_no h
      | succ N93 ih93 =>
        have w114 : ∀ (v1 : Int32) (v2 : Int32) (v3 : Int32) (v6 : Int32) (v7 : Int32) (v8 : Int32) (y0 : Int32) (H : Heap) (locs : List Loc) (ls : Array Slot), fI D 76 ad (cfX ad cy cz) z s H locs → lv_has ls 10 [(0, .ref (ad 63)), (1, .int v1), (2, .int v2), (3, .int v3), (6, .int v6), (7, .int v7), (8, .int v8)] → jX6_isByParts_114  (lX6_isByParts_93   z v1 v2 v3 v6 v7 N93) z v1 v2 v3 v6 v7 v8 y0 = some r → W p l e rmX6_isByParts s m args below meth c H locs 0 0 Q (F0 m 114 ls [.int y0]) := by
          intro v1 v2 v3 v6 v7 v8 y0 H locs ls hI hl h
          unfold jX6_isByParts_114 at h
          refine lv_istore (lv' := [(9, .int y0), (0, .ref (ad 63)), (1, .int v1), (2, .int v2), (3, .int v3), (6, .int v6), (7, .int v7), (8, .int v8)]) hx hb dX6_isByParts_114 hl (by decide) rfl (fun ls hl => ?_)
          refine lv_aload_n hx hb dX6_isByParts_116 rfl (lv_at hl 1 rfl) ?_
          refine lv_iload_n hx hb dX6_isByParts_117 rfl (lv_at hl 2 rfl) ?_
          refine lv_aload_n hx hb dX6_isByParts_118 rfl (lv_at hl 1 rfl) ?_
          refine gX6_terms hC hI tw_254 dX6_isByParts_119 ?_
          refine lv_iload_n hx hb dX6_isByParts_122 rfl (lv_at hl 3 rfl) ?_
          refine lv_iload hx hb dX6_isByParts_123 (lv_at hl 7 rfl) ?_
          replace h := bp_at h
          obtain ⟨r125, e125, h⟩ := h
          refine r_calli (rest := [.int v1, .ref (ad 63)]) hC hI oX_1 (C := "EqualCourt$Terms") rfl ywX7_partOf tw_834 (cX7_partOf_ok  e125) ⟨Nat.le_of_ble_eq_true rfl, Nat.le_of_ble_eq_true rfl⟩ ⟨rfl, rfl⟩ rfl hl.1 rfl (Nat.le_of_ble_eq_true rfl) dX6_isByParts_125 (fun H locs hI => ?_)
          refine lv_aload_n hx hb dX6_isByParts_128 rfl (lv_at hl 1 rfl) ?_
          refine gX6_terms hC hI tw_254 dX6_isByParts_129 ?_
          refine lv_iload_n hx hb dX6_isByParts_132 rfl (lv_at hl 4 rfl) ?_
          refine lv_iload hx hb dX6_isByParts_133 (lv_at hl 0 rfl) ?_
          replace h := bp_at h
          obtain ⟨r135, e135, h⟩ := h
          refine r_calli (rest := [.int r125, .int v1, .ref (ad 63)]) hC hI oX_1 (C := "EqualCourt$Terms") rfl ywX7_partOf tw_834 (cX7_partOf_ok  e135) ⟨Nat.le_of_ble_eq_true rfl, Nat.le_of_ble_eq_true rfl⟩ ⟨rfl, rfl⟩ rfl hl.1 rfl (Nat.le_of_ble_eq_true rfl) dX6_isByParts_135 (fun H locs hI => ?_)
          replace h := bp_at h
          obtain ⟨r138, e138, h⟩ := h
          refine r_calli (rest := []) hC hI oX_63 (C := "EqualCourt$Steps") rfl ywX6_isSameBefore tw_835 (cX6_isSameBefore_ok  e138) ⟨Nat.le_of_ble_eq_true rfl, Nat.le_of_ble_eq_true rfl⟩ ⟨rfl, rfl⟩ rfl hl.1 rfl (Nat.le_of_ble_eq_true rfl) dX6_isByParts_138 (fun H locs hI => ?_)
          refine lv_if_ne (tgt := 146) hx hb dX6_isByParts_141 (by decide) (fun c141 => ?_) (fun c141 => ?_)
          · replace h := if_f h c141
            obtain ⟨x146, e146⟩ : ∃ y : Int32, y = (v8 + (1 : Int32)) := ⟨_, rfl⟩
            replace h := bnd_at h e146
            refine lv_iinc (v := x146) (lv' := [(8, .int x146), (9, .int y0), (0, .ref (ad 63)), (1, .int v1), (2, .int v2), (3, .int v3), (6, .int v6), (7, .int v7)]) hx hb dX6_isByParts_146 hl (k := 7) rfl (by rw [e146]; rfl) (by decide) rfl (fun ls hl => ?_)
            refine lv_goto (tgt := 93) hx hb dX6_isByParts_149 (by decide) ?_
            exact ih93 v1 v2 v3 v6 v7 x146 _ _ _ hI (lv_sub hl [2, 3, 4, 5, 6, 7, 0] rfl) h
          · replace h := if_t h c141
            refine lv_iconst (v := 0) hx hb dX6_isByParts_144 (by decide) ?_
            exact hret (ret_p _ h) (by decide) dX6_isByParts_145 hI
        intro v1 v2 v3 v6 v7 v8 H locs ls hI hl h
        rw [lX6_isByParts_93.eq_2] at h
        refine lv_iload hx hb dX6_isByParts_93 (lv_at hl 6 rfl) ?_
        refine lv_iload hx hb dX6_isByParts_95 (lv_at hl 4 rfl) ?_
        refine lv_icmp_ge (tgt := 152) hx hb dX6_isByParts_97 (by decide) (fun c97 => ?_) (fun c97 => ?_)
        · replace h := if_t h c97
          refine lv_iconst (v := 1) hx hb dX6_isByParts_152 (by decide) ?_
          exact hret (ret_p _ h) (by decide) dX6_isByParts_153 hI
        · replace h := if_f h c97
          refine lv_iload hx hb dX6_isByParts_100 (lv_at hl 5 rfl) ?_
          refine lv_if_eq (tgt := 112) hx hb dX6_isByParts_102 (by decide) (fun c102 => ?_) (fun c102 => ?_)
          · replace h := if_t h c102
            refine lv_iload hx hb dX6_isByParts_112 (lv_at hl 6 rfl) ?_
            exact w114 v1 v2 v3 v6 v7 v8 v8 _ _ _ hI hl h
          · replace h := if_f h c102
            refine lv_iconst (v := 1) hx hb dX6_isByParts_105 (by decide) ?_
            refine lv_iload hx hb dX6_isByParts_106 (lv_at hl 6 rfl) ?_
            refine lv_isub hx hb dX6_isByParts_108 ?_
            refine lv_goto (tgt := 114) hx hb dX6_isByParts_109 (by decide) ?_
            exact w114 v1 v2 v3 v6 v7 v8 ((1 : Int32) - v8) _ _ _ hI hl h
    exact w93 FU v1 v2 v3 v6 y0 (0 : Int32) _ _ _ hI (lv_sub hl [2, 3, 4, 5, 6, 1, 0] rfl) h
  refine lv_aload_n hx hb dX6_isByParts_0 rfl (lv_at hl 0 rfl) ?_
  refine gX6_terms hC hI tw_254 dX6_isByParts_1 ?_
  refine lv_iload_n hx hb dX6_isByParts_4 rfl (lv_at hl 2 rfl) ?_
  replace h := bp_at h
  obtain ⟨r5, e5, h⟩ := h
  refine r_calli (rest := []) hC hI oX_1 (C := "EqualCourt$Terms") rfl ywX7_kindOf tw_831 (cX7_kindOf_ok  e5) ⟨Nat.le_of_ble_eq_true rfl, Nat.le_of_ble_eq_true rfl⟩ ⟨rfl, rfl⟩ rfl hl.1 rfl (Nat.le_of_ble_eq_true rfl) dX6_isByParts_5 (fun H locs hI => ?_)
  refine lv_istore (lv' := [(5, .int r5), (0, .ref (ad 63)), (1, .int v1), (2, .int v2), (3, .int v3), (4, .int v4)]) hx hb dX6_isByParts_8 hl (by decide) rfl (fun ls hl => ?_)
  refine lv_aload_n hx hb dX6_isByParts_10 rfl (lv_at hl 1 rfl) ?_
  refine gX6_terms hC hI tw_254 dX6_isByParts_11 ?_
  refine lv_iload_n hx hb dX6_isByParts_14 rfl (lv_at hl 3 rfl) ?_
  replace h := bp_at h
  obtain ⟨r15, e15, h⟩ := h
  refine r_calli (rest := []) hC hI oX_1 (C := "EqualCourt$Terms") rfl ywX7_sizeOf tw_832 (cX7_sizeOf_ok  e15) ⟨Nat.le_of_ble_eq_true rfl, Nat.le_of_ble_eq_true rfl⟩ ⟨rfl, rfl⟩ rfl hl.1 rfl (Nat.le_of_ble_eq_true rfl) dX6_isByParts_15 (fun H locs hI => ?_)
  refine lv_istore (lv' := [(6, .int r15), (5, .int r5), (0, .ref (ad 63)), (1, .int v1), (2, .int v2), (3, .int v3), (4, .int v4)]) hx hb dX6_isByParts_18 hl (by decide) rfl (fun ls hl => ?_)
  refine lv_iload hx hb dX6_isByParts_20 (lv_at hl 0 rfl) ?_
  refine lv_if_eq (tgt := 70) hx hb dX6_isByParts_22 (by decide) (fun c22 => ?_) (fun c22 => ?_)
  · replace h := if_t h c22
    refine lv_iconst (v := 0) hx hb dX6_isByParts_70 (by decide) ?_
    exact hret (ret_p _ h) (by decide) dX6_isByParts_71 hI
  · replace h := if_f h c22
    refine lv_iload hx hb dX6_isByParts_25 (lv_at hl 1 rfl) ?_
    refine lv_aload_n hx hb dX6_isByParts_27 rfl (lv_at hl 2 rfl) ?_
    refine gX6_terms hC hI tw_254 dX6_isByParts_28 ?_
    refine lv_iload_n hx hb dX6_isByParts_31 rfl (lv_at hl 5 rfl) ?_
    replace h := bp_at h
    obtain ⟨r32, e32, h⟩ := h
    refine r_calli (rest := [.int r5]) hC hI oX_1 (C := "EqualCourt$Terms") rfl ywX7_kindOf tw_831 (cX7_kindOf_ok  e32) ⟨Nat.le_of_ble_eq_true rfl, Nat.le_of_ble_eq_true rfl⟩ ⟨rfl, rfl⟩ rfl hl.1 rfl (Nat.le_of_ble_eq_true rfl) dX6_isByParts_32 (fun H locs hI => ?_)
    refine lv_icmp_ne (tgt := 70) hx hb dX6_isByParts_35 (by decide) (fun c35 => ?_) (fun c35 => ?_)
    · replace h := if_f h c35
      refine lv_iconst (v := 0) hx hb dX6_isByParts_70 (by decide) ?_
      exact hret (ret_p _ h) (by decide) dX6_isByParts_71 hI
    · replace h := if_t h c35
      refine lv_iload hx hb dX6_isByParts_38 (lv_at hl 0 rfl) ?_
      refine lv_aload_n hx hb dX6_isByParts_40 rfl (lv_at hl 2 rfl) ?_
      refine gX6_terms hC hI tw_254 dX6_isByParts_41 ?_
      refine lv_iload_n hx hb dX6_isByParts_44 rfl (lv_at hl 5 rfl) ?_
      replace h := bp_at h
      obtain ⟨r45, e45, h⟩ := h
      refine r_calli (rest := [.int r15]) hC hI oX_1 (C := "EqualCourt$Terms") rfl ywX7_sizeOf tw_832 (cX7_sizeOf_ok  e45) ⟨Nat.le_of_ble_eq_true rfl, Nat.le_of_ble_eq_true rfl⟩ ⟨rfl, rfl⟩ rfl hl.1 rfl (Nat.le_of_ble_eq_true rfl) dX6_isByParts_45 (fun H locs hI => ?_)
      refine lv_icmp_ne (tgt := 70) hx hb dX6_isByParts_48 (by decide) (fun c48 => ?_) (fun c48 => ?_)
      · replace h := if_f h c48
        refine lv_iconst (v := 0) hx hb dX6_isByParts_70 (by decide) ?_
        exact hret (ret_p _ h) (by decide) dX6_isByParts_71 hI
      · replace h := if_t h c48
        refine lv_aload_n hx hb dX6_isByParts_51 rfl (lv_at hl 2 rfl) ?_
        refine gX6_terms hC hI tw_254 dX6_isByParts_52 ?_
        refine lv_iload_n hx hb dX6_isByParts_55 rfl (lv_at hl 4 rfl) ?_
        replace h := bp_at h
        obtain ⟨r56, e56, h⟩ := h
        refine r_calli (rest := []) hC hI oX_1 (C := "EqualCourt$Terms") rfl ywX7_shownBy tw_833 (cX7_shownBy_ok  e56) ⟨Nat.le_of_ble_eq_true rfl, Nat.le_of_ble_eq_true rfl⟩ ⟨rfl, rfl⟩ rfl hl.1 rfl (Nat.le_of_ble_eq_true rfl) dX6_isByParts_56 (fun H locs hI => ?_)
        refine lv_aload_n hx hb dX6_isByParts_59 rfl (lv_at hl 2 rfl) ?_
        refine gX6_terms hC hI tw_254 dX6_isByParts_60 ?_
        refine lv_iload_n hx hb dX6_isByParts_63 rfl (lv_at hl 5 rfl) ?_
        replace h := bp_at h
        obtain ⟨r64, e64, h⟩ := h
        refine r_calli (rest := [.int r56]) hC hI oX_1 (C := "EqualCourt$Terms") rfl ywX7_shownBy tw_833 (cX7_shownBy_ok  e64) ⟨Nat.le_of_ble_eq_true rfl, Nat.le_of_ble_eq_true rfl⟩ ⟨rfl, rfl⟩ rfl hl.1 rfl (Nat.le_of_ble_eq_true rfl) dX6_isByParts_64 (fun H locs hI => ?_)
        refine lv_icmp_eq (tgt := 72) hx hb dX6_isByParts_67 (by decide) (fun c67 => ?_) (fun c67 => ?_)
        · replace h := if_t h c67
          refine lv_iload hx hb dX6_isByParts_72 (lv_at hl 6 rfl) ?_
          refine lv_if_eq (tgt := 87) hx hb dX6_isByParts_74 (by decide) (fun c74 => ?_) (fun c74 => ?_)
          · replace h := if_t h c74
            refine lv_iconst (v := 0) hx hb dX6_isByParts_87 (by decide) ?_
            exact w88 v1 v2 v3 r15 (0 : Int32) _ _ _ hI (lv_sub hl [2, 3, 4, 5, 0] rfl) h
          · replace h := if_f h c74
            refine lv_iload hx hb dX6_isByParts_77 (lv_at hl 1 rfl) ?_
            refine lv_iconst (v := 4) hx hb dX6_isByParts_79 (by decide) ?_
            refine lv_icmp_ne (tgt := 87) hx hb dX6_isByParts_80 (by decide) (fun c80 => ?_) (fun c80 => ?_)
            · replace h := if_f h c80
              refine lv_iconst (v := 0) hx hb dX6_isByParts_87 (by decide) ?_
              exact w88 v1 v2 v3 r15 (0 : Int32) _ _ _ hI (lv_sub hl [2, 3, 4, 5, 0] rfl) h
            · replace h := if_t h c80
              refine lv_iconst (v := 1) hx hb dX6_isByParts_83 (by decide) ?_
              refine lv_goto (tgt := 88) hx hb dX6_isByParts_84 (by decide) ?_
              exact w88 v1 v2 v3 r15 (1 : Int32) _ _ _ hI (lv_sub hl [2, 3, 4, 5, 0] rfl) h
        · replace h := if_f h c67
          refine lv_iconst (v := 0) hx hb dX6_isByParts_70 (by decide) ?_
          exact hret (ret_p _ h) (by decide) dX6_isByParts_71 hI
theorem dX6_isOfRows_0 : decode cX6_isOfRows 0 = .ok (.iload_n 2, 1) := by decide +kernel
theorem dX6_isOfRows_1 : decode cX6_isOfRows 1 = .ok (.ifCond .lt 42, 3) := by decide +kernel
theorem dX6_isOfRows_4 : decode cX6_isOfRows 4 = .ok (.iload_n 2, 1) := by decide +kernel
theorem dX6_isOfRows_5 : decode cX6_isOfRows 5 = .ok (.iload_n 1, 1) := by decide +kernel
theorem dX6_isOfRows_6 : decode cX6_isOfRows 6 = .ok (.if_icmp .ge 37, 3) := by decide +kernel
theorem dX6_isOfRows_9 : decode cX6_isOfRows 9 = .ok (.aload_n 0, 1) := by decide +kernel
theorem dX6_isOfRows_10 : decode cX6_isOfRows 10 = .ok (.getfield 27, 3) := by decide +kernel
theorem dX6_isOfRows_13 : decode cX6_isOfRows 13 = .ok (.aload_n 0, 1) := by decide +kernel
theorem dX6_isOfRows_14 : decode cX6_isOfRows 14 = .ok (.getfield 15, 3) := by decide +kernel
theorem dX6_isOfRows_17 : decode cX6_isOfRows 17 = .ok (.iload_n 2, 1) := by decide +kernel
theorem dX6_isOfRows_18 : decode cX6_isOfRows 18 = .ok (.iaload, 1) := by decide +kernel
theorem dX6_isOfRows_19 : decode cX6_isOfRows 19 = .ok (.invokevirtual 75, 3) := by decide +kernel
theorem dX6_isOfRows_22 : decode cX6_isOfRows 22 = .ok (.iconst 3, 1) := by decide +kernel
theorem dX6_isOfRows_23 : decode cX6_isOfRows 23 = .ok (.if_icmp .ne 20, 3) := by decide +kernel
theorem dX6_isOfRows_26 : decode cX6_isOfRows 26 = .ok (.aload_n 0, 1) := by decide +kernel
theorem dX6_isOfRows_27 : decode cX6_isOfRows 27 = .ok (.getfield 27, 3) := by decide +kernel
theorem dX6_isOfRows_30 : decode cX6_isOfRows 30 = .ok (.aload_n 0, 1) := by decide +kernel
theorem dX6_isOfRows_31 : decode cX6_isOfRows 31 = .ok (.getfield 18, 3) := by decide +kernel
theorem dX6_isOfRows_34 : decode cX6_isOfRows 34 = .ok (.iload_n 2, 1) := by decide +kernel
theorem dX6_isOfRows_35 : decode cX6_isOfRows 35 = .ok (.iaload, 1) := by decide +kernel
theorem dX6_isOfRows_36 : decode cX6_isOfRows 36 = .ok (.invokevirtual 75, 3) := by decide +kernel
theorem dX6_isOfRows_39 : decode cX6_isOfRows 39 = .ok (.iconst 3, 1) := by decide +kernel
theorem dX6_isOfRows_40 : decode cX6_isOfRows 40 = .ok (.if_icmp .eq 5, 3) := by decide +kernel
theorem dX6_isOfRows_43 : decode cX6_isOfRows 43 = .ok (.iconst 0, 1) := by decide +kernel
theorem dX6_isOfRows_44 : decode cX6_isOfRows 44 = .ok (.ireturn, 1) := by decide +kernel
theorem dX6_isOfRows_45 : decode cX6_isOfRows 45 = .ok (.aload_n 0, 1) := by decide +kernel
theorem dX6_isOfRows_46 : decode cX6_isOfRows 46 = .ok (.getfield 27, 3) := by decide +kernel
theorem dX6_isOfRows_49 : decode cX6_isOfRows 49 = .ok (.aload_n 0, 1) := by decide +kernel
theorem dX6_isOfRows_50 : decode cX6_isOfRows 50 = .ok (.getfield 15, 3) := by decide +kernel
theorem dX6_isOfRows_53 : decode cX6_isOfRows 53 = .ok (.iload_n 2, 1) := by decide +kernel
theorem dX6_isOfRows_54 : decode cX6_isOfRows 54 = .ok (.iaload, 1) := by decide +kernel
theorem dX6_isOfRows_55 : decode cX6_isOfRows 55 = .ok (.iload_n 3, 1) := by decide +kernel
theorem dX6_isOfRows_56 : decode cX6_isOfRows 56 = .ok (.invokevirtual 86, 3) := by decide +kernel
theorem dX6_isOfRows_59 : decode cX6_isOfRows 59 = .ok (.aload_n 0, 1) := by decide +kernel
theorem dX6_isOfRows_60 : decode cX6_isOfRows 60 = .ok (.getfield 15, 3) := by decide +kernel
theorem dX6_isOfRows_63 : decode cX6_isOfRows 63 = .ok (.iload_n 1, 1) := by decide +kernel
theorem dX6_isOfRows_64 : decode cX6_isOfRows 64 = .ok (.iaload, 1) := by decide +kernel
theorem dX6_isOfRows_65 : decode cX6_isOfRows 65 = .ok (.if_icmp .ne 30, 3) := by decide +kernel
theorem dX6_isOfRows_68 : decode cX6_isOfRows 68 = .ok (.aload_n 0, 1) := by decide +kernel
theorem dX6_isOfRows_69 : decode cX6_isOfRows 69 = .ok (.getfield 27, 3) := by decide +kernel
theorem dX6_isOfRows_72 : decode cX6_isOfRows 72 = .ok (.aload_n 0, 1) := by decide +kernel
theorem dX6_isOfRows_73 : decode cX6_isOfRows 73 = .ok (.getfield 18, 3) := by decide +kernel
theorem dX6_isOfRows_76 : decode cX6_isOfRows 76 = .ok (.iload_n 2, 1) := by decide +kernel
theorem dX6_isOfRows_77 : decode cX6_isOfRows 77 = .ok (.iaload, 1) := by decide +kernel
theorem dX6_isOfRows_78 : decode cX6_isOfRows 78 = .ok (.iload_n 3, 1) := by decide +kernel
theorem dX6_isOfRows_79 : decode cX6_isOfRows 79 = .ok (.invokevirtual 86, 3) := by decide +kernel
theorem dX6_isOfRows_82 : decode cX6_isOfRows 82 = .ok (.aload_n 0, 1) := by decide +kernel
theorem dX6_isOfRows_83 : decode cX6_isOfRows 83 = .ok (.getfield 18, 3) := by decide +kernel
theorem dX6_isOfRows_86 : decode cX6_isOfRows 86 = .ok (.iload_n 1, 1) := by decide +kernel
theorem dX6_isOfRows_87 : decode cX6_isOfRows 87 = .ok (.iaload, 1) := by decide +kernel
theorem dX6_isOfRows_88 : decode cX6_isOfRows 88 = .ok (.if_icmp .ne 7, 3) := by decide +kernel
theorem dX6_isOfRows_91 : decode cX6_isOfRows 91 = .ok (.iconst 1, 1) := by decide +kernel
theorem dX6_isOfRows_92 : decode cX6_isOfRows 92 = .ok (.goto 4, 3) := by decide +kernel
theorem dX6_isOfRows_95 : decode cX6_isOfRows 95 = .ok (.iconst 0, 1) := by decide +kernel
theorem dX6_isOfRows_96 : decode cX6_isOfRows 96 = .ok (.ireturn, 1) := by decide +kernel
abbrev rmX6_isOfRows : Room := { frames := 1, cells := 0, slots := 0, locals := 22 }
theorem ywX6_isOfRows : fY yX6_isOfRows "EqualCourt$Steps" cX6_isOfRows 4 (some .boolean) 3 := ⟨tw_841, tp_26, tw_10, tw_842, by decide +kernel⟩
set_option maxHeartbeats 4000000 in
set_option maxRecDepth 100000 in
theorem cX6_isOfRows_ok {D : va_G} {ad : Nat → Nat} {cy cz : ClassId} {l : Launch} {z : fS} {v1 : Int32} {v2 : Int32} {v3 : Int32} {r : Int32} (h : fX6_isOfRows z v1 v2 v3 = some r) : fMi D 76 ad (cfX ad cy cz) cy cz l yX6_isOfRows cX6_isOfRows 4 (some .boolean) rmX6_isOfRows [.ref (ad 63), .int v1, .int v2, .int v3] z r z := by
  refine f_bodyz (by decide) (Nat.le_of_ble_eq_true rfl) (fun p e s m args below meth c Q hC hret ls hl hI => ?_)
  have hx := hC.1
  have hb := hC.2.1
  have hl : lv_has ls 4 [(0, .ref (ad 63)), (1, .int v1), (2, .int v2), (3, .int v3)] := hl
  unfold fX6_isOfRows at h
  refine lv_iload_n hx hb dX6_isOfRows_0 rfl (lv_at hl 2 rfl) ?_
  refine lv_if_lt (tgt := 43) hx hb dX6_isOfRows_1 (by decide) (fun c1 => ?_) (fun c1 => ?_)
  · replace h := if_t h c1
    refine lv_iconst (v := 0) hx hb dX6_isOfRows_43 (by decide) ?_
    exact hret (ret_p _ h) (by decide) dX6_isOfRows_44 hI
  · replace h := if_f h c1
    refine lv_iload_n hx hb dX6_isOfRows_4 rfl (lv_at hl 2 rfl) ?_
    refine lv_iload_n hx hb dX6_isOfRows_5 rfl (lv_at hl 1 rfl) ?_
    refine lv_icmp_ge (tgt := 43) hx hb dX6_isOfRows_6 (by decide) (fun c6 => ?_) (fun c6 => ?_)
    · replace h := if_t h c6
      refine lv_iconst (v := 0) hx hb dX6_isOfRows_43 (by decide) ?_
      exact hret (ret_p _ h) (by decide) dX6_isOfRows_44 hI
    · replace h := if_f h c6
      refine lv_aload_n hx hb dX6_isOfRows_9 rfl (lv_at hl 0 rfl) ?_
      refine gX6_terms hC hI tw_254 dX6_isOfRows_10 ?_
      refine lv_aload_n hx hb dX6_isOfRows_13 rfl (lv_at hl 0 rfl) ?_
      refine gX6_lefts hC hI tw_257 dX6_isOfRows_14 ?_
      refine lv_iload_n hx hb dX6_isOfRows_17 rfl (lv_at hl 2 rfl) ?_
      have g18 := (gd_at h).1
      replace h := (gd_at h).2
      refine r_iald hC hI aX_65 g18 dX6_isOfRows_18 ?_
      replace h := bp_at h
      obtain ⟨r19, e19, h⟩ := h
      refine r_calli (rest := []) hC hI oX_1 (C := "EqualCourt$Terms") rfl ywX7_kindOf tw_831 (cX7_kindOf_ok  e19) ⟨Nat.le_of_ble_eq_true rfl, Nat.le_of_ble_eq_true rfl⟩ ⟨rfl, rfl⟩ rfl hl.1 rfl (Nat.le_of_ble_eq_true rfl) dX6_isOfRows_19 (fun H locs hI => ?_)
      refine lv_iconst (v := 3) hx hb dX6_isOfRows_22 (by decide) ?_
      refine lv_icmp_ne (tgt := 43) hx hb dX6_isOfRows_23 (by decide) (fun c23 => ?_) (fun c23 => ?_)
      · replace h := if_f h c23
        refine lv_iconst (v := 0) hx hb dX6_isOfRows_43 (by decide) ?_
        exact hret (ret_p _ h) (by decide) dX6_isOfRows_44 hI
      · replace h := if_t h c23
        refine lv_aload_n hx hb dX6_isOfRows_26 rfl (lv_at hl 0 rfl) ?_
        refine gX6_terms hC hI tw_254 dX6_isOfRows_27 ?_
        refine lv_aload_n hx hb dX6_isOfRows_30 rfl (lv_at hl 0 rfl) ?_
        refine gX6_rights hC hI tw_258 dX6_isOfRows_31 ?_
        refine lv_iload_n hx hb dX6_isOfRows_34 rfl (lv_at hl 2 rfl) ?_
        have g35 := (gd_at h).1
        replace h := (gd_at h).2
        refine r_iald hC hI aX_66 g35 dX6_isOfRows_35 ?_
        replace h := bp_at h
        obtain ⟨r36, e36, h⟩ := h
        refine r_calli (rest := []) hC hI oX_1 (C := "EqualCourt$Terms") rfl ywX7_kindOf tw_831 (cX7_kindOf_ok  e36) ⟨Nat.le_of_ble_eq_true rfl, Nat.le_of_ble_eq_true rfl⟩ ⟨rfl, rfl⟩ rfl hl.1 rfl (Nat.le_of_ble_eq_true rfl) dX6_isOfRows_36 (fun H locs hI => ?_)
        refine lv_iconst (v := 3) hx hb dX6_isOfRows_39 (by decide) ?_
        refine lv_icmp_eq (tgt := 45) hx hb dX6_isOfRows_40 (by decide) (fun c40 => ?_) (fun c40 => ?_)
        · replace h := if_t h c40
          refine lv_aload_n hx hb dX6_isOfRows_45 rfl (lv_at hl 0 rfl) ?_
          refine gX6_terms hC hI tw_254 dX6_isOfRows_46 ?_
          refine lv_aload_n hx hb dX6_isOfRows_49 rfl (lv_at hl 0 rfl) ?_
          refine gX6_lefts hC hI tw_257 dX6_isOfRows_50 ?_
          refine lv_iload_n hx hb dX6_isOfRows_53 rfl (lv_at hl 2 rfl) ?_
          have g54 := (gd_at h).1
          replace h := (gd_at h).2
          refine r_iald hC hI aX_65 g54 dX6_isOfRows_54 ?_
          refine lv_iload_n hx hb dX6_isOfRows_55 rfl (lv_at hl 3 rfl) ?_
          replace h := bp_at h
          obtain ⟨r56, e56, h⟩ := h
          refine r_calli (rest := []) hC hI oX_1 (C := "EqualCourt$Terms") rfl ywX7_partOf tw_834 (cX7_partOf_ok  e56) ⟨Nat.le_of_ble_eq_true rfl, Nat.le_of_ble_eq_true rfl⟩ ⟨rfl, rfl⟩ rfl hl.1 rfl (Nat.le_of_ble_eq_true rfl) dX6_isOfRows_56 (fun H locs hI => ?_)
          refine lv_aload_n hx hb dX6_isOfRows_59 rfl (lv_at hl 0 rfl) ?_
          refine gX6_lefts hC hI tw_257 dX6_isOfRows_60 ?_
          refine lv_iload_n hx hb dX6_isOfRows_63 rfl (lv_at hl 1 rfl) ?_
          have g64 := (gd_at h).1
          replace h := (gd_at h).2
          refine r_iald hC hI aX_65 g64 dX6_isOfRows_64 ?_
          refine lv_icmp_ne (tgt := 95) hx hb dX6_isOfRows_65 (by decide) (fun c65 => ?_) (fun c65 => ?_)
          · replace h := if_f h c65
            refine lv_iconst (v := 0) hx hb dX6_isOfRows_95 (by decide) ?_
            exact hret (ret_p _ h) (by decide) dX6_isOfRows_96 hI
          · replace h := if_t h c65
            refine lv_aload_n hx hb dX6_isOfRows_68 rfl (lv_at hl 0 rfl) ?_
            refine gX6_terms hC hI tw_254 dX6_isOfRows_69 ?_
            refine lv_aload_n hx hb dX6_isOfRows_72 rfl (lv_at hl 0 rfl) ?_
            refine gX6_rights hC hI tw_258 dX6_isOfRows_73 ?_
            refine lv_iload_n hx hb dX6_isOfRows_76 rfl (lv_at hl 2 rfl) ?_
            have g77 := (gd_at h).1
            replace h := (gd_at h).2
            refine r_iald hC hI aX_66 g77 dX6_isOfRows_77 ?_
            refine lv_iload_n hx hb dX6_isOfRows_78 rfl (lv_at hl 3 rfl) ?_
            replace h := bp_at h
            obtain ⟨r79, e79, h⟩ := h
            refine r_calli (rest := []) hC hI oX_1 (C := "EqualCourt$Terms") rfl ywX7_partOf tw_834 (cX7_partOf_ok  e79) ⟨Nat.le_of_ble_eq_true rfl, Nat.le_of_ble_eq_true rfl⟩ ⟨rfl, rfl⟩ rfl hl.1 rfl (Nat.le_of_ble_eq_true rfl) dX6_isOfRows_79 (fun H locs hI => ?_)
            refine lv_aload_n hx hb dX6_isOfRows_82 rfl (lv_at hl 0 rfl) ?_
            refine gX6_rights hC hI tw_258 dX6_isOfRows_83 ?_
            refine lv_iload_n hx hb dX6_isOfRows_86 rfl (lv_at hl 1 rfl) ?_
            have g87 := (gd_at h).1
            replace h := (gd_at h).2
            refine r_iald hC hI aX_66 g87 dX6_isOfRows_87 ?_
            refine lv_icmp_ne (tgt := 95) hx hb dX6_isOfRows_88 (by decide) (fun c88 => ?_) (fun c88 => ?_)
            · replace h := if_f h c88
              refine lv_iconst (v := 0) hx hb dX6_isOfRows_95 (by decide) ?_
              exact hret (ret_p _ h) (by decide) dX6_isOfRows_96 hI
            · replace h := if_t h c88
              refine lv_iconst (v := 1) hx hb dX6_isOfRows_91 (by decide) ?_
              refine lv_goto (tgt := 96) hx hb dX6_isOfRows_92 (by decide) ?_
              exact hret (ret_p _ h) (by decide) dX6_isOfRows_96 hI
        · replace h := if_f h c40
          refine lv_iconst (v := 0) hx hb dX6_isOfRows_43 (by decide) ?_
          exact hret (ret_p _ h) (by decide) dX6_isOfRows_44 hI
theorem dX6_isRight_0 : decode cX6_isRight 0 = .ok (.aload_n 0, 1) := by decide +kernel
theorem dX6_isRight_1 : decode cX6_isRight 1 = .ok (.getfield 15, 3) := by decide +kernel
theorem dX6_isRight_4 : decode cX6_isRight 4 = .ok (.iload_n 1, 1) := by decide +kernel
theorem dX6_isRight_5 : decode cX6_isRight 5 = .ok (.iaload, 1) := by decide +kernel
theorem dX6_isRight_6 : decode cX6_isRight 6 = .ok (.istore_n 2, 1) := by decide +kernel
theorem dX6_isRight_7 : decode cX6_isRight 7 = .ok (.aload_n 0, 1) := by decide +kernel
theorem dX6_isRight_8 : decode cX6_isRight 8 = .ok (.getfield 18, 3) := by decide +kernel
theorem dX6_isRight_11 : decode cX6_isRight 11 = .ok (.iload_n 1, 1) := by decide +kernel
theorem dX6_isRight_12 : decode cX6_isRight 12 = .ok (.iaload, 1) := by decide +kernel
theorem dX6_isRight_13 : decode cX6_isRight 13 = .ok (.istore_n 3, 1) := by decide +kernel
theorem dX6_isRight_14 : decode cX6_isRight 14 = .ok (.aload_n 0, 1) := by decide +kernel
theorem dX6_isRight_15 : decode cX6_isRight 15 = .ok (.getfield 21, 3) := by decide +kernel
theorem dX6_isRight_18 : decode cX6_isRight 18 = .ok (.iload_n 1, 1) := by decide +kernel
theorem dX6_isRight_19 : decode cX6_isRight 19 = .ok (.iaload, 1) := by decide +kernel
theorem dX6_isRight_20 : decode cX6_isRight 20 = .ok (.istore 4, 2) := by decide +kernel
theorem dX6_isRight_22 : decode cX6_isRight 22 = .ok (.aload_n 0, 1) := by decide +kernel
theorem dX6_isRight_23 : decode cX6_isRight 23 = .ok (.getfield 9, 3) := by decide +kernel
theorem dX6_isRight_26 : decode cX6_isRight 26 = .ok (.iload_n 1, 1) := by decide +kernel
theorem dX6_isRight_27 : decode cX6_isRight 27 = .ok (.iaload, 1) := by decide +kernel
theorem dX6_isRight_28 : decode cX6_isRight 28 = .ok (.tableswitch 138 0 6 #[44, 53, 64, 87, 101, 120, 129], 44) := by decide +kernel
theorem dX6_isRight_72 : decode cX6_isRight 72 = .ok (.aload_n 0, 1) := by decide +kernel
theorem dX6_isRight_73 : decode cX6_isRight 73 = .ok (.iload 4, 2) := by decide +kernel
theorem dX6_isRight_75 : decode cX6_isRight 75 = .ok (.iload_n 2, 1) := by decide +kernel
theorem dX6_isRight_76 : decode cX6_isRight 76 = .ok (.iload_n 3, 1) := by decide +kernel
theorem dX6_isRight_77 : decode cX6_isRight 77 = .ok (.invokevirtual 39, 3) := by decide +kernel
theorem dX6_isRight_80 : decode cX6_isRight 80 = .ok (.ireturn, 1) := by decide +kernel
theorem dX6_isRight_81 : decode cX6_isRight 81 = .ok (.iload_n 2, 1) := by decide +kernel
theorem dX6_isRight_82 : decode cX6_isRight 82 = .ok (.iload_n 3, 1) := by decide +kernel
theorem dX6_isRight_83 : decode cX6_isRight 83 = .ok (.if_icmp .ne 7, 3) := by decide +kernel
theorem dX6_isRight_86 : decode cX6_isRight 86 = .ok (.iconst 1, 1) := by decide +kernel
theorem dX6_isRight_87 : decode cX6_isRight 87 = .ok (.goto 4, 3) := by decide +kernel
theorem dX6_isRight_90 : decode cX6_isRight 90 = .ok (.iconst 0, 1) := by decide +kernel
theorem dX6_isRight_91 : decode cX6_isRight 91 = .ok (.ireturn, 1) := by decide +kernel
theorem dX6_isRight_92 : decode cX6_isRight 92 = .ok (.iload 4, 2) := by decide +kernel
theorem dX6_isRight_94 : decode cX6_isRight 94 = .ok (.iload_n 1, 1) := by decide +kernel
theorem dX6_isRight_95 : decode cX6_isRight 95 = .ok (.if_icmp .ge 18, 3) := by decide +kernel
theorem dX6_isRight_98 : decode cX6_isRight 98 = .ok (.aload_n 0, 1) := by decide +kernel
theorem dX6_isRight_99 : decode cX6_isRight 99 = .ok (.iload 4, 2) := by decide +kernel
theorem dX6_isRight_101 : decode cX6_isRight 101 = .ok (.iload_n 3, 1) := by decide +kernel
theorem dX6_isRight_102 : decode cX6_isRight 102 = .ok (.iload_n 2, 1) := by decide +kernel
theorem dX6_isRight_103 : decode cX6_isRight 103 = .ok (.invokevirtual 43, 3) := by decide +kernel
theorem dX6_isRight_106 : decode cX6_isRight 106 = .ok (.ifCond .eq 7, 3) := by decide +kernel
theorem dX6_isRight_109 : decode cX6_isRight 109 = .ok (.iconst 1, 1) := by decide +kernel
theorem dX6_isRight_110 : decode cX6_isRight 110 = .ok (.goto 4, 3) := by decide +kernel
theorem dX6_isRight_113 : decode cX6_isRight 113 = .ok (.iconst 0, 1) := by decide +kernel
theorem dX6_isRight_114 : decode cX6_isRight 114 = .ok (.ireturn, 1) := by decide +kernel
theorem dX6_isRight_115 : decode cX6_isRight 115 = .ok (.aload_n 0, 1) := by decide +kernel
theorem dX6_isRight_116 : decode cX6_isRight 116 = .ok (.iload_n 1, 1) := by decide +kernel
theorem dX6_isRight_117 : decode cX6_isRight 117 = .ok (.iload 4, 2) := by decide +kernel
theorem dX6_isRight_119 : decode cX6_isRight 119 = .ok (.aload_n 0, 1) := by decide +kernel
theorem dX6_isRight_120 : decode cX6_isRight 120 = .ok (.getfield 24, 3) := by decide +kernel
theorem dX6_isRight_123 : decode cX6_isRight 123 = .ok (.iload_n 1, 1) := by decide +kernel
theorem dX6_isRight_124 : decode cX6_isRight 124 = .ok (.iaload, 1) := by decide +kernel
theorem dX6_isRight_125 : decode cX6_isRight 125 = .ok (.invokevirtual 46, 3) := by decide +kernel
theorem dX6_isRight_128 : decode cX6_isRight 128 = .ok (.ireturn, 1) := by decide +kernel
theorem dX6_isRight_129 : decode cX6_isRight 129 = .ok (.aload_n 0, 1) := by decide +kernel
theorem dX6_isRight_130 : decode cX6_isRight 130 = .ok (.iload_n 1, 1) := by decide +kernel
theorem dX6_isRight_131 : decode cX6_isRight 131 = .ok (.iload_n 2, 1) := by decide +kernel
theorem dX6_isRight_132 : decode cX6_isRight 132 = .ok (.iload_n 3, 1) := by decide +kernel
theorem dX6_isRight_133 : decode cX6_isRight 133 = .ok (.iload 4, 2) := by decide +kernel
theorem dX6_isRight_135 : decode cX6_isRight 135 = .ok (.iconst 1, 1) := by decide +kernel
theorem dX6_isRight_136 : decode cX6_isRight 136 = .ok (.if_icmp .ne 7, 3) := by decide +kernel
theorem dX6_isRight_139 : decode cX6_isRight 139 = .ok (.iconst 1, 1) := by decide +kernel
theorem dX6_isRight_140 : decode cX6_isRight 140 = .ok (.goto 4, 3) := by decide +kernel
theorem dX6_isRight_143 : decode cX6_isRight 143 = .ok (.iconst 0, 1) := by decide +kernel
theorem dX6_isRight_144 : decode cX6_isRight 144 = .ok (.invokevirtual 49, 3) := by decide +kernel
theorem dX6_isRight_147 : decode cX6_isRight 147 = .ok (.ireturn, 1) := by decide +kernel
theorem dX6_isRight_148 : decode cX6_isRight 148 = .ok (.aload_n 0, 1) := by decide +kernel
theorem dX6_isRight_149 : decode cX6_isRight 149 = .ok (.iload_n 1, 1) := by decide +kernel
theorem dX6_isRight_150 : decode cX6_isRight 150 = .ok (.iload 4, 2) := by decide +kernel
theorem dX6_isRight_152 : decode cX6_isRight 152 = .ok (.iconst 0, 1) := by decide +kernel
theorem dX6_isRight_153 : decode cX6_isRight 153 = .ok (.invokevirtual 53, 3) := by decide +kernel
theorem dX6_isRight_156 : decode cX6_isRight 156 = .ok (.ireturn, 1) := by decide +kernel
theorem dX6_isRight_157 : decode cX6_isRight 157 = .ok (.aload_n 0, 1) := by decide +kernel
theorem dX6_isRight_158 : decode cX6_isRight 158 = .ok (.iload_n 1, 1) := by decide +kernel
theorem dX6_isRight_159 : decode cX6_isRight 159 = .ok (.iload 4, 2) := by decide +kernel
theorem dX6_isRight_161 : decode cX6_isRight 161 = .ok (.iconst 1, 1) := by decide +kernel
theorem dX6_isRight_162 : decode cX6_isRight 162 = .ok (.invokevirtual 53, 3) := by decide +kernel
theorem dX6_isRight_165 : decode cX6_isRight 165 = .ok (.ireturn, 1) := by decide +kernel
theorem dX6_isRight_166 : decode cX6_isRight 166 = .ok (.iconst 0, 1) := by decide +kernel
theorem dX6_isRight_167 : decode cX6_isRight 167 = .ok (.ireturn, 1) := by decide +kernel
abbrev rmX6_isRight : Room := { frames := 3, cells := 0, slots := 0, locals := 76 }
theorem ywX6_isRight : fY yX6_isRight "EqualCourt$Steps" cX6_isRight 5 (some .boolean) 1 := ⟨tw_807, tw_808, tw_10, tw_809, by decide +kernel⟩
set_option maxHeartbeats 4000000 in
set_option maxRecDepth 100000 in
theorem cX6_isRight_ok {D : va_G} {ad : Nat → Nat} {cy cz : ClassId} {l : Launch} {z : fS} {v1 : Int32} {r : Int32} (h : fX6_isRight z v1 = some r) : fMi D 76 ad (cfX ad cy cz) cy cz l yX6_isRight cX6_isRight 5 (some .boolean) rmX6_isRight [.ref (ad 63), .int v1] z r z := by
  refine f_bodyz (by decide) (Nat.le_of_ble_eq_true rfl) (fun p e s m args below meth c Q hC hret ls hl hI => ?_)
  have hx := hC.1
  have hb := hC.2.1
  have hl : lv_has ls 5 [(0, .ref (ad 63)), (1, .int v1)] := hl
  unfold fX6_isRight at h
  refine lv_aload_n hx hb dX6_isRight_0 rfl (lv_at hl 0 rfl) ?_
  refine gX6_lefts hC hI tw_257 dX6_isRight_1 ?_
  refine lv_iload_n hx hb dX6_isRight_4 rfl (lv_at hl 1 rfl) ?_
  have g5 := (gd_at h).1
  replace h := (gd_at h).2
  refine r_iald hC hI aX_65 g5 dX6_isRight_5 ?_
  refine lv_topi (fun x6 e6 => ?_)
  replace h := bnd_at h e6
  refine lv_istore_n (lv' := [(2, .int x6), (0, .ref (ad 63)), (1, .int v1)]) hx hb dX6_isRight_6 rfl hl (by decide) rfl (fun ls hl => ?_)
  refine lv_aload_n hx hb dX6_isRight_7 rfl (lv_at hl 1 rfl) ?_
  refine gX6_rights hC hI tw_258 dX6_isRight_8 ?_
  refine lv_iload_n hx hb dX6_isRight_11 rfl (lv_at hl 2 rfl) ?_
  have g12 := (gd_at h).1
  replace h := (gd_at h).2
  refine r_iald hC hI aX_66 g12 dX6_isRight_12 ?_
  refine lv_topi (fun x13 e13 => ?_)
  replace h := bnd_at h e13
  refine lv_istore_n (lv' := [(3, .int x13), (2, .int x6), (0, .ref (ad 63)), (1, .int v1)]) hx hb dX6_isRight_13 rfl hl (by decide) rfl (fun ls hl => ?_)
  refine lv_aload_n hx hb dX6_isRight_14 rfl (lv_at hl 2 rfl) ?_
  refine gX6_is hC hI tw_259 dX6_isRight_15 ?_
  refine lv_iload_n hx hb dX6_isRight_18 rfl (lv_at hl 3 rfl) ?_
  have g19 := (gd_at h).1
  replace h := (gd_at h).2
  refine r_iald hC hI aX_67 g19 dX6_isRight_19 ?_
  refine lv_topi (fun x20 e20 => ?_)
  replace h := bnd_at h e20
  refine lv_istore (lv' := [(4, .int x20), (3, .int x13), (2, .int x6), (0, .ref (ad 63)), (1, .int v1)]) hx hb dX6_isRight_20 hl (by decide) rfl (fun ls hl => ?_)
  refine lv_aload_n hx hb dX6_isRight_22 rfl (lv_at hl 3 rfl) ?_
  refine gX6_reasons hC hI tw_256 dX6_isRight_23 ?_
  refine lv_iload_n hx hb dX6_isRight_26 rfl (lv_at hl 4 rfl) ?_
  have g27 := (gd_at h).1
  replace h := (gd_at h).2
  refine r_iald hC hI aX_64 g27 dX6_isRight_27 ?_
  refine lv_topi (fun y28 e28 => ?_)
  by_cases b28_0 : y28 = (0 : Int32)
  · replace h := if_t h (e28.symm.trans b28_0)
    refine lv_tableIn (tgt := 72) hx hb dX6_isRight_28 (by rw [b28_0]; decide) (by rw [b28_0]; decide) (by rw [b28_0]; rfl) (by decide) ?_
    refine lv_aload_n hx hb dX6_isRight_72 rfl (lv_at hl 3 rfl) ?_
    refine lv_iload hx hb dX6_isRight_73 (lv_at hl 0 rfl) ?_
    refine lv_iload_n hx hb dX6_isRight_75 rfl (lv_at hl 2 rfl) ?_
    refine lv_iload_n hx hb dX6_isRight_76 rfl (lv_at hl 1 rfl) ?_
    replace h := bp_at h
    obtain ⟨r77, e77, h⟩ := h
    refine r_calli (rest := []) hC hI oX_63 (C := "EqualCourt$Steps") rfl ywX6_isSaid tw_810 (cX6_isSaid_ok  e77) ⟨Nat.le_of_ble_eq_true rfl, Nat.le_of_ble_eq_true rfl⟩ ⟨rfl, rfl⟩ rfl hl.1 rfl (Nat.le_of_ble_eq_true rfl) dX6_isRight_77 (fun H locs hI => ?_)
    have g80 := (gd_at h).1
    replace h := (gd_at h).2
    exact hret (ret_p _ h) g80 dX6_isRight_80 hI
  replace h := if_f h (fun q => b28_0 (e28.trans q))
  by_cases b28_1 : y28 = (1 : Int32)
  · replace h := if_t h (e28.symm.trans b28_1)
    refine lv_tableIn (tgt := 81) hx hb dX6_isRight_28 (by rw [b28_1]; decide) (by rw [b28_1]; decide) (by rw [b28_1]; rfl) (by decide) ?_
    refine lv_iload_n hx hb dX6_isRight_81 rfl (lv_at hl 2 rfl) ?_
    refine lv_iload_n hx hb dX6_isRight_82 rfl (lv_at hl 1 rfl) ?_
    refine lv_icmp_ne (tgt := 90) hx hb dX6_isRight_83 (by decide) (fun c83 => ?_) (fun c83 => ?_)
    · replace h := if_f h c83
      refine lv_iconst (v := 0) hx hb dX6_isRight_90 (by decide) ?_
      exact hret (ret_p _ h) (by decide) dX6_isRight_91 hI
    · replace h := if_t h c83
      refine lv_iconst (v := 1) hx hb dX6_isRight_86 (by decide) ?_
      refine lv_goto (tgt := 91) hx hb dX6_isRight_87 (by decide) ?_
      exact hret (ret_p _ h) (by decide) dX6_isRight_91 hI
  replace h := if_f h (fun q => b28_1 (e28.trans q))
  by_cases b28_2 : y28 = (2 : Int32)
  · replace h := if_t h (e28.symm.trans b28_2)
    refine lv_tableIn (tgt := 92) hx hb dX6_isRight_28 (by rw [b28_2]; decide) (by rw [b28_2]; decide) (by rw [b28_2]; rfl) (by decide) ?_
    refine lv_iload hx hb dX6_isRight_92 (lv_at hl 0 rfl) ?_
    refine lv_iload_n hx hb dX6_isRight_94 rfl (lv_at hl 4 rfl) ?_
    refine lv_icmp_ge (tgt := 113) hx hb dX6_isRight_95 (by decide) (fun c95 => ?_) (fun c95 => ?_)
    · replace h := if_t h c95
      refine lv_iconst (v := 0) hx hb dX6_isRight_113 (by decide) ?_
      exact hret (ret_p _ h) (by decide) dX6_isRight_114 hI
    · replace h := if_f h c95
      refine lv_aload_n hx hb dX6_isRight_98 rfl (lv_at hl 3 rfl) ?_
      refine lv_iload hx hb dX6_isRight_99 (lv_at hl 0 rfl) ?_
      refine lv_iload_n hx hb dX6_isRight_101 rfl (lv_at hl 1 rfl) ?_
      refine lv_iload_n hx hb dX6_isRight_102 rfl (lv_at hl 2 rfl) ?_
      replace h := bp_at h
      obtain ⟨r103, e103, h⟩ := h
      refine r_calli (rest := []) hC hI oX_63 (C := "EqualCourt$Steps") rfl ywX6_says tw_819 (cX6_says_ok  e103) ⟨Nat.le_of_ble_eq_true rfl, Nat.le_of_ble_eq_true rfl⟩ ⟨rfl, rfl⟩ rfl hl.1 rfl (Nat.le_of_ble_eq_true rfl) dX6_isRight_103 (fun H locs hI => ?_)
      refine lv_if_eq (tgt := 113) hx hb dX6_isRight_106 (by decide) (fun c106 => ?_) (fun c106 => ?_)
      · replace h := if_t h c106
        refine lv_iconst (v := 0) hx hb dX6_isRight_113 (by decide) ?_
        exact hret (ret_p _ h) (by decide) dX6_isRight_114 hI
      · replace h := if_f h c106
        refine lv_iconst (v := 1) hx hb dX6_isRight_109 (by decide) ?_
        refine lv_goto (tgt := 114) hx hb dX6_isRight_110 (by decide) ?_
        exact hret (ret_p _ h) (by decide) dX6_isRight_114 hI
  replace h := if_f h (fun q => b28_2 (e28.trans q))
  by_cases b28_3 : y28 = (3 : Int32)
  · replace h := if_t h (e28.symm.trans b28_3)
    refine lv_tableIn (tgt := 115) hx hb dX6_isRight_28 (by rw [b28_3]; decide) (by rw [b28_3]; decide) (by rw [b28_3]; rfl) (by decide) ?_
    refine lv_aload_n hx hb dX6_isRight_115 rfl (lv_at hl 3 rfl) ?_
    refine lv_iload_n hx hb dX6_isRight_116 rfl (lv_at hl 4 rfl) ?_
    refine lv_iload hx hb dX6_isRight_117 (lv_at hl 0 rfl) ?_
    refine lv_aload_n hx hb dX6_isRight_119 rfl (lv_at hl 3 rfl) ?_
    refine gX6_js hC hI tw_260 dX6_isRight_120 ?_
    refine lv_iload_n hx hb dX6_isRight_123 rfl (lv_at hl 4 rfl) ?_
    have g124 := (gd_at h).1
    replace h := (gd_at h).2
    refine r_iald hC hI aX_68 g124 dX6_isRight_124 ?_
    replace h := bp_at h
    obtain ⟨r125, e125, h⟩ := h
    refine r_calli (rest := []) hC hI oX_63 (C := "EqualCourt$Steps") rfl ywX6_isChained tw_823 (cX6_isChained_ok  e125) ⟨Nat.le_of_ble_eq_true rfl, Nat.le_of_ble_eq_true rfl⟩ ⟨rfl, rfl⟩ rfl hl.1 rfl (Nat.le_of_ble_eq_true rfl) dX6_isRight_125 (fun H locs hI => ?_)
    have g128 := (gd_at h).1
    replace h := (gd_at h).2
    exact hret (ret_p _ h) g128 dX6_isRight_128 hI
  replace h := if_f h (fun q => b28_3 (e28.trans q))
  by_cases b28_4 : y28 = (4 : Int32)
  · replace h := if_t h (e28.symm.trans b28_4)
    refine lv_tableIn (tgt := 129) hx hb dX6_isRight_28 (by rw [b28_4]; decide) (by rw [b28_4]; decide) (by rw [b28_4]; rfl) (by decide) ?_
    refine lv_aload_n hx hb dX6_isRight_129 rfl (lv_at hl 3 rfl) ?_
    refine lv_iload_n hx hb dX6_isRight_130 rfl (lv_at hl 4 rfl) ?_
    refine lv_iload_n hx hb dX6_isRight_131 rfl (lv_at hl 2 rfl) ?_
    refine lv_iload_n hx hb dX6_isRight_132 rfl (lv_at hl 1 rfl) ?_
    refine lv_iload hx hb dX6_isRight_133 (lv_at hl 0 rfl) ?_
    refine lv_iconst (v := 1) hx hb dX6_isRight_135 (by decide) ?_
    refine lv_icmp_ne (tgt := 143) hx hb dX6_isRight_136 (by decide) (fun c136 => ?_) (fun c136 => ?_)
    · replace h := if_f h c136
      refine lv_iconst (v := 0) hx hb dX6_isRight_143 (by decide) ?_
      replace h := bp_at h
      obtain ⟨r144, e144, h⟩ := h
      refine r_calli (rest := []) hC hI oX_63 (C := "EqualCourt$Steps") rfl ywX6_isByParts tw_827 (cX6_isByParts_ok  e144) ⟨Nat.le_of_ble_eq_true rfl, Nat.le_of_ble_eq_true rfl⟩ ⟨rfl, rfl⟩ rfl hl.1 rfl (Nat.le_of_ble_eq_true rfl) dX6_isRight_144 (fun H locs hI => ?_)
      have g147 := (gd_at h).1
      replace h := (gd_at h).2
      exact hret (ret_p _ h) g147 dX6_isRight_147 hI
    · replace h := if_t h c136
      refine lv_iconst (v := 1) hx hb dX6_isRight_139 (by decide) ?_
      refine lv_goto (tgt := 144) hx hb dX6_isRight_140 (by decide) ?_
      replace h := bp_at h
      obtain ⟨r144, e144, h⟩ := h
      refine r_calli (rest := []) hC hI oX_63 (C := "EqualCourt$Steps") rfl ywX6_isByParts tw_827 (cX6_isByParts_ok  e144) ⟨Nat.le_of_ble_eq_true rfl, Nat.le_of_ble_eq_true rfl⟩ ⟨rfl, rfl⟩ rfl hl.1 rfl (Nat.le_of_ble_eq_true rfl) dX6_isRight_144 (fun H locs hI => ?_)
      have g147 := (gd_at h).1
      replace h := (gd_at h).2
      exact hret (ret_p _ h) g147 dX6_isRight_147 hI
  replace h := if_f h (fun q => b28_4 (e28.trans q))
  by_cases b28_5 : y28 = (5 : Int32)
  · replace h := if_t h (e28.symm.trans b28_5)
    refine lv_tableIn (tgt := 148) hx hb dX6_isRight_28 (by rw [b28_5]; decide) (by rw [b28_5]; decide) (by rw [b28_5]; rfl) (by decide) ?_
    refine lv_aload_n hx hb dX6_isRight_148 rfl (lv_at hl 3 rfl) ?_
    refine lv_iload_n hx hb dX6_isRight_149 rfl (lv_at hl 4 rfl) ?_
    refine lv_iload hx hb dX6_isRight_150 (lv_at hl 0 rfl) ?_
    refine lv_iconst (v := 0) hx hb dX6_isRight_152 (by decide) ?_
    replace h := bp_at h
    obtain ⟨r153, e153, h⟩ := h
    refine r_calli (rest := []) hC hI oX_63 (C := "EqualCourt$Steps") rfl ywX6_isOfRows tw_839 (cX6_isOfRows_ok  e153) ⟨Nat.le_of_ble_eq_true rfl, Nat.le_of_ble_eq_true rfl⟩ ⟨rfl, rfl⟩ rfl hl.1 rfl (Nat.le_of_ble_eq_true rfl) dX6_isRight_153 (fun H locs hI => ?_)
    have g156 := (gd_at h).1
    replace h := (gd_at h).2
    exact hret (ret_p _ h) g156 dX6_isRight_156 hI
  replace h := if_f h (fun q => b28_5 (e28.trans q))
  by_cases b28_6 : y28 = (6 : Int32)
  · replace h := if_t h (e28.symm.trans b28_6)
    refine lv_tableIn (tgt := 157) hx hb dX6_isRight_28 (by rw [b28_6]; decide) (by rw [b28_6]; decide) (by rw [b28_6]; rfl) (by decide) ?_
    refine lv_aload_n hx hb dX6_isRight_157 rfl (lv_at hl 3 rfl) ?_
    refine lv_iload_n hx hb dX6_isRight_158 rfl (lv_at hl 4 rfl) ?_
    refine lv_iload hx hb dX6_isRight_159 (lv_at hl 0 rfl) ?_
    refine lv_iconst (v := 1) hx hb dX6_isRight_161 (by decide) ?_
    replace h := bp_at h
    obtain ⟨r162, e162, h⟩ := h
    refine r_calli (rest := []) hC hI oX_63 (C := "EqualCourt$Steps") rfl ywX6_isOfRows tw_839 (cX6_isOfRows_ok  e162) ⟨Nat.le_of_ble_eq_true rfl, Nat.le_of_ble_eq_true rfl⟩ ⟨rfl, rfl⟩ rfl hl.1 rfl (Nat.le_of_ble_eq_true rfl) dX6_isRight_162 (fun H locs hI => ?_)
    have g165 := (gd_at h).1
    replace h := (gd_at h).2
    exact hret (ret_p _ h) g165 dX6_isRight_165 hI
  replace h := if_f h (fun q => b28_6 (e28.trans q))
  refine lv_tableOut (tgt := 166) hx hb dX6_isRight_28 (by have q0 := lv_neT b28_0 (a := 0) (by decide); have q1 := lv_neT b28_1 (a := 1) (by decide); have q2 := lv_neT b28_2 (a := 2) (by decide); have q3 := lv_neT b28_3 (a := 3) (by decide); have q4 := lv_neT b28_4 (a := 4) (by decide); have q5 := lv_neT b28_5 (a := 5) (by decide); have q6 := lv_neT b28_6 (a := 6) (by decide); omega) (by decide) ?_
  refine lv_iconst (v := 0) hx hb dX6_isRight_166 (by decide) ?_
  exact hret (ret_p _ h) (by decide) dX6_isRight_167 hI
