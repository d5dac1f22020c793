theorem dX4_classes_0 : decode cX4_classes 0 = .ok (.aload_n 0, 1) := by decide +kernel
theorem dX4_classes_1 : decode cX4_classes 1 = .ok (.getfield 53, 3) := by decide +kernel
theorem dX4_classes_4 : decode cX4_classes 4 = .ok (.ireturn, 1) := by decide +kernel
abbrev rmX4_classes : Room := { frames := 0, cells := 0, slots := 0, locals := 0 }
theorem ywX4_classes : fY yX4_classes "EqualCourt$Partition" cX4_classes 1 (some .int) 0 := ⟨tw_510, tw_511, tw_8, tw_512, by decide +kernel⟩
set_option maxHeartbeats 4000000 in
set_option maxRecDepth 100000 in
theorem cX4_classes_ok {D : va_G} {ad : Nat → Nat} {cy cz : ClassId} {l : Launch} {z : fS} {pb : Nat} (hpb : isP pb) {r : Int32} (h : fX4_classes pb z = some r) : fMi D 76 ad (cfX ad cy cz) cy cz l yX4_classes cX4_classes 1 (some .int) rmX4_classes [.ref (ad pb)] z r z := by
  refine f_bodyi (by decide) (Nat.le_of_ble_eq_true rfl) (fun p e s m args below meth c Q hC hret ls hl hI => ?_)
  have hx := hC.1
  have hb := hC.2.1
  have hl : lv_has ls 1 [(0, .ref (ad pb))] := hl
  unfold fX4_classes at h
  refine lv_aload_n hx hb dX4_classes_0 rfl (lv_at hl 0 rfl) ?_
  refine gX4_classes hpb hC hI tw_164 dX4_classes_1 ?_
  exact hret (ret_p _ h) dX4_classes_4 hI
theorem dX4_isTorn_0 : decode cX4_isTorn 0 = .ok (.aload_n 0, 1) := by decide +kernel
theorem dX4_isTorn_1 : decode cX4_isTorn 1 = .ok (.getfield 57, 3) := by decide +kernel
theorem dX4_isTorn_4 : decode cX4_isTorn 4 = .ok (.ireturn, 1) := by decide +kernel
abbrev rmX4_isTorn : Room := { frames := 0, cells := 0, slots := 0, locals := 0 }
theorem ywX4_isTorn : fY yX4_isTorn "EqualCourt$Partition" cX4_isTorn 1 (some .boolean) 0 := ⟨tw_534, tw_535, tw_8, tw_536, by decide +kernel⟩
set_option maxHeartbeats 4000000 in
set_option maxRecDepth 100000 in
theorem cX4_isTorn_ok {D : va_G} {ad : Nat → Nat} {cy cz : ClassId} {l : Launch} {z : fS} {pb : Nat} (hpb : isP pb) {r : Int32} (h : fX4_isTorn pb z = some r) : fMi D 76 ad (cfX ad cy cz) cy cz l yX4_isTorn cX4_isTorn 1 (some .boolean) rmX4_isTorn [.ref (ad pb)] z r z := by
  refine f_bodyz (by decide) (Nat.le_of_ble_eq_true rfl) (fun p e s m args below meth c Q hC hret ls hl hI => ?_)
  have hx := hC.1
  have hb := hC.2.1
  have hl : lv_has ls 1 [(0, .ref (ad pb))] := hl
  unfold fX4_isTorn at h
  refine lv_aload_n hx hb dX4_isTorn_0 rfl (lv_at hl 0 rfl) ?_
  refine gX4_torn hpb hC hI tw_165 dX4_isTorn_1 ?_
  have g4 := (gd_at h).1
  replace h := (gd_at h).2
  exact hret (ret_p _ h) g4 dX4_isTorn_4 hI
theorem dX4_isOne_0 : decode cX4_isOne 0 = .ok (.aload_n 0, 1) := by decide +kernel
theorem dX4_isOne_1 : decode cX4_isOne 1 = .ok (.getfield 9, 3) := by decide +kernel
theorem dX4_isOne_4 : decode cX4_isOne 4 = .ok (.iload_n 1, 1) := by decide +kernel
theorem dX4_isOne_5 : decode cX4_isOne 5 = .ok (.iaload, 1) := by decide +kernel
theorem dX4_isOne_6 : decode cX4_isOne 6 = .ok (.aload_n 0, 1) := by decide +kernel
theorem dX4_isOne_7 : decode cX4_isOne 7 = .ok (.getfield 9, 3) := by decide +kernel
theorem dX4_isOne_10 : decode cX4_isOne 10 = .ok (.iload_n 2, 1) := by decide +kernel
theorem dX4_isOne_11 : decode cX4_isOne 11 = .ok (.iaload, 1) := by decide +kernel
theorem dX4_isOne_12 : decode cX4_isOne 12 = .ok (.if_icmp .ne 7, 3) := by decide +kernel
theorem dX4_isOne_15 : decode cX4_isOne 15 = .ok (.iconst 1, 1) := by decide +kernel
theorem dX4_isOne_16 : decode cX4_isOne 16 = .ok (.goto 4, 3) := by decide +kernel
theorem dX4_isOne_19 : decode cX4_isOne 19 = .ok (.iconst 0, 1) := by decide +kernel
theorem dX4_isOne_20 : decode cX4_isOne 20 = .ok (.ireturn, 1) := by decide +kernel
abbrev rmX4_isOne : Room := { frames := 0, cells := 0, slots := 0, locals := 0 }
theorem ywX4_isOne : fY yX4_isOne "EqualCourt$Partition" cX4_isOne 3 (some .boolean) 2 := ⟨tw_555, tw_556, tw_8, tw_557, by decide +kernel⟩
set_option maxHeartbeats 4000000 in
set_option maxRecDepth 100000 in
theorem cX4_isOne_ok {D : va_G} {ad : Nat → Nat} {cy cz : ClassId} {l : Launch} {z : fS} {pb : Nat} (hpb : isP pb) {v1 : Int32} {v2 : Int32} {r : Int32} (h : fX4_isOne pb z v1 v2 = some r) : fMi D 76 ad (cfX ad cy cz) cy cz l yX4_isOne cX4_isOne 3 (some .boolean) rmX4_isOne [.ref (ad pb), .int v1, .int v2] z r z := by
  refine f_bodyz (by decide) (Nat.le_of_ble_eq_true rfl) (fun p e s m args below meth c Q hC hret ls hl hI => ?_)
  have hx := hC.1
  have hb := hC.2.1
  have hl : lv_has ls 3 [(0, .ref (ad pb)), (1, .int v1), (2, .int v2)] := hl
  unfold fX4_isOne at h
  refine lv_aload_n hx hb dX4_isOne_0 rfl (lv_at hl 0 rfl) ?_
  refine gX4_root hpb hC hI tw_154 dX4_isOne_1 ?_
  refine lv_iload_n hx hb dX4_isOne_4 rfl (lv_at hl 1 rfl) ?_
  have g5 := (gd_at h).1
  replace h := (gd_at h).2
  refine r_iald hC hI (aP_1 hpb) g5 dX4_isOne_5 ?_
  refine lv_aload_n hx hb dX4_isOne_6 rfl (lv_at hl 0 rfl) ?_
  refine gX4_root hpb hC hI tw_154 dX4_isOne_7 ?_
  refine lv_iload_n hx hb dX4_isOne_10 rfl (lv_at hl 2 rfl) ?_
  have g11 := (gd_at h).1
  replace h := (gd_at h).2
  refine r_iald hC hI (aP_1 hpb) g11 dX4_isOne_11 ?_
  refine lv_icmp_ne (tgt := 19) hx hb dX4_isOne_12 (by decide) (fun c12 => ?_) (fun c12 => ?_)
  · replace h := if_f h c12
    refine lv_iconst (v := 0) hx hb dX4_isOne_19 (by decide) ?_
    exact hret (ret_p _ h) (by decide) dX4_isOne_20 hI
  · replace h := if_t h c12
    refine lv_iconst (v := 1) hx hb dX4_isOne_15 (by decide) ?_
    refine lv_goto (tgt := 20) hx hb dX4_isOne_16 (by decide) ?_
    exact hret (ret_p _ h) (by decide) dX4_isOne_20 hI
theorem dX4_headOf_0 : decode cX4_headOf 0 = .ok (.aload_n 0, 1) := by decide +kernel
theorem dX4_headOf_1 : decode cX4_headOf 1 = .ok (.getfield 21, 3) := by decide +kernel
theorem dX4_headOf_4 : decode cX4_headOf 4 = .ok (.aload_n 0, 1) := by decide +kernel
theorem dX4_headOf_5 : decode cX4_headOf 5 = .ok (.getfield 9, 3) := by decide +kernel
theorem dX4_headOf_8 : decode cX4_headOf 8 = .ok (.iload_n 1, 1) := by decide +kernel
theorem dX4_headOf_9 : decode cX4_headOf 9 = .ok (.iaload, 1) := by decide +kernel
theorem dX4_headOf_10 : decode cX4_headOf 10 = .ok (.iaload, 1) := by decide +kernel
theorem dX4_headOf_11 : decode cX4_headOf 11 = .ok (.ireturn, 1) := by decide +kernel
abbrev rmX4_headOf : Room := { frames := 0, cells := 0, slots := 0, locals := 0 }
theorem ywX4_headOf : fY yX4_headOf "EqualCourt$Partition" cX4_headOf 2 (some .int) 1 := ⟨tw_666, tw_667, tw_8, tw_668, by decide +kernel⟩
set_option maxHeartbeats 4000000 in
set_option maxRecDepth 100000 in
theorem cX4_headOf_ok {D : va_G} {ad : Nat → Nat} {cy cz : ClassId} {l : Launch} {z : fS} {pb : Nat} (hpb : isP pb) {v1 : Int32} {r : Int32} (h : fX4_headOf pb z v1 = some r) : fMi D 76 ad (cfX ad cy cz) cy cz l yX4_headOf cX4_headOf 2 (some .int) rmX4_headOf [.ref (ad pb), .int v1] z r z := by
  refine f_bodyi (by decide) (Nat.le_of_ble_eq_true rfl) (fun p e s m args below meth c Q hC hret ls hl hI => ?_)
  have hx := hC.1
  have hb := hC.2.1
  have hl : lv_has ls 2 [(0, .ref (ad pb)), (1, .int v1)] := hl
  unfold fX4_headOf at h
  refine lv_aload_n hx hb dX4_headOf_0 rfl (lv_at hl 0 rfl) ?_
  refine gX4_least hpb hC hI tw_157 dX4_headOf_1 ?_
  refine lv_aload_n hx hb dX4_headOf_4 rfl (lv_at hl 0 rfl) ?_
  refine gX4_root hpb hC hI tw_154 dX4_headOf_5 ?_
  refine lv_iload_n hx hb dX4_headOf_8 rfl (lv_at hl 1 rfl) ?_
  have g9 := (gd_at h).1
  replace h := (gd_at h).2
  refine r_iald hC hI (aP_1 hpb) g9 dX4_headOf_9 ?_
  have g10 := (gd_at h).1
  replace h := (gd_at h).2
  refine r_iald hC hI (aP_4 hpb) g10 dX4_headOf_10 ?_
  exact hret (ret_p _ h) dX4_headOf_11 hI
theorem dX4_numberOf_0 : decode cX4_numberOf 0 = .ok (.aload_n 0, 1) := by decide +kernel
theorem dX4_numberOf_1 : decode cX4_numberOf 1 = .ok (.getfield 24, 3) := by decide +kernel
theorem dX4_numberOf_4 : decode cX4_numberOf 4 = .ok (.aload_n 0, 1) := by decide +kernel
theorem dX4_numberOf_5 : decode cX4_numberOf 5 = .ok (.getfield 9, 3) := by decide +kernel
theorem dX4_numberOf_8 : decode cX4_numberOf 8 = .ok (.iload_n 1, 1) := by decide +kernel
theorem dX4_numberOf_9 : decode cX4_numberOf 9 = .ok (.iaload, 1) := by decide +kernel
theorem dX4_numberOf_10 : decode cX4_numberOf 10 = .ok (.iaload, 1) := by decide +kernel
theorem dX4_numberOf_11 : decode cX4_numberOf 11 = .ok (.ireturn, 1) := by decide +kernel
abbrev rmX4_numberOf : Room := { frames := 0, cells := 0, slots := 0, locals := 0 }
theorem ywX4_numberOf : fY yX4_numberOf "EqualCourt$Partition" cX4_numberOf 2 (some .int) 1 := ⟨tw_689, tw_690, tw_8, tw_691, by decide +kernel⟩
set_option maxHeartbeats 4000000 in
set_option maxRecDepth 100000 in
theorem cX4_numberOf_ok {D : va_G} {ad : Nat → Nat} {cy cz : ClassId} {l : Launch} {z : fS} {pb : Nat} (hpb : isP pb) {v1 : Int32} {r : Int32} (h : fX4_numberOf pb z v1 = some r) : fMi D 76 ad (cfX ad cy cz) cy cz l yX4_numberOf cX4_numberOf 2 (some .int) rmX4_numberOf [.ref (ad pb), .int v1] z r z := by
  refine f_bodyi (by decide) (Nat.le_of_ble_eq_true rfl) (fun p e s m args below meth c Q hC hret ls hl hI => ?_)
  have hx := hC.1
  have hb := hC.2.1
  have hl : lv_has ls 2 [(0, .ref (ad pb)), (1, .int v1)] := hl
  unfold fX4_numberOf at h
  refine lv_aload_n hx hb dX4_numberOf_0 rfl (lv_at hl 0 rfl) ?_
  refine gX4_number hpb hC hI tw_158 dX4_numberOf_1 ?_
  refine lv_aload_n hx hb dX4_numberOf_4 rfl (lv_at hl 0 rfl) ?_
  refine gX4_root hpb hC hI tw_154 dX4_numberOf_5 ?_
  refine lv_iload_n hx hb dX4_numberOf_8 rfl (lv_at hl 1 rfl) ?_
  have g9 := (gd_at h).1
  replace h := (gd_at h).2
  refine r_iald hC hI (aP_1 hpb) g9 dX4_numberOf_9 ?_
  have g10 := (gd_at h).1
  replace h := (gd_at h).2
  refine r_iald hC hI (aP_5 hpb) g10 dX4_numberOf_10 ?_
  exact hret (ret_p _ h) dX4_numberOf_11 hI
theorem dX4_unnumberedBelow_0 : decode cX4_unnumberedBelow 0 = .ok (.iconst 0, 1) := by decide +kernel
theorem dX4_unnumberedBelow_1 : decode cX4_unnumberedBelow 1 = .ok (.istore_n 2, 1) := by decide +kernel
theorem dX4_unnumberedBelow_2 : decode cX4_unnumberedBelow 2 = .ok (.iconst 0, 1) := by decide +kernel
theorem dX4_unnumberedBelow_3 : decode cX4_unnumberedBelow 3 = .ok (.istore_n 3, 1) := by decide +kernel
theorem dX4_unnumberedBelow_4 : decode cX4_unnumberedBelow 4 = .ok (.iload_n 3, 1) := by decide +kernel
theorem dX4_unnumberedBelow_5 : decode cX4_unnumberedBelow 5 = .ok (.iload_n 1, 1) := by decide +kernel
theorem dX4_unnumberedBelow_6 : decode cX4_unnumberedBelow 6 = .ok (.if_icmp .ge 30, 3) := by decide +kernel
theorem dX4_unnumberedBelow_9 : decode cX4_unnumberedBelow 9 = .ok (.aload_n 0, 1) := by decide +kernel
theorem dX4_unnumberedBelow_10 : decode cX4_unnumberedBelow 10 = .ok (.iload_n 3, 1) := by decide +kernel
theorem dX4_unnumberedBelow_11 : decode cX4_unnumberedBelow 11 = .ok (.invokevirtual 61, 3) := by decide +kernel
theorem dX4_unnumberedBelow_14 : decode cX4_unnumberedBelow 14 = .ok (.iload_n 3, 1) := by decide +kernel
theorem dX4_unnumberedBelow_15 : decode cX4_unnumberedBelow 15 = .ok (.if_icmp .ne 15, 3) := by decide +kernel
theorem dX4_unnumberedBelow_18 : decode cX4_unnumberedBelow 18 = .ok (.aload_n 0, 1) := by decide +kernel
theorem dX4_unnumberedBelow_19 : decode cX4_unnumberedBelow 19 = .ok (.iload_n 3, 1) := by decide +kernel
theorem dX4_unnumberedBelow_20 : decode cX4_unnumberedBelow 20 = .ok (.invokevirtual 65, 3) := by decide +kernel
theorem dX4_unnumberedBelow_23 : decode cX4_unnumberedBelow 23 = .ok (.iconst (-1), 1) := by decide +kernel
theorem dX4_unnumberedBelow_24 : decode cX4_unnumberedBelow 24 = .ok (.if_icmp .ne 6, 3) := by decide +kernel
theorem dX4_unnumberedBelow_27 : decode cX4_unnumberedBelow 27 = .ok (.iinc 2 1, 3) := by decide +kernel
theorem dX4_unnumberedBelow_30 : decode cX4_unnumberedBelow 30 = .ok (.iinc 3 1, 3) := by decide +kernel
theorem dX4_unnumberedBelow_33 : decode cX4_unnumberedBelow 33 = .ok (.goto (-29), 3) := by decide +kernel
theorem dX4_unnumberedBelow_36 : decode cX4_unnumberedBelow 36 = .ok (.iload_n 2, 1) := by decide +kernel
theorem dX4_unnumberedBelow_37 : decode cX4_unnumberedBelow 37 = .ok (.ireturn, 1) := by decide +kernel
abbrev rmX4_unnumberedBelow : Room := { frames := 1, cells := 0, slots := 0, locals := 21 }
theorem ywX4_unnumberedBelow : fY yX4_unnumberedBelow "EqualCourt$Partition" cX4_unnumberedBelow 4 (some .int) 1 := ⟨tw_693, tw_694, tw_8, tw_695, by decide +kernel⟩
set_option maxHeartbeats 4000000 in
set_option maxRecDepth 100000 in
theorem cX4_unnumberedBelow_ok {D : va_G} {ad : Nat → Nat} {cy cz : ClassId} {l : Launch} {z : fS} {pb : Nat} (hpb : isP pb) {v1 : Int32} {r : Int32} (h : fX4_unnumberedBelow pb z v1 = some r) : fMi D 76 ad (cfX ad cy cz) cy cz l yX4_unnumberedBelow cX4_unnumberedBelow 4 (some .int) rmX4_unnumberedBelow [.ref (ad pb), .int v1] z r z := by
  refine f_bodyi (by decide) (Nat.le_of_ble_eq_true rfl) (fun p e s m args below meth c Q hC hret ls hl hI => ?_)
  have hx := hC.1
  have hb := hC.2.1
  have hl : lv_has ls 4 [(0, .ref (ad pb)), (1, .int v1)] := hl
  unfold fX4_unnumberedBelow at h
  refine lv_iconst (v := 0) hx hb dX4_unnumberedBelow_0 (by decide) ?_
  refine lv_istore_n (lv' := [(2, .int (0 : Int32)), (0, .ref (ad pb)), (1, .int v1)]) hx hb dX4_unnumberedBelow_1 rfl hl (by decide) rfl (fun ls hl => ?_)
  refine lv_iconst (v := 0) hx hb dX4_unnumberedBelow_2 (by decide) ?_
  refine lv_istore_n (lv' := [(3, .int (0 : Int32)), (2, .int (0 : Int32)), (0, .ref (ad pb)), (1, .int v1)]) hx hb dX4_unnumberedBelow_3 rfl hl (by decide) rfl (fun ls hl => ?_)
  have w4 : ∀ (N4 : Nat) (v1 : Int32) (v2 : Int32) (v3 : Int32) (H : Heap) (locs : List Loc) (ls : Array Slot), fI D 76 ad (cfX ad cy cz) z s H locs → lv_has ls 4 [(0, .ref (ad pb)), (1, .int v1), (2, .int v2), (3, .int v3)] → lX4_unnumberedBelow_4 pb  z v1 N4 v2 v3 = some r → W p l e rmX4_unnumberedBelow s m args below meth c H locs 0 0 Q (F0 m 4 ls []) := by
    intro N4
    induction N4 with
    | zero =>
      intro v1 v2 v3 H locs ls hI hl h
      exact none_no h
    | succ N4 ih4 =>
      intro v1 v2 v3 H locs ls hI hl h
      rw [lX4_unnumberedBelow_4.eq_2] at h
      refine lv_iload_n hx hb dX4_unnumberedBelow_4 rfl (lv_at hl 3 rfl) ?_
      refine lv_iload_n hx hb dX4_unnumberedBelow_5 rfl (lv_at hl 1 rfl) ?_
      refine lv_icmp_ge (tgt := 36) hx hb dX4_unnumberedBelow_6 (by decide) (fun c6 => ?_) (fun c6 => ?_)
      · replace h := if_t h c6
        refine lv_iload_n hx hb dX4_unnumberedBelow_36 rfl (lv_at hl 2 rfl) ?_
        exact hret (ret_p _ h) dX4_unnumberedBelow_37 hI
      · replace h := if_f h c6
        refine lv_aload_n hx hb dX4_unnumberedBelow_9 rfl (lv_at hl 0 rfl) ?_
        refine lv_iload_n hx hb dX4_unnumberedBelow_10 rfl (lv_at hl 3 rfl) ?_
        replace h := bp_at h
        obtain ⟨r11, e11, h⟩ := h
        refine r_calli (rest := []) hC hI (oP hpb) (C := "EqualCourt$Partition") rfl ywX4_headOf tw_696 (cX4_headOf_ok hpb e11) ⟨Nat.le_of_ble_eq_true rfl, Nat.le_of_ble_eq_true rfl⟩ ⟨rfl, rfl⟩ rfl hl.1 rfl (Nat.le_of_ble_eq_true rfl) dX4_unnumberedBelow_11 (fun H locs hI => ?_)
        refine lv_iload_n hx hb dX4_unnumberedBelow_14 rfl (lv_at hl 3 rfl) ?_
        refine lv_icmp_ne (tgt := 30) hx hb dX4_unnumberedBelow_15 (by decide) (fun c15 => ?_) (fun c15 => ?_)
        · replace h := if_f h c15
          obtain ⟨x30, e30⟩ : ∃ y : Int32, y = (v3 + (1 : Int32)) := ⟨_, rfl⟩
          replace h := bnd_at h e30
          refine lv_iinc (v := x30) (lv' := [(3, .int x30), (0, .ref (ad pb)), (1, .int v1), (2, .int v2)]) hx hb dX4_unnumberedBelow_30 hl (k := 3) rfl (by rw [e30]; rfl) (by decide) rfl (fun ls hl => ?_)
          refine lv_goto (tgt := 4) hx hb dX4_unnumberedBelow_33 (by decide) ?_
          exact ih4 v1 v2 x30 _ _ _ hI (lv_sub hl [1, 2, 3, 0] rfl) h
        · replace h := if_t h c15
          refine lv_aload_n hx hb dX4_unnumberedBelow_18 rfl (lv_at hl 0 rfl) ?_
          refine lv_iload_n hx hb dX4_unnumberedBelow_19 rfl (lv_at hl 3 rfl) ?_
          replace h := bp_at h
          obtain ⟨r20, e20, h⟩ := h
          refine r_calli (rest := []) hC hI (oP hpb) (C := "EqualCourt$Partition") rfl ywX4_numberOf tw_697 (cX4_numberOf_ok hpb e20) ⟨Nat.le_of_ble_eq_true rfl, Nat.le_of_ble_eq_true rfl⟩ ⟨rfl, rfl⟩ rfl hl.1 rfl (Nat.le_of_ble_eq_true rfl) dX4_unnumberedBelow_20 (fun H locs hI => ?_)
          refine lv_iconst (v := -1) hx hb dX4_unnumberedBelow_23 (by decide) ?_
          refine lv_icmp_ne (tgt := 30) hx hb dX4_unnumberedBelow_24 (by decide) (fun c24 => ?_) (fun c24 => ?_)
          · replace h := if_f h c24
            obtain ⟨x30, e30⟩ : ∃ y : Int32, y = (v3 + (1 : Int32)) := ⟨_, rfl⟩
            replace h := bnd_at h e30
            refine lv_iinc (v := x30) (lv' := [(3, .int x30), (0, .ref (ad pb)), (1, .int v1), (2, .int v2)]) hx hb dX4_unnumberedBelow_30 hl (k := 3) rfl (by rw [e30]; rfl) (by decide) rfl (fun ls hl => ?_)
            refine lv_goto (tgt := 4) hx hb dX4_unnumberedBelow_33 (by decide) ?_
            exact ih4 v1 v2 x30 _ _ _ hI (lv_sub hl [1, 2, 3, 0] rfl) h
          · replace h := if_t h c24
            obtain ⟨x27, e27⟩ : ∃ y : Int32, y = (v2 + (1 : Int32)) := ⟨_, rfl⟩
            replace h := bnd_at h e27
            refine lv_iinc (v := x27) (lv' := [(2, .int x27), (0, .ref (ad pb)), (1, .int v1), (3, .int v3)]) hx hb dX4_unnumberedBelow_27 hl (k := 2) rfl (by rw [e27]; rfl) (by decide) rfl (fun ls hl => ?_)
            obtain ⟨x30, e30⟩ : ∃ y : Int32, y = (v3 + (1 : Int32)) := ⟨_, rfl⟩
            replace h := bnd_at h e30
            refine lv_iinc (v := x30) (lv' := [(3, .int x30), (2, .int x27), (0, .ref (ad pb)), (1, .int v1)]) hx hb dX4_unnumberedBelow_30 hl (k := 3) rfl (by rw [e30]; rfl) (by decide) rfl (fun ls hl => ?_)
            refine lv_goto (tgt := 4) hx hb dX4_unnumberedBelow_33 (by decide) ?_
            exact ih4 v1 x27 x30 _ _ _ hI (lv_sub hl [2, 3, 1, 0] rfl) h
  exact w4 FU v1 (0 : Int32) (0 : Int32) _ _ _ hI (lv_sub hl [2, 3, 1, 0] rfl) h
theorem dX4_hasPartLike_0 : decode cX4_hasPartLike 0 = .ok (.iconst 0, 1) := by decide +kernel
theorem dX4_hasPartLike_1 : decode cX4_hasPartLike 1 = .ok (.istore_n 3, 1) := by decide +kernel
theorem dX4_hasPartLike_2 : decode cX4_hasPartLike 2 = .ok (.iload_n 3, 1) := by decide +kernel
theorem dX4_hasPartLike_3 : decode cX4_hasPartLike 3 = .ok (.aload_n 0, 1) := by decide +kernel
theorem dX4_hasPartLike_4 : decode cX4_hasPartLike 4 = .ok (.getfield 39, 3) := by decide +kernel
theorem dX4_hasPartLike_7 : decode cX4_hasPartLike 7 = .ok (.iload_n 1, 1) := by decide +kernel
theorem dX4_hasPartLike_8 : decode cX4_hasPartLike 8 = .ok (.invokevirtual 68, 3) := by decide +kernel
theorem dX4_hasPartLike_11 : decode cX4_hasPartLike 11 = .ok (.if_icmp .ge 28, 3) := by decide +kernel
theorem dX4_hasPartLike_14 : decode cX4_hasPartLike 14 = .ok (.aload_n 0, 1) := by decide +kernel
theorem dX4_hasPartLike_15 : decode cX4_hasPartLike 15 = .ok (.aload_n 0, 1) := by decide +kernel
theorem dX4_hasPartLike_16 : decode cX4_hasPartLike 16 = .ok (.getfield 39, 3) := by decide +kernel
theorem dX4_hasPartLike_19 : decode cX4_hasPartLike 19 = .ok (.iload_n 1, 1) := by decide +kernel
theorem dX4_hasPartLike_20 : decode cX4_hasPartLike 20 = .ok (.iload_n 3, 1) := by decide +kernel
theorem dX4_hasPartLike_21 : decode cX4_hasPartLike 21 = .ok (.invokevirtual 73, 3) := by decide +kernel
theorem dX4_hasPartLike_24 : decode cX4_hasPartLike 24 = .ok (.iload_n 2, 1) := by decide +kernel
theorem dX4_hasPartLike_25 : decode cX4_hasPartLike 25 = .ok (.invokevirtual 77, 3) := by decide +kernel
theorem dX4_hasPartLike_28 : decode cX4_hasPartLike 28 = .ok (.ifCond .eq 5, 3) := by decide +kernel
theorem dX4_hasPartLike_31 : decode cX4_hasPartLike 31 = .ok (.iconst 1, 1) := by decide +kernel
theorem dX4_hasPartLike_32 : decode cX4_hasPartLike 32 = .ok (.ireturn, 1) := by decide +kernel
theorem dX4_hasPartLike_33 : decode cX4_hasPartLike 33 = .ok (.iinc 3 1, 3) := by decide +kernel
theorem dX4_hasPartLike_36 : decode cX4_hasPartLike 36 = .ok (.goto (-34), 3) := by decide +kernel
theorem dX4_hasPartLike_39 : decode cX4_hasPartLike 39 = .ok (.iconst 0, 1) := by decide +kernel
theorem dX4_hasPartLike_40 : decode cX4_hasPartLike 40 = .ok (.ireturn, 1) := by decide +kernel
abbrev rmX4_hasPartLike : Room := { frames := 1, cells := 0, slots := 0, locals := 22 }
theorem ywX4_hasPartLike : fY yX4_hasPartLike "EqualCourt$Partition" cX4_hasPartLike 4 (some .boolean) 2 := ⟨tw_678, tw_679, tw_8, tw_680, by decide +kernel⟩
set_option maxHeartbeats 4000000 in
set_option maxRecDepth 100000 in
theorem cX4_hasPartLike_ok {D : va_G} {ad : Nat → Nat} {cy cz : ClassId} {l : Launch} {z : fS} {pb : Nat} (hpb : isP pb) {v1 : Int32} {v2 : Int32} {r : Int32} (h : fX4_hasPartLike pb z v1 v2 = some r) : fMi D 76 ad (cfX ad cy cz) cy cz l yX4_hasPartLike cX4_hasPartLike 4 (some .boolean) rmX4_hasPartLike [.ref (ad pb), .int v1, .int v2] z r z := by
  refine f_bodyz (by decide) (Nat.le_of_ble_eq_true rfl) (fun p e s m args below meth c Q hC hret ls hl hI => ?_)
  have hx := hC.1
  have hb := hC.2.1
  have hl : lv_has ls 4 [(0, .ref (ad pb)), (1, .int v1), (2, .int v2)] := hl
  unfold fX4_hasPartLike at h
  refine lv_iconst (v := 0) hx hb dX4_hasPartLike_0 (by decide) ?_
  refine lv_istore_n (lv' := [(3, .int (0 : Int32)), (0, .ref (ad pb)), (1, .int v1), (2, .int v2)]) hx hb dX4_hasPartLike_1 rfl hl (by decide) rfl (fun ls hl => ?_)
  have w2 : ∀ (N2 : Nat) (v1 : Int32) (v2 : Int32) (v3 : Int32) (H : Heap) (locs : List Loc) (ls : Array Slot), fI D 76 ad (cfX ad cy cz) z s H locs → lv_has ls 4 [(0, .ref (ad pb)), (1, .int v1), (2, .int v2), (3, .int v3)] → lX4_hasPartLike_2 pb  z v1 v2 N2 v3 = some r → W p l e rmX4_hasPartLike s m args below meth c H locs 0 0 Q (F0 m 2 ls []) := by
    intro N2
    induction N2 with
    | zero =>
      intro v1 v2 v3 H locs ls hI hl h
      exact none_no h
    | succ N2 ih2 =>
      intro v1 v2 v3 H locs ls hI hl h
      rw [lX4_hasPartLike_2.eq_2] at h
      refine lv_iload_n hx hb dX4_hasPartLike_2 rfl (lv_at hl 3 rfl) ?_
      refine lv_aload_n hx hb dX4_hasPartLike_3 rfl (lv_at hl 0 rfl) ?_
      refine gX4_terms hpb hC hI tw_152 dX4_hasPartLike_4 ?_
      refine lv_iload_n hx hb dX4_hasPartLike_7 rfl (lv_at hl 1 rfl) ?_
      replace h := bp_at h
      obtain ⟨r8, e8, h⟩ := h
      refine r_calli (rest := [.int v3]) hC hI oX_1 (C := "EqualCourt$Terms") rfl ywX7_sizeOf tw_366 (cX7_sizeOf_ok  e8) ⟨Nat.le_of_ble_eq_true rfl, Nat.le_of_ble_eq_true rfl⟩ ⟨rfl, rfl⟩ rfl hl.1 rfl (Nat.le_of_ble_eq_true rfl) dX4_hasPartLike_8 (fun H locs hI => ?_)
      refine lv_icmp_ge (tgt := 39) hx hb dX4_hasPartLike_11 (by decide) (fun c11 => ?_) (fun c11 => ?_)
      · replace h := if_t h c11
        refine lv_iconst (v := 0) hx hb dX4_hasPartLike_39 (by decide) ?_
        exact hret (ret_p _ h) (by decide) dX4_hasPartLike_40 hI
      · replace h := if_f h c11
        refine lv_aload_n hx hb dX4_hasPartLike_14 rfl (lv_at hl 0 rfl) ?_
        refine lv_aload_n hx hb dX4_hasPartLike_15 rfl (lv_at hl 0 rfl) ?_
        refine gX4_terms hpb hC hI tw_152 dX4_hasPartLike_16 ?_
        refine lv_iload_n hx hb dX4_hasPartLike_19 rfl (lv_at hl 1 rfl) ?_
        refine lv_iload_n hx hb dX4_hasPartLike_20 rfl (lv_at hl 3 rfl) ?_
        replace h := bp_at h
        obtain ⟨r21, e21, h⟩ := h
        refine r_calli (rest := [.ref (ad pb)]) hC hI oX_1 (C := "EqualCourt$Terms") rfl ywX7_partOf tw_681 (cX7_partOf_ok  e21) ⟨Nat.le_of_ble_eq_true rfl, Nat.le_of_ble_eq_true rfl⟩ ⟨rfl, rfl⟩ rfl hl.1 rfl (Nat.le_of_ble_eq_true rfl) dX4_hasPartLike_21 (fun H locs hI => ?_)
        refine lv_iload_n hx hb dX4_hasPartLike_24 rfl (lv_at hl 2 rfl) ?_
        replace h := bp_at h
        obtain ⟨r25, e25, h⟩ := h
        refine r_calli (rest := []) hC hI (oP hpb) (C := "EqualCourt$Partition") rfl ywX4_isOne tw_682 (cX4_isOne_ok hpb e25) ⟨Nat.le_of_ble_eq_true rfl, Nat.le_of_ble_eq_true rfl⟩ ⟨rfl, rfl⟩ rfl hl.1 rfl (Nat.le_of_ble_eq_true rfl) dX4_hasPartLike_25 (fun H locs hI => ?_)
        refine lv_if_eq (tgt := 33) hx hb dX4_hasPartLike_28 (by decide) (fun c28 => ?_) (fun c28 => ?_)
        · replace h := if_t h c28
          obtain ⟨x33, e33⟩ : ∃ y : Int32, y = (v3 + (1 : Int32)) := ⟨_, rfl⟩
          replace h := bnd_at h e33
          refine lv_iinc (v := x33) (lv' := [(3, .int x33), (0, .ref (ad pb)), (1, .int v1), (2, .int v2)]) hx hb dX4_hasPartLike_33 hl (k := 3) rfl (by rw [e33]; rfl) (by decide) rfl (fun ls hl => ?_)
          refine lv_goto (tgt := 2) hx hb dX4_hasPartLike_36 (by decide) ?_
          exact ih2 v1 v2 x33 _ _ _ hI (lv_sub hl [1, 2, 3, 0] rfl) h
        · replace h := if_f h c28
          refine lv_iconst (v := 1) hx hb dX4_hasPartLike_31 (by decide) ?_
          exact hret (ret_p _ h) (by decide) dX4_hasPartLike_32 hI
  exact w2 FU v1 v2 (0 : Int32) _ _ _ hI (lv_sub hl [1, 2, 3, 0] rfl) h
theorem dX4_copyFrom_0 : decode cX4_copyFrom 0 = .ok (.aload_n 0, 1) := by decide +kernel
theorem dX4_copyFrom_1 : decode cX4_copyFrom 1 = .ok (.aload_n 1, 1) := by decide +kernel
theorem dX4_copyFrom_2 : decode cX4_copyFrom 2 = .ok (.getfield 81, 3) := by decide +kernel
theorem dX4_copyFrom_5 : decode cX4_copyFrom 5 = .ok (.putfield 81, 3) := by decide +kernel
theorem dX4_copyFrom_8 : decode cX4_copyFrom 8 = .ok (.aload_n 0, 1) := by decide +kernel
theorem dX4_copyFrom_9 : decode cX4_copyFrom 9 = .ok (.aload_n 1, 1) := by decide +kernel
theorem dX4_copyFrom_10 : decode cX4_copyFrom 10 = .ok (.getfield 53, 3) := by decide +kernel
theorem dX4_copyFrom_13 : decode cX4_copyFrom 13 = .ok (.putfield 53, 3) := by decide +kernel
theorem dX4_copyFrom_16 : decode cX4_copyFrom 16 = .ok (.aload_n 0, 1) := by decide +kernel
theorem dX4_copyFrom_17 : decode cX4_copyFrom 17 = .ok (.aload_n 1, 1) := by decide +kernel
theorem dX4_copyFrom_18 : decode cX4_copyFrom 18 = .ok (.getfield 57, 3) := by decide +kernel
theorem dX4_copyFrom_21 : decode cX4_copyFrom 21 = .ok (.putfield 57, 3) := by decide +kernel
theorem dX4_copyFrom_24 : decode cX4_copyFrom 24 = .ok (.aload_n 1, 1) := by decide +kernel
theorem dX4_copyFrom_25 : decode cX4_copyFrom 25 = .ok (.getfield 9, 3) := by decide +kernel
theorem dX4_copyFrom_28 : decode cX4_copyFrom 28 = .ok (.iconst 0, 1) := by decide +kernel
theorem dX4_copyFrom_29 : decode cX4_copyFrom 29 = .ok (.aload_n 0, 1) := by decide +kernel
theorem dX4_copyFrom_30 : decode cX4_copyFrom 30 = .ok (.getfield 9, 3) := by decide +kernel
theorem dX4_copyFrom_33 : decode cX4_copyFrom 33 = .ok (.iconst 0, 1) := by decide +kernel
theorem dX4_copyFrom_34 : decode cX4_copyFrom 34 = .ok (.aload_n 0, 1) := by decide +kernel
theorem dX4_copyFrom_35 : decode cX4_copyFrom 35 = .ok (.getfield 81, 3) := by decide +kernel
theorem dX4_copyFrom_38 : decode cX4_copyFrom 38 = .ok (.invokestatic 84, 3) := by decide +kernel
theorem dX4_copyFrom_41 : decode cX4_copyFrom 41 = .ok (.aload_n 1, 1) := by decide +kernel
theorem dX4_copyFrom_42 : decode cX4_copyFrom 42 = .ok (.getfield 15, 3) := by decide +kernel
theorem dX4_copyFrom_45 : decode cX4_copyFrom 45 = .ok (.iconst 0, 1) := by decide +kernel
theorem dX4_copyFrom_46 : decode cX4_copyFrom 46 = .ok (.aload_n 0, 1) := by decide +kernel
theorem dX4_copyFrom_47 : decode cX4_copyFrom 47 = .ok (.getfield 15, 3) := by decide +kernel
theorem dX4_copyFrom_50 : decode cX4_copyFrom 50 = .ok (.iconst 0, 1) := by decide +kernel
theorem dX4_copyFrom_51 : decode cX4_copyFrom 51 = .ok (.aload_n 0, 1) := by decide +kernel
theorem dX4_copyFrom_52 : decode cX4_copyFrom 52 = .ok (.getfield 81, 3) := by decide +kernel
theorem dX4_copyFrom_55 : decode cX4_copyFrom 55 = .ok (.invokestatic 84, 3) := by decide +kernel
theorem dX4_copyFrom_58 : decode cX4_copyFrom 58 = .ok (.aload_n 1, 1) := by decide +kernel
theorem dX4_copyFrom_59 : decode cX4_copyFrom 59 = .ok (.getfield 18, 3) := by decide +kernel
theorem dX4_copyFrom_62 : decode cX4_copyFrom 62 = .ok (.iconst 0, 1) := by decide +kernel
theorem dX4_copyFrom_63 : decode cX4_copyFrom 63 = .ok (.aload_n 0, 1) := by decide +kernel
theorem dX4_copyFrom_64 : decode cX4_copyFrom 64 = .ok (.getfield 18, 3) := by decide +kernel
theorem dX4_copyFrom_67 : decode cX4_copyFrom 67 = .ok (.iconst 0, 1) := by decide +kernel
theorem dX4_copyFrom_68 : decode cX4_copyFrom 68 = .ok (.aload_n 0, 1) := by decide +kernel
theorem dX4_copyFrom_69 : decode cX4_copyFrom 69 = .ok (.getfield 81, 3) := by decide +kernel
theorem dX4_copyFrom_72 : decode cX4_copyFrom 72 = .ok (.invokestatic 84, 3) := by decide +kernel
theorem dX4_copyFrom_75 : decode cX4_copyFrom 75 = .ok (.aload_n 1, 1) := by decide +kernel
theorem dX4_copyFrom_76 : decode cX4_copyFrom 76 = .ok (.getfield 21, 3) := by decide +kernel
theorem dX4_copyFrom_79 : decode cX4_copyFrom 79 = .ok (.iconst 0, 1) := by decide +kernel
theorem dX4_copyFrom_80 : decode cX4_copyFrom 80 = .ok (.aload_n 0, 1) := by decide +kernel
theorem dX4_copyFrom_81 : decode cX4_copyFrom 81 = .ok (.getfield 21, 3) := by decide +kernel
theorem dX4_copyFrom_84 : decode cX4_copyFrom 84 = .ok (.iconst 0, 1) := by decide +kernel
theorem dX4_copyFrom_85 : decode cX4_copyFrom 85 = .ok (.aload_n 0, 1) := by decide +kernel
theorem dX4_copyFrom_86 : decode cX4_copyFrom 86 = .ok (.getfield 81, 3) := by decide +kernel
theorem dX4_copyFrom_89 : decode cX4_copyFrom 89 = .ok (.invokestatic 84, 3) := by decide +kernel
theorem dX4_copyFrom_92 : decode cX4_copyFrom 92 = .ok (.aload_n 1, 1) := by decide +kernel
theorem dX4_copyFrom_93 : decode cX4_copyFrom 93 = .ok (.getfield 24, 3) := by decide +kernel
theorem dX4_copyFrom_96 : decode cX4_copyFrom 96 = .ok (.iconst 0, 1) := by decide +kernel
theorem dX4_copyFrom_97 : decode cX4_copyFrom 97 = .ok (.aload_n 0, 1) := by decide +kernel
theorem dX4_copyFrom_98 : decode cX4_copyFrom 98 = .ok (.getfield 24, 3) := by decide +kernel
theorem dX4_copyFrom_101 : decode cX4_copyFrom 101 = .ok (.iconst 0, 1) := by decide +kernel
theorem dX4_copyFrom_102 : decode cX4_copyFrom 102 = .ok (.aload_n 0, 1) := by decide +kernel
theorem dX4_copyFrom_103 : decode cX4_copyFrom 103 = .ok (.getfield 81, 3) := by decide +kernel
theorem dX4_copyFrom_106 : decode cX4_copyFrom 106 = .ok (.invokestatic 84, 3) := by decide +kernel
theorem dX4_copyFrom_109 : decode cX4_copyFrom 109 = .ok (.aload_n 1, 1) := by decide +kernel
theorem dX4_copyFrom_110 : decode cX4_copyFrom 110 = .ok (.getfield 27, 3) := by decide +kernel
theorem dX4_copyFrom_113 : decode cX4_copyFrom 113 = .ok (.iconst 0, 1) := by decide +kernel
theorem dX4_copyFrom_114 : decode cX4_copyFrom 114 = .ok (.aload_n 0, 1) := by decide +kernel
theorem dX4_copyFrom_115 : decode cX4_copyFrom 115 = .ok (.getfield 27, 3) := by decide +kernel
theorem dX4_copyFrom_118 : decode cX4_copyFrom 118 = .ok (.iconst 0, 1) := by decide +kernel
theorem dX4_copyFrom_119 : decode cX4_copyFrom 119 = .ok (.aload_n 0, 1) := by decide +kernel
theorem dX4_copyFrom_120 : decode cX4_copyFrom 120 = .ok (.getfield 81, 3) := by decide +kernel
theorem dX4_copyFrom_123 : decode cX4_copyFrom 123 = .ok (.invokestatic 84, 3) := by decide +kernel
theorem dX4_copyFrom_126 : decode cX4_copyFrom 126 = .ok (.aload_n 1, 1) := by decide +kernel
theorem dX4_copyFrom_127 : decode cX4_copyFrom 127 = .ok (.getfield 30, 3) := by decide +kernel
theorem dX4_copyFrom_130 : decode cX4_copyFrom 130 = .ok (.iconst 0, 1) := by decide +kernel
theorem dX4_copyFrom_131 : decode cX4_copyFrom 131 = .ok (.aload_n 0, 1) := by decide +kernel
theorem dX4_copyFrom_132 : decode cX4_copyFrom 132 = .ok (.getfield 30, 3) := by decide +kernel
theorem dX4_copyFrom_135 : decode cX4_copyFrom 135 = .ok (.iconst 0, 1) := by decide +kernel
theorem dX4_copyFrom_136 : decode cX4_copyFrom 136 = .ok (.sipush 128, 3) := by decide +kernel
theorem dX4_copyFrom_139 : decode cX4_copyFrom 139 = .ok (.invokestatic 84, 3) := by decide +kernel
theorem dX4_copyFrom_142 : decode cX4_copyFrom 142 = .ok (.aload_n 1, 1) := by decide +kernel
theorem dX4_copyFrom_143 : decode cX4_copyFrom 143 = .ok (.getfield 33, 3) := by decide +kernel
theorem dX4_copyFrom_146 : decode cX4_copyFrom 146 = .ok (.iconst 0, 1) := by decide +kernel
theorem dX4_copyFrom_147 : decode cX4_copyFrom 147 = .ok (.aload_n 0, 1) := by decide +kernel
theorem dX4_copyFrom_148 : decode cX4_copyFrom 148 = .ok (.getfield 33, 3) := by decide +kernel
theorem dX4_copyFrom_151 : decode cX4_copyFrom 151 = .ok (.iconst 0, 1) := by decide +kernel
theorem dX4_copyFrom_152 : decode cX4_copyFrom 152 = .ok (.aload_n 0, 1) := by decide +kernel
theorem dX4_copyFrom_153 : decode cX4_copyFrom 153 = .ok (.getfield 81, 3) := by decide +kernel
theorem dX4_copyFrom_156 : decode cX4_copyFrom 156 = .ok (.invokestatic 84, 3) := by decide +kernel
theorem dX4_copyFrom_159 : decode cX4_copyFrom 159 = .ok (.aload_n 1, 1) := by decide +kernel
theorem dX4_copyFrom_160 : decode cX4_copyFrom 160 = .ok (.getfield 36, 3) := by decide +kernel
theorem dX4_copyFrom_163 : decode cX4_copyFrom 163 = .ok (.iconst 0, 1) := by decide +kernel
theorem dX4_copyFrom_164 : decode cX4_copyFrom 164 = .ok (.aload_n 0, 1) := by decide +kernel
theorem dX4_copyFrom_165 : decode cX4_copyFrom 165 = .ok (.getfield 36, 3) := by decide +kernel
theorem dX4_copyFrom_168 : decode cX4_copyFrom 168 = .ok (.iconst 0, 1) := by decide +kernel
theorem dX4_copyFrom_169 : decode cX4_copyFrom 169 = .ok (.aload_n 0, 1) := by decide +kernel
theorem dX4_copyFrom_170 : decode cX4_copyFrom 170 = .ok (.getfield 81, 3) := by decide +kernel
theorem dX4_copyFrom_173 : decode cX4_copyFrom 173 = .ok (.invokestatic 84, 3) := by decide +kernel
theorem dX4_copyFrom_176 : decode cX4_copyFrom 176 = .ok (.return_, 1) := by decide +kernel
abbrev rmX4_copyFrom : Room := { frames := 1, cells := 0, slots := 0, locals := 26 }
theorem ywX4_copyFrom : fY yX4_copyFrom "EqualCourt$Partition" cX4_copyFrom 2 none 1 := ⟨tw_526, tw_527, tw_8, tw_528, by decide +kernel⟩
set_option maxHeartbeats 4000000 in
set_option maxRecDepth 100000 in
theorem cX4_copyFrom_ok {D : va_G} {ad : Nat → Nat} {cy cz : ClassId} {l : Launch} {z : fS} {pb : Nat} (hpb : isP pb) {v1 : Nat} (hv1 : isP v1) {τ : fS} (h : fX4_copyFrom pb z v1 = some τ) : fMv D 76 ad (cfX ad cy cz) cy cz l yX4_copyFrom cX4_copyFrom 2 none rmX4_copyFrom [.ref (ad pb), .ref (ad v1)] z τ := by
  refine f_bodyv (by decide) (Nat.le_of_ble_eq_true rfl) (fun p e s m args below meth c Q hC hret ls hl hI => ?_)
  have hx := hC.1
  have hb := hC.2.1
  have hl : lv_has ls 2 [(0, .ref (ad pb)), (1, .ref (ad v1))] := hl
  unfold fX4_copyFrom at h
  refine lv_aload_n hx hb dX4_copyFrom_0 rfl (lv_at hl 0 rfl) ?_
  refine lv_aload_n hx hb dX4_copyFrom_1 rfl (lv_at hl 1 rfl) ?_
  refine gX4_known hv1 hC hI tw_163 dX4_copyFrom_2 ?_
  refine pX4_known hpb hC hI tw_163 dX4_copyFrom_5 (fun z5 H locs e5 hI => ?_)
  replace h := bnd_at h e5
  refine lv_aload_n hx hb dX4_copyFrom_8 rfl (lv_at hl 0 rfl) ?_
  refine lv_aload_n hx hb dX4_copyFrom_9 rfl (lv_at hl 1 rfl) ?_
  refine gX4_classes hv1 hC hI tw_164 dX4_copyFrom_10 ?_
  refine pX4_classes hpb hC hI tw_164 dX4_copyFrom_13 (fun z13 H locs e13 hI => ?_)
  replace h := bnd_at h e13
  refine lv_aload_n hx hb dX4_copyFrom_16 rfl (lv_at hl 0 rfl) ?_
  refine lv_aload_n hx hb dX4_copyFrom_17 rfl (lv_at hl 1 rfl) ?_
  refine gX4_torn hv1 hC hI tw_165 dX4_copyFrom_18 ?_
  have g21 := (gd_at h).1
  replace h := (gd_at h).2
  refine pX4_torn hpb hC hI tw_165 g21 dX4_copyFrom_21 (fun z21 H locs e21 hI => ?_)
  replace h := bnd_at h e21
  refine lv_aload_n hx hb dX4_copyFrom_24 rfl (lv_at hl 1 rfl) ?_
  refine gX4_root hv1 hC hI tw_154 dX4_copyFrom_25 ?_
  refine lv_iconst (v := 0) hx hb dX4_copyFrom_28 (by decide) ?_
  refine lv_aload_n hx hb dX4_copyFrom_29 rfl (lv_at hl 0 rfl) ?_
  refine gX4_root hpb hC hI tw_154 dX4_copyFrom_30 ?_
  refine lv_iconst (v := 0) hx hb dX4_copyFrom_33 (by decide) ?_
  refine lv_aload_n hx hb dX4_copyFrom_34 rfl (lv_at hl 0 rfl) ?_
  refine gX4_known hpb hC hI tw_163 dX4_copyFrom_35 ?_
  have g38 := (gd_at h).1
  replace h := (gd_at h).2
  refine r_copyi hC hI hl.1 tw_529 tw_531 tw_530 tw_13 (aP_1 hv1) (aP_1 hpb) g38 (Nat.le_of_ble_eq_true rfl) (Nat.le_of_ble_eq_true rfl) dX4_copyFrom_38 (fun z38 H locs e38 hI => ?_)
  replace h := bnd_at h e38
  refine lv_aload_n hx hb dX4_copyFrom_41 rfl (lv_at hl 1 rfl) ?_
  refine gX4_next hv1 hC hI tw_155 dX4_copyFrom_42 ?_
  refine lv_iconst (v := 0) hx hb dX4_copyFrom_45 (by decide) ?_
  refine lv_aload_n hx hb dX4_copyFrom_46 rfl (lv_at hl 0 rfl) ?_
  refine gX4_next hpb hC hI tw_155 dX4_copyFrom_47 ?_
  refine lv_iconst (v := 0) hx hb dX4_copyFrom_50 (by decide) ?_
  refine lv_aload_n hx hb dX4_copyFrom_51 rfl (lv_at hl 0 rfl) ?_
  refine gX4_known hpb hC hI tw_163 dX4_copyFrom_52 ?_
  have g55 := (gd_at h).1
  replace h := (gd_at h).2
  refine r_copyi hC hI hl.1 tw_529 tw_531 tw_530 tw_13 (aP_2 hv1) (aP_2 hpb) g55 (Nat.le_of_ble_eq_true rfl) (Nat.le_of_ble_eq_true rfl) dX4_copyFrom_55 (fun z55 H locs e55 hI => ?_)
  replace h := bnd_at h e55
  refine lv_aload_n hx hb dX4_copyFrom_58 rfl (lv_at hl 1 rfl) ?_
  refine gX4_size hv1 hC hI tw_156 dX4_copyFrom_59 ?_
  refine lv_iconst (v := 0) hx hb dX4_copyFrom_62 (by decide) ?_
  refine lv_aload_n hx hb dX4_copyFrom_63 rfl (lv_at hl 0 rfl) ?_
  refine gX4_size hpb hC hI tw_156 dX4_copyFrom_64 ?_
  refine lv_iconst (v := 0) hx hb dX4_copyFrom_67 (by decide) ?_
  refine lv_aload_n hx hb dX4_copyFrom_68 rfl (lv_at hl 0 rfl) ?_
  refine gX4_known hpb hC hI tw_163 dX4_copyFrom_69 ?_
  have g72 := (gd_at h).1
  replace h := (gd_at h).2
  refine r_copyi hC hI hl.1 tw_529 tw_531 tw_530 tw_13 (aP_3 hv1) (aP_3 hpb) g72 (Nat.le_of_ble_eq_true rfl) (Nat.le_of_ble_eq_true rfl) dX4_copyFrom_72 (fun z72 H locs e72 hI => ?_)
  replace h := bnd_at h e72
  refine lv_aload_n hx hb dX4_copyFrom_75 rfl (lv_at hl 1 rfl) ?_
  refine gX4_least hv1 hC hI tw_157 dX4_copyFrom_76 ?_
  refine lv_iconst (v := 0) hx hb dX4_copyFrom_79 (by decide) ?_
  refine lv_aload_n hx hb dX4_copyFrom_80 rfl (lv_at hl 0 rfl) ?_
  refine gX4_least hpb hC hI tw_157 dX4_copyFrom_81 ?_
  refine lv_iconst (v := 0) hx hb dX4_copyFrom_84 (by decide) ?_
  refine lv_aload_n hx hb dX4_copyFrom_85 rfl (lv_at hl 0 rfl) ?_
  refine gX4_known hpb hC hI tw_163 dX4_copyFrom_86 ?_
  have g89 := (gd_at h).1
  replace h := (gd_at h).2
  refine r_copyi hC hI hl.1 tw_529 tw_531 tw_530 tw_13 (aP_4 hv1) (aP_4 hpb) g89 (Nat.le_of_ble_eq_true rfl) (Nat.le_of_ble_eq_true rfl) dX4_copyFrom_89 (fun z89 H locs e89 hI => ?_)
  replace h := bnd_at h e89
  refine lv_aload_n hx hb dX4_copyFrom_92 rfl (lv_at hl 1 rfl) ?_
  refine gX4_number hv1 hC hI tw_158 dX4_copyFrom_93 ?_
  refine lv_iconst (v := 0) hx hb dX4_copyFrom_96 (by decide) ?_
  refine lv_aload_n hx hb dX4_copyFrom_97 rfl (lv_at hl 0 rfl) ?_
  refine gX4_number hpb hC hI tw_158 dX4_copyFrom_98 ?_
  refine lv_iconst (v := 0) hx hb dX4_copyFrom_101 (by decide) ?_
  refine lv_aload_n hx hb dX4_copyFrom_102 rfl (lv_at hl 0 rfl) ?_
  refine gX4_known hpb hC hI tw_163 dX4_copyFrom_103 ?_
  have g106 := (gd_at h).1
  replace h := (gd_at h).2
  refine r_copyi hC hI hl.1 tw_529 tw_531 tw_530 tw_13 (aP_5 hv1) (aP_5 hpb) g106 (Nat.le_of_ble_eq_true rfl) (Nat.le_of_ble_eq_true rfl) dX4_copyFrom_106 (fun z106 H locs e106 hI => ?_)
  replace h := bnd_at h e106
  refine lv_aload_n hx hb dX4_copyFrom_109 rfl (lv_at hl 1 rfl) ?_
  refine gX4_aRow hv1 hC hI tw_159 dX4_copyFrom_110 ?_
  refine lv_iconst (v := 0) hx hb dX4_copyFrom_113 (by decide) ?_
  refine lv_aload_n hx hb dX4_copyFrom_114 rfl (lv_at hl 0 rfl) ?_
  refine gX4_aRow hpb hC hI tw_159 dX4_copyFrom_115 ?_
  refine lv_iconst (v := 0) hx hb dX4_copyFrom_118 (by decide) ?_
  refine lv_aload_n hx hb dX4_copyFrom_119 rfl (lv_at hl 0 rfl) ?_
  refine gX4_known hpb hC hI tw_163 dX4_copyFrom_120 ?_
  have g123 := (gd_at h).1
  replace h := (gd_at h).2
  refine r_copyi hC hI hl.1 tw_529 tw_531 tw_530 tw_13 (aP_6 hv1) (aP_6 hpb) g123 (Nat.le_of_ble_eq_true rfl) (Nat.le_of_ble_eq_true rfl) dX4_copyFrom_123 (fun z123 H locs e123 hI => ?_)
  replace h := bnd_at h e123
  refine lv_aload_n hx hb dX4_copyFrom_126 rfl (lv_at hl 1 rfl) ?_
  refine gX4_buckets hv1 hC hI tw_160 dX4_copyFrom_127 ?_
  refine lv_iconst (v := 0) hx hb dX4_copyFrom_130 (by decide) ?_
  refine lv_aload_n hx hb dX4_copyFrom_131 rfl (lv_at hl 0 rfl) ?_
  refine gX4_buckets hpb hC hI tw_160 dX4_copyFrom_132 ?_
  refine lv_iconst (v := 0) hx hb dX4_copyFrom_135 (by decide) ?_
  refine lv_sipush (v := 128) hx hb dX4_copyFrom_136 (by decide) ?_
  have g139 := (gd_at h).1
  replace h := (gd_at h).2
  refine r_copyi hC hI hl.1 tw_529 tw_531 tw_530 tw_13 (aP_7 hv1) (aP_7 hpb) g139 (Nat.le_of_ble_eq_true rfl) (Nat.le_of_ble_eq_true rfl) dX4_copyFrom_139 (fun z139 H locs e139 hI => ?_)
  replace h := bnd_at h e139
  refine lv_aload_n hx hb dX4_copyFrom_142 rfl (lv_at hl 1 rfl) ?_
  refine gX4_chain hv1 hC hI tw_161 dX4_copyFrom_143 ?_
  refine lv_iconst (v := 0) hx hb dX4_copyFrom_146 (by decide) ?_
  refine lv_aload_n hx hb dX4_copyFrom_147 rfl (lv_at hl 0 rfl) ?_
  refine gX4_chain hpb hC hI tw_161 dX4_copyFrom_148 ?_
  refine lv_iconst (v := 0) hx hb dX4_copyFrom_151 (by decide) ?_
  refine lv_aload_n hx hb dX4_copyFrom_152 rfl (lv_at hl 0 rfl) ?_
  refine gX4_known hpb hC hI tw_163 dX4_copyFrom_153 ?_
  have g156 := (gd_at h).1
  replace h := (gd_at h).2
  refine r_copyi hC hI hl.1 tw_529 tw_531 tw_530 tw_13 (aP_8 hv1) (aP_8 hpb) g156 (Nat.le_of_ble_eq_true rfl) (Nat.le_of_ble_eq_true rfl) dX4_copyFrom_156 (fun z156 H locs e156 hI => ?_)
  replace h := bnd_at h e156
  refine lv_aload_n hx hb dX4_copyFrom_159 rfl (lv_at hl 1 rfl) ?_
  refine gX4_slot hv1 hC hI tw_162 dX4_copyFrom_160 ?_
  refine lv_iconst (v := 0) hx hb dX4_copyFrom_163 (by decide) ?_
  refine lv_aload_n hx hb dX4_copyFrom_164 rfl (lv_at hl 0 rfl) ?_
  refine gX4_slot hpb hC hI tw_162 dX4_copyFrom_165 ?_
  refine lv_iconst (v := 0) hx hb dX4_copyFrom_168 (by decide) ?_
  refine lv_aload_n hx hb dX4_copyFrom_169 rfl (lv_at hl 0 rfl) ?_
  refine gX4_known hpb hC hI tw_163 dX4_copyFrom_170 ?_
  have g173 := (gd_at h).1
  replace h := (gd_at h).2
  refine r_copyi hC hI hl.1 tw_529 tw_531 tw_530 tw_13 (aP_9 hv1) (aP_9 hpb) g173 (Nat.le_of_ble_eq_true rfl) (Nat.le_of_ble_eq_true rfl) dX4_copyFrom_173 (fun z173 H locs e173 hI => ?_)
  replace h := bnd_at h e173
  exact hret h dX4_copyFrom_176 hI
theorem dX4_unite_0 : decode cX4_unite 0 = .ok (.iload_n 2, 1) := by decide +kernel
theorem dX4_unite_1 : decode cX4_unite 1 = .ok (.istore_n 3, 1) := by decide +kernel
theorem dX4_unite_2 : decode cX4_unite 2 = .ok (.iconst 0, 1) := by decide +kernel
theorem dX4_unite_3 : decode cX4_unite 3 = .ok (.istore 4, 2) := by decide +kernel
theorem dX4_unite_5 : decode cX4_unite 5 = .ok (.iload 4, 2) := by decide +kernel
theorem dX4_unite_7 : decode cX4_unite 7 = .ok (.aload_n 0, 1) := by decide +kernel
theorem dX4_unite_8 : decode cX4_unite 8 = .ok (.getfield 18, 3) := by decide +kernel
theorem dX4_unite_11 : decode cX4_unite 11 = .ok (.iload_n 2, 1) := by decide +kernel
theorem dX4_unite_12 : decode cX4_unite 12 = .ok (.iaload, 1) := by decide +kernel
theorem dX4_unite_13 : decode cX4_unite 13 = .ok (.if_icmp .ge 91, 3) := by decide +kernel
theorem dX4_unite_16 : decode cX4_unite 16 = .ok (.aload_n 0, 1) := by decide +kernel
theorem dX4_unite_17 : decode cX4_unite 17 = .ok (.getfield 9, 3) := by decide +kernel
theorem dX4_unite_20 : decode cX4_unite 20 = .ok (.iload_n 3, 1) := by decide +kernel
theorem dX4_unite_21 : decode cX4_unite 21 = .ok (.iload_n 1, 1) := by decide +kernel
theorem dX4_unite_22 : decode cX4_unite 22 = .ok (.iastore, 1) := by decide +kernel
theorem dX4_unite_23 : decode cX4_unite 23 = .ok (.aload_n 0, 1) := by decide +kernel
theorem dX4_unite_24 : decode cX4_unite 24 = .ok (.getfield 39, 3) := by decide +kernel
theorem dX4_unite_27 : decode cX4_unite 27 = .ok (.getfield 139, 3) := by decide +kernel
theorem dX4_unite_30 : decode cX4_unite 30 = .ok (.iload_n 3, 1) := by decide +kernel
theorem dX4_unite_31 : decode cX4_unite 31 = .ok (.iaload, 1) := by decide +kernel
theorem dX4_unite_32 : decode cX4_unite 32 = .ok (.istore 5, 2) := by decide +kernel
theorem dX4_unite_34 : decode cX4_unite 34 = .ok (.iconst 0, 1) := by decide +kernel
theorem dX4_unite_35 : decode cX4_unite 35 = .ok (.istore 6, 2) := by decide +kernel
theorem dX4_unite_37 : decode cX4_unite 37 = .ok (.iload 6, 2) := by decide +kernel
theorem dX4_unite_39 : decode cX4_unite 39 = .ok (.sipush 360, 3) := by decide +kernel
theorem dX4_unite_42 : decode cX4_unite 42 = .ok (.if_icmp .ge 49, 3) := by decide +kernel
theorem dX4_unite_45 : decode cX4_unite 45 = .ok (.iload 5, 2) := by decide +kernel
theorem dX4_unite_47 : decode cX4_unite 47 = .ok (.iconst (-1), 1) := by decide +kernel
theorem dX4_unite_48 : decode cX4_unite 48 = .ok (.if_icmp .eq 43, 3) := by decide +kernel
theorem dX4_unite_51 : decode cX4_unite 51 = .ok (.iload 5, 2) := by decide +kernel
theorem dX4_unite_53 : decode cX4_unite 53 = .ok (.iconst 3, 1) := by decide +kernel
theorem dX4_unite_54 : decode cX4_unite 54 = .ok (.idiv, 1) := by decide +kernel
theorem dX4_unite_55 : decode cX4_unite 55 = .ok (.aload_n 0, 1) := by decide +kernel
theorem dX4_unite_56 : decode cX4_unite 56 = .ok (.getfield 81, 3) := by decide +kernel
theorem dX4_unite_59 : decode cX4_unite 59 = .ok (.if_icmp .ge 14, 3) := by decide +kernel
theorem dX4_unite_62 : decode cX4_unite 62 = .ok (.aload_n 0, 1) := by decide +kernel
theorem dX4_unite_63 : decode cX4_unite 63 = .ok (.getfield 43, 3) := by decide +kernel
theorem dX4_unite_66 : decode cX4_unite 66 = .ok (.iload 5, 2) := by decide +kernel
theorem dX4_unite_68 : decode cX4_unite 68 = .ok (.iconst 3, 1) := by decide +kernel
theorem dX4_unite_69 : decode cX4_unite 69 = .ok (.idiv, 1) := by decide +kernel
theorem dX4_unite_70 : decode cX4_unite 70 = .ok (.invokevirtual 93, 3) := by decide +kernel
theorem dX4_unite_73 : decode cX4_unite 73 = .ok (.aload_n 0, 1) := by decide +kernel
theorem dX4_unite_74 : decode cX4_unite 74 = .ok (.getfield 39, 3) := by decide +kernel
theorem dX4_unite_77 : decode cX4_unite 77 = .ok (.getfield 142, 3) := by decide +kernel
theorem dX4_unite_80 : decode cX4_unite 80 = .ok (.iload 5, 2) := by decide +kernel
theorem dX4_unite_82 : decode cX4_unite 82 = .ok (.iaload, 1) := by decide +kernel
theorem dX4_unite_83 : decode cX4_unite 83 = .ok (.istore 5, 2) := by decide +kernel
theorem dX4_unite_85 : decode cX4_unite 85 = .ok (.iinc 6 1, 3) := by decide +kernel
theorem dX4_unite_88 : decode cX4_unite 88 = .ok (.goto (-51), 3) := by decide +kernel
theorem dX4_unite_91 : decode cX4_unite 91 = .ok (.aload_n 0, 1) := by decide +kernel
theorem dX4_unite_92 : decode cX4_unite 92 = .ok (.getfield 15, 3) := by decide +kernel
theorem dX4_unite_95 : decode cX4_unite 95 = .ok (.iload_n 3, 1) := by decide +kernel
theorem dX4_unite_96 : decode cX4_unite 96 = .ok (.iaload, 1) := by decide +kernel
theorem dX4_unite_97 : decode cX4_unite 97 = .ok (.istore_n 3, 1) := by decide +kernel
theorem dX4_unite_98 : decode cX4_unite 98 = .ok (.iinc 4 1, 3) := by decide +kernel
theorem dX4_unite_101 : decode cX4_unite 101 = .ok (.goto (-96), 3) := by decide +kernel
theorem dX4_unite_104 : decode cX4_unite 104 = .ok (.aload_n 0, 1) := by decide +kernel
theorem dX4_unite_105 : decode cX4_unite 105 = .ok (.getfield 15, 3) := by decide +kernel
theorem dX4_unite_108 : decode cX4_unite 108 = .ok (.iload_n 1, 1) := by decide +kernel
theorem dX4_unite_109 : decode cX4_unite 109 = .ok (.iaload, 1) := by decide +kernel
theorem dX4_unite_110 : decode cX4_unite 110 = .ok (.istore 4, 2) := by decide +kernel
theorem dX4_unite_112 : decode cX4_unite 112 = .ok (.aload_n 0, 1) := by decide +kernel
theorem dX4_unite_113 : decode cX4_unite 113 = .ok (.getfield 15, 3) := by decide +kernel
theorem dX4_unite_116 : decode cX4_unite 116 = .ok (.iload_n 1, 1) := by decide +kernel
theorem dX4_unite_117 : decode cX4_unite 117 = .ok (.aload_n 0, 1) := by decide +kernel
theorem dX4_unite_118 : decode cX4_unite 118 = .ok (.getfield 15, 3) := by decide +kernel
theorem dX4_unite_121 : decode cX4_unite 121 = .ok (.iload_n 2, 1) := by decide +kernel
theorem dX4_unite_122 : decode cX4_unite 122 = .ok (.iaload, 1) := by decide +kernel
theorem dX4_unite_123 : decode cX4_unite 123 = .ok (.iastore, 1) := by decide +kernel
theorem dX4_unite_124 : decode cX4_unite 124 = .ok (.aload_n 0, 1) := by decide +kernel
theorem dX4_unite_125 : decode cX4_unite 125 = .ok (.getfield 15, 3) := by decide +kernel
theorem dX4_unite_128 : decode cX4_unite 128 = .ok (.iload_n 2, 1) := by decide +kernel
theorem dX4_unite_129 : decode cX4_unite 129 = .ok (.iload 4, 2) := by decide +kernel
theorem dX4_unite_131 : decode cX4_unite 131 = .ok (.iastore, 1) := by decide +kernel
theorem dX4_unite_132 : decode cX4_unite 132 = .ok (.aload_n 0, 1) := by decide +kernel
theorem dX4_unite_133 : decode cX4_unite 133 = .ok (.getfield 18, 3) := by decide +kernel
theorem dX4_unite_136 : decode cX4_unite 136 = .ok (.iload_n 1, 1) := by decide +kernel
theorem dX4_unite_137 : decode cX4_unite 137 = .ok (.dup2, 1) := by decide +kernel
theorem dX4_unite_138 : decode cX4_unite 138 = .ok (.iaload, 1) := by decide +kernel
theorem dX4_unite_139 : decode cX4_unite 139 = .ok (.aload_n 0, 1) := by decide +kernel
theorem dX4_unite_140 : decode cX4_unite 140 = .ok (.getfield 18, 3) := by decide +kernel
theorem dX4_unite_143 : decode cX4_unite 143 = .ok (.iload_n 2, 1) := by decide +kernel
theorem dX4_unite_144 : decode cX4_unite 144 = .ok (.iaload, 1) := by decide +kernel
theorem dX4_unite_145 : decode cX4_unite 145 = .ok (.iadd, 1) := by decide +kernel
theorem dX4_unite_146 : decode cX4_unite 146 = .ok (.iastore, 1) := by decide +kernel
theorem dX4_unite_147 : decode cX4_unite 147 = .ok (.aload_n 0, 1) := by decide +kernel
theorem dX4_unite_148 : decode cX4_unite 148 = .ok (.getfield 21, 3) := by decide +kernel
theorem dX4_unite_151 : decode cX4_unite 151 = .ok (.iload_n 1, 1) := by decide +kernel
theorem dX4_unite_152 : decode cX4_unite 152 = .ok (.aload_n 0, 1) := by decide +kernel
theorem dX4_unite_153 : decode cX4_unite 153 = .ok (.getfield 21, 3) := by decide +kernel
theorem dX4_unite_156 : decode cX4_unite 156 = .ok (.iload_n 1, 1) := by decide +kernel
theorem dX4_unite_157 : decode cX4_unite 157 = .ok (.iaload, 1) := by decide +kernel
theorem dX4_unite_158 : decode cX4_unite 158 = .ok (.aload_n 0, 1) := by decide +kernel
theorem dX4_unite_159 : decode cX4_unite 159 = .ok (.getfield 21, 3) := by decide +kernel
theorem dX4_unite_162 : decode cX4_unite 162 = .ok (.iload_n 2, 1) := by decide +kernel
theorem dX4_unite_163 : decode cX4_unite 163 = .ok (.iaload, 1) := by decide +kernel
theorem dX4_unite_164 : decode cX4_unite 164 = .ok (.invokestatic 145, 3) := by decide +kernel
theorem dX4_unite_167 : decode cX4_unite 167 = .ok (.iastore, 1) := by decide +kernel
theorem dX4_unite_168 : decode cX4_unite 168 = .ok (.aload_n 0, 1) := by decide +kernel
theorem dX4_unite_169 : decode cX4_unite 169 = .ok (.dup, 1) := by decide +kernel
theorem dX4_unite_170 : decode cX4_unite 170 = .ok (.getfield 53, 3) := by decide +kernel
theorem dX4_unite_173 : decode cX4_unite 173 = .ok (.iconst 1, 1) := by decide +kernel
theorem dX4_unite_174 : decode cX4_unite 174 = .ok (.isub, 1) := by decide +kernel
theorem dX4_unite_175 : decode cX4_unite 175 = .ok (.putfield 53, 3) := by decide +kernel
theorem dX4_unite_178 : decode cX4_unite 178 = .ok (.aload_n 0, 1) := by decide +kernel
theorem dX4_unite_179 : decode cX4_unite 179 = .ok (.getfield 24, 3) := by decide +kernel
theorem dX4_unite_182 : decode cX4_unite 182 = .ok (.iload_n 2, 1) := by decide +kernel
theorem dX4_unite_183 : decode cX4_unite 183 = .ok (.iaload, 1) := by decide +kernel
theorem dX4_unite_184 : decode cX4_unite 184 = .ok (.iconst (-1), 1) := by decide +kernel
theorem dX4_unite_185 : decode cX4_unite 185 = .ok (.if_icmp .eq 41, 3) := by decide +kernel
theorem dX4_unite_188 : decode cX4_unite 188 = .ok (.aload_n 0, 1) := by decide +kernel
theorem dX4_unite_189 : decode cX4_unite 189 = .ok (.aload_n 0, 1) := by decide +kernel
theorem dX4_unite_190 : decode cX4_unite 190 = .ok (.getfield 57, 3) := by decide +kernel
theorem dX4_unite_193 : decode cX4_unite 193 = .ok (.ifCond .ne 13, 3) := by decide +kernel
theorem dX4_unite_196 : decode cX4_unite 196 = .ok (.aload_n 0, 1) := by decide +kernel
theorem dX4_unite_197 : decode cX4_unite 197 = .ok (.getfield 24, 3) := by decide +kernel
theorem dX4_unite_200 : decode cX4_unite 200 = .ok (.iload_n 1, 1) := by decide +kernel
theorem dX4_unite_201 : decode cX4_unite 201 = .ok (.iaload, 1) := by decide +kernel
theorem dX4_unite_202 : decode cX4_unite 202 = .ok (.iconst (-1), 1) := by decide +kernel
theorem dX4_unite_203 : decode cX4_unite 203 = .ok (.if_icmp .eq 7, 3) := by decide +kernel
theorem dX4_unite_206 : decode cX4_unite 206 = .ok (.iconst 1, 1) := by decide +kernel
theorem dX4_unite_207 : decode cX4_unite 207 = .ok (.goto 4, 3) := by decide +kernel
theorem dX4_unite_210 : decode cX4_unite 210 = .ok (.iconst 0, 1) := by decide +kernel
theorem dX4_unite_211 : decode cX4_unite 211 = .ok (.putfield 57, 3) := by decide +kernel
theorem dX4_unite_214 : decode cX4_unite 214 = .ok (.aload_n 0, 1) := by decide +kernel
theorem dX4_unite_215 : decode cX4_unite 215 = .ok (.getfield 24, 3) := by decide +kernel
theorem dX4_unite_218 : decode cX4_unite 218 = .ok (.iload_n 1, 1) := by decide +kernel
theorem dX4_unite_219 : decode cX4_unite 219 = .ok (.aload_n 0, 1) := by decide +kernel
theorem dX4_unite_220 : decode cX4_unite 220 = .ok (.getfield 24, 3) := by decide +kernel
theorem dX4_unite_223 : decode cX4_unite 223 = .ok (.iload_n 2, 1) := by decide +kernel
theorem dX4_unite_224 : decode cX4_unite 224 = .ok (.iaload, 1) := by decide +kernel
theorem dX4_unite_225 : decode cX4_unite 225 = .ok (.iastore, 1) := by decide +kernel
theorem dX4_unite_226 : decode cX4_unite 226 = .ok (.return_, 1) := by decide +kernel
abbrev rmX4_unite : Room := { frames := 1, cells := 0, slots := 0, locals := 21 }
theorem ywX4_unite : fY yX4_unite "EqualCourt$Partition" cX4_unite 7 none 2 := ⟨tw_401, tp_2, tw_8, tw_402, by decide +kernel⟩
set_option maxHeartbeats 4000000 in
set_option maxRecDepth 100000 in
theorem cX4_unite_ok {D : va_G} {ad : Nat → Nat} {cy cz : ClassId} {l : Launch} {z : fS} {pb : Nat} (hpb : isP pb) {v1 : Int32} {v2 : Int32} {τ : fS} (h : fX4_unite pb z v1 v2 = some τ) : fMv D 76 ad (cfX ad cy cz) cy cz l yX4_unite cX4_unite 7 none rmX4_unite [.ref (ad pb), .int v1, .int v2] z τ := by
  refine f_bodyv (by decide) (Nat.le_of_ble_eq_true rfl) (fun p e s m args below meth c Q hC hret ls hl hI => ?_)
  have hx := hC.1
  have hb := hC.2.1
  have hl : lv_has ls 7 [(0, .ref (ad pb)), (1, .int v1), (2, .int v2)] := hl
  unfold fX4_unite at h
  have w206 : ∀ (v1 : Int32) (v2 : Int32) (z : fS) (H : Heap) (locs : List Loc) (ls : Array Slot), fI D 76 ad (cfX ad cy cz) z s H locs → lv_has ls 7 [(0, .ref (ad pb)), (1, .int v1), (2, .int v2)] → jX4_unite_206 pb  v1 v2 z = some τ → W p l e rmX4_unite s m args below meth c H locs 0 0 Q (F0 m 206 ls [.ref (ad pb)]) := by
    intro v1 v2 z H locs ls hI hl h
    unfold jX4_unite_206 at h
    refine lv_iconst (v := 1) hx hb dX4_unite_206 (by decide) ?_
    refine lv_goto (tgt := 211) hx hb dX4_unite_207 (by decide) ?_
    refine pX4_torn hpb hC hI tw_165 (by decide) dX4_unite_211 (fun z211 H locs e211 hI => ?_)
    replace h := bnd_at h e211
    refine lv_aload_n hx hb dX4_unite_214 rfl (lv_at hl 0 rfl) ?_
    refine gX4_number hpb hC hI tw_158 dX4_unite_215 ?_
    refine lv_iload_n hx hb dX4_unite_218 rfl (lv_at hl 1 rfl) ?_
    refine lv_aload_n hx hb dX4_unite_219 rfl (lv_at hl 0 rfl) ?_
    refine gX4_number hpb hC hI tw_158 dX4_unite_220 ?_
    refine lv_iload_n hx hb dX4_unite_223 rfl (lv_at hl 2 rfl) ?_
    have g224 := (gd_at h).1
    replace h := (gd_at h).2
    refine r_iald hC hI (aP_5 hpb) g224 dX4_unite_224 ?_
    have g225 := (gd_at h).1
    replace h := (gd_at h).2
    refine r_iast hC hI (aP_5 hpb) g225 dX4_unite_225 (fun z225 H locs e225 hI => ?_)
    replace h := bnd_at h e225
    exact hret h dX4_unite_226 hI
  have w104 : ∀ (v1 : Int32) (v2 : Int32) (z : fS) (H : Heap) (locs : List Loc) (ls : Array Slot), fI D 76 ad (cfX ad cy cz) z s H locs → lv_has ls 7 [(0, .ref (ad pb)), (1, .int v1), (2, .int v2)] → jX4_unite_104 pb  v1 v2 z = some τ → W p l e rmX4_unite s m args below meth c H locs 0 0 Q (F0 m 104 ls []) := by
    intro v1 v2 z H locs ls hI hl h
    unfold jX4_unite_104 at h
    refine lv_aload_n hx hb dX4_unite_104 rfl (lv_at hl 0 rfl) ?_
    refine gX4_next hpb hC hI tw_155 dX4_unite_105 ?_
    refine lv_iload_n hx hb dX4_unite_108 rfl (lv_at hl 1 rfl) ?_
    have g109 := (gd_at h).1
    replace h := (gd_at h).2
    refine r_iald hC hI (aP_2 hpb) g109 dX4_unite_109 ?_
    refine lv_topi (fun x110 e110 => ?_)
    replace h := bnd_at h e110
    refine lv_istore (lv' := [(4, .int x110), (0, .ref (ad pb)), (1, .int v1), (2, .int v2)]) hx hb dX4_unite_110 hl (by decide) rfl (fun ls hl => ?_)
    refine lv_aload_n hx hb dX4_unite_112 rfl (lv_at hl 1 rfl) ?_
    refine gX4_next hpb hC hI tw_155 dX4_unite_113 ?_
    refine lv_iload_n hx hb dX4_unite_116 rfl (lv_at hl 2 rfl) ?_
    refine lv_aload_n hx hb dX4_unite_117 rfl (lv_at hl 1 rfl) ?_
    refine gX4_next hpb hC hI tw_155 dX4_unite_118 ?_
    refine lv_iload_n hx hb dX4_unite_121 rfl (lv_at hl 3 rfl) ?_
    have g122 := (gd_at h).1
    replace h := (gd_at h).2
    refine r_iald hC hI (aP_2 hpb) g122 dX4_unite_122 ?_
    have g123 := (gd_at h).1
    replace h := (gd_at h).2
    refine r_iast hC hI (aP_2 hpb) g123 dX4_unite_123 (fun z123 H locs e123 hI => ?_)
    replace h := bnd_at h e123
    refine lv_aload_n hx hb dX4_unite_124 rfl (lv_at hl 1 rfl) ?_
    refine gX4_next hpb hC hI tw_155 dX4_unite_125 ?_
    refine lv_iload_n hx hb dX4_unite_128 rfl (lv_at hl 3 rfl) ?_
    refine lv_iload hx hb dX4_unite_129 (lv_at hl 0 rfl) ?_
    have g131 := (gd_at h).1
    replace h := (gd_at h).2
    refine r_iast hC hI (aP_2 hpb) g131 dX4_unite_131 (fun z131 H locs e131 hI => ?_)
    replace h := bnd_at h e131
    refine lv_aload_n hx hb dX4_unite_132 rfl (lv_at hl 1 rfl) ?_
    refine gX4_size hpb hC hI tw_156 dX4_unite_133 ?_
    refine lv_iload_n hx hb dX4_unite_136 rfl (lv_at hl 2 rfl) ?_
    refine lv_dup2_11 hx hb dX4_unite_137 rfl rfl ?_
    have g138 := (gd_at h).1
    replace h := (gd_at h).2
    refine r_iald hC hI (aP_3 hpb) g138 dX4_unite_138 ?_
    refine lv_aload_n hx hb dX4_unite_139 rfl (lv_at hl 1 rfl) ?_
    refine gX4_size hpb hC hI tw_156 dX4_unite_140 ?_
    refine lv_iload_n hx hb dX4_unite_143 rfl (lv_at hl 3 rfl) ?_
    have g144 := (gd_at h).1
    replace h := (gd_at h).2
    refine r_iald hC hI (aP_3 hpb) g144 dX4_unite_144 ?_
    refine lv_iadd hx hb dX4_unite_145 ?_
    have g146 := (gd_at h).1
    replace h := (gd_at h).2
    refine r_iast hC hI (aP_3 hpb) g146 dX4_unite_146 (fun z146 H locs e146 hI => ?_)
    replace h := bnd_at h e146
    refine lv_aload_n hx hb dX4_unite_147 rfl (lv_at hl 1 rfl) ?_
    refine gX4_least hpb hC hI tw_157 dX4_unite_148 ?_
    refine lv_iload_n hx hb dX4_unite_151 rfl (lv_at hl 2 rfl) ?_
    refine lv_aload_n hx hb dX4_unite_152 rfl (lv_at hl 1 rfl) ?_
    refine gX4_least hpb hC hI tw_157 dX4_unite_153 ?_
    refine lv_iload_n hx hb dX4_unite_156 rfl (lv_at hl 2 rfl) ?_
    have g157 := (gd_at h).1
    replace h := (gd_at h).2
    refine r_iald hC hI (aP_4 hpb) g157 dX4_unite_157 ?_
    refine lv_aload_n hx hb dX4_unite_158 rfl (lv_at hl 1 rfl) ?_
    refine gX4_least hpb hC hI tw_157 dX4_unite_159 ?_
    refine lv_iload_n hx hb dX4_unite_162 rfl (lv_at hl 3 rfl) ?_
    have g163 := (gd_at h).1
    replace h := (gd_at h).2
    refine r_iald hC hI (aP_4 hpb) g163 dX4_unite_163 ?_
    refine r_min hC hl.1 tw_403 tw_404 tw_12 tw_405 (Nat.le_of_ble_eq_true rfl) (Nat.le_of_ble_eq_true rfl) dX4_unite_164 ?_
    have g167 := (gd_at h).1
    replace h := (gd_at h).2
    refine r_iast hC hI (aP_4 hpb) g167 dX4_unite_167 (fun z167 H locs e167 hI => ?_)
    replace h := bnd_at h e167
    refine lv_aload_n hx hb dX4_unite_168 rfl (lv_at hl 1 rfl) ?_
    refine lv_dup hx hb dX4_unite_169 rfl ?_
    refine gX4_classes hpb hC hI tw_164 dX4_unite_170 ?_
    refine lv_iconst (v := 1) hx hb dX4_unite_173 (by decide) ?_
    refine lv_isub hx hb dX4_unite_174 ?_
    refine pX4_classes hpb hC hI tw_164 dX4_unite_175 (fun z175 H locs e175 hI => ?_)
    replace h := bnd_at h e175
    refine lv_aload_n hx hb dX4_unite_178 rfl (lv_at hl 1 rfl) ?_
    refine gX4_number hpb hC hI tw_158 dX4_unite_179 ?_
    refine lv_iload_n hx hb dX4_unite_182 rfl (lv_at hl 3 rfl) ?_
    have g183 := (gd_at h).1
    replace h := (gd_at h).2
    refine r_iald hC hI (aP_5 hpb) g183 dX4_unite_183 ?_
    refine lv_iconst (v := -1) hx hb dX4_unite_184 (by decide) ?_
    refine lv_icmp_eq (tgt := 226) hx hb dX4_unite_185 (by decide) (fun c185 => ?_) (fun c185 => ?_)
    · replace h := if_t h c185
      exact hret h dX4_unite_226 hI
    · replace h := if_f h c185
      refine lv_aload_n hx hb dX4_unite_188 rfl (lv_at hl 1 rfl) ?_
      refine lv_aload_n hx hb dX4_unite_189 rfl (lv_at hl 1 rfl) ?_
      refine gX4_torn hpb hC hI tw_165 dX4_unite_190 ?_
      refine lv_if_ne (tgt := 206) hx hb dX4_unite_193 (by decide) (fun c193 => ?_) (fun c193 => ?_)
      · replace h := if_f h c193
        exact w206 v1 v2 z175 _ _ _ hI (lv_sub hl [1, 2, 3] rfl) h
      · replace h := if_t h c193
        refine lv_aload_n hx hb dX4_unite_196 rfl (lv_at hl 1 rfl) ?_
        refine gX4_number hpb hC hI tw_158 dX4_unite_197 ?_
        refine lv_iload_n hx hb dX4_unite_200 rfl (lv_at hl 2 rfl) ?_
        have g201 := (gd_at h).1
        replace h := (gd_at h).2
        refine r_iald hC hI (aP_5 hpb) g201 dX4_unite_201 ?_
        refine lv_iconst (v := -1) hx hb dX4_unite_202 (by decide) ?_
        refine lv_icmp_eq (tgt := 210) hx hb dX4_unite_203 (by decide) (fun c203 => ?_) (fun c203 => ?_)
        · replace h := if_t h c203
          refine lv_iconst (v := 0) hx hb dX4_unite_210 (by decide) ?_
          refine pX4_torn hpb hC hI tw_165 (by decide) dX4_unite_211 (fun z211 H locs e211 hI => ?_)
          replace h := bnd_at h e211
          refine lv_aload_n hx hb dX4_unite_214 rfl (lv_at hl 1 rfl) ?_
          refine gX4_number hpb hC hI tw_158 dX4_unite_215 ?_
          refine lv_iload_n hx hb dX4_unite_218 rfl (lv_at hl 2 rfl) ?_
          refine lv_aload_n hx hb dX4_unite_219 rfl (lv_at hl 1 rfl) ?_
          refine gX4_number hpb hC hI tw_158 dX4_unite_220 ?_
          refine lv_iload_n hx hb dX4_unite_223 rfl (lv_at hl 3 rfl) ?_
          have g224 := (gd_at h).1
          replace h := (gd_at h).2
          refine r_iald hC hI (aP_5 hpb) g224 dX4_unite_224 ?_
          have g225 := (gd_at h).1
          replace h := (gd_at h).2
          refine r_iast hC hI (aP_5 hpb) g225 dX4_unite_225 (fun z225 H locs e225 hI => ?_)
          replace h := bnd_at h e225
          exact hret h dX4_unite_226 hI
        · replace h := if_f h c203
          exact w206 v1 v2 z175 _ _ _ hI (lv_sub hl [1, 2, 3] rfl) h
  refine lv_iload_n hx hb dX4_unite_0 rfl (lv_at hl 2 rfl) ?_
  refine lv_istore_n (lv' := [(3, .int v2), (0, .ref (ad pb)), (1, .int v1), (2, .int v2)]) hx hb dX4_unite_1 rfl hl (by decide) rfl (fun ls hl => ?_)
  refine lv_iconst (v := 0) hx hb dX4_unite_2 (by decide) ?_
  refine lv_istore (lv' := [(4, .int (0 : Int32)), (3, .int v2), (0, .ref (ad pb)), (1, .int v1), (2, .int v2)]) hx hb dX4_unite_3 hl (by decide) rfl (fun ls hl => ?_)
  have w5 : ∀ (N5 : Nat) (v1 : Int32) (v2 : Int32) (v3 : Int32) (v4 : Int32) (z : fS) (H : Heap) (locs : List Loc) (ls : Array Slot), fI D 76 ad (cfX ad cy cz) z s H locs → lv_has ls 7 [(0, .ref (ad pb)), (1, .int v1), (2, .int v2), (3, .int v3), (4, .int v4)] → lX4_unite_5 pb (jX4_unite_104 pb  v1 v2) v1 v2 N5 v3 v4 z = some τ → W p l e rmX4_unite s m args below meth c H locs 0 0 Q (F0 m 5 ls []) := by
    intro N5
    induction N5 with
    | zero =>
      intro v1 v2 v3 v4 z H locs ls hI hl h
      exact none_no h
    | succ N5 ih5 =>
      have w91 : ∀ (v1 : Int32) (v2 : Int32) (v3 : Int32) (v4 : Int32) (z : fS) (H : Heap) (locs : List Loc) (ls : Array Slot), fI D 76 ad (cfX ad cy cz) z s H locs → lv_has ls 7 [(0, .ref (ad pb)), (1, .int v1), (2, .int v2), (3, .int v3), (4, .int v4)] → jX4_unite_91 pb (lX4_unite_5 pb (jX4_unite_104 pb  v1 v2) v1 v2 N5) (jX4_unite_104 pb  v1 v2) v1 v2 v3 v4 z = some τ → W p l e rmX4_unite s m args below meth c H locs 0 0 Q (F0 m 91 ls []) := by
        intro v1 v2 v3 v4 z H locs ls hI hl h
        unfold jX4_unite_91 at h
        refine lv_aload_n hx hb dX4_unite_91 rfl (lv_at hl 0 rfl) ?_
        refine gX4_next hpb hC hI tw_155 dX4_unite_92 ?_
        refine lv_iload_n hx hb dX4_unite_95 rfl (lv_at hl 3 rfl) ?_
        have g96 := (gd_at h).1
        replace h := (gd_at h).2
        refine r_iald hC hI (aP_2 hpb) g96 dX4_unite_96 ?_
        refine lv_topi (fun x97 e97 => ?_)
        replace h := bnd_at h e97
        refine lv_istore_n (lv' := [(3, .int x97), (0, .ref (ad pb)), (1, .int v1), (2, .int v2), (4, .int v4)]) hx hb dX4_unite_97 rfl hl (by decide) rfl (fun ls hl => ?_)
        obtain ⟨x98, e98⟩ : ∃ y : Int32, y = (v4 + (1 : Int32)) := ⟨_, rfl⟩
        replace h := bnd_at h e98
        refine lv_iinc (v := x98) (lv' := [(4, .int x98), (3, .int x97), (0, .ref (ad pb)), (1, .int v1), (2, .int v2)]) hx hb dX4_unite_98 hl (k := 4) rfl (by rw [e98]; rfl) (by decide) rfl (fun ls hl => ?_)
        refine lv_goto (tgt := 5) hx hb dX4_unite_101 (by decide) ?_
        exact ih5 v1 v2 x97 x98 z _ _ _ hI (lv_sub hl [2, 3, 4, 1, 0] rfl) h
      intro v1 v2 v3 v4 z H locs ls hI hl h
      rw [lX4_unite_5.eq_2] at h
      refine lv_iload hx hb dX4_unite_5 (lv_at hl 4 rfl) ?_
      refine lv_aload_n hx hb dX4_unite_7 rfl (lv_at hl 0 rfl) ?_
      refine gX4_size hpb hC hI tw_156 dX4_unite_8 ?_
      refine lv_iload_n hx hb dX4_unite_11 rfl (lv_at hl 2 rfl) ?_
      have g12 := (gd_at h).1
      replace h := (gd_at h).2
      refine r_iald hC hI (aP_3 hpb) g12 dX4_unite_12 ?_
      refine lv_icmp_ge (tgt := 104) hx hb dX4_unite_13 (by decide) (fun c13 => ?_) (fun c13 => ?_)
      · replace h := if_t h c13
        exact w104 v1 v2 z _ _ _ hI (lv_sub hl [0, 1, 2] rfl) h
      · replace h := if_f h c13
        refine lv_aload_n hx hb dX4_unite_16 rfl (lv_at hl 0 rfl) ?_
        refine gX4_root hpb hC hI tw_154 dX4_unite_17 ?_
        refine lv_iload_n hx hb dX4_unite_20 rfl (lv_at hl 3 rfl) ?_
        refine lv_iload_n hx hb dX4_unite_21 rfl (lv_at hl 1 rfl) ?_
        have g22 := (gd_at h).1
        replace h := (gd_at h).2
        refine r_iast hC hI (aP_1 hpb) g22 dX4_unite_22 (fun z22 H locs e22 hI => ?_)
        replace h := bnd_at h e22
        refine lv_aload_n hx hb dX4_unite_23 rfl (lv_at hl 0 rfl) ?_
        refine gX4_terms hpb hC hI tw_152 dX4_unite_24 ?_
        refine gX7_firstPlace_N hC hI (by decide) dX4_unite_27 ?_
        refine lv_iload_n hx hb dX4_unite_30 rfl (lv_at hl 3 rfl) ?_
        have g31 := (gd_at h).1
        replace h := (gd_at h).2
        refine r_iald hC hI aX_9 g31 dX4_unite_31 ?_
        refine lv_topi (fun x32 e32 => ?_)
        replace h := bnd_at h e32
        refine lv_istore (lv' := [(5, .int x32), (0, .ref (ad pb)), (1, .int v1), (2, .int v2), (3, .int v3), (4, .int v4)]) hx hb dX4_unite_32 hl (by decide) rfl (fun ls hl => ?_)
        refine lv_iconst (v := 0) hx hb dX4_unite_34 (by decide) ?_
        refine lv_istore (lv' := [(6, .int (0 : Int32)), (5, .int x32), (0, .ref (ad pb)), (1, .int v1), (2, .int v2), (3, .int v3), (4, .int v4)]) hx hb dX4_unite_35 hl (by decide) rfl (fun ls hl => ?_)
        have w37 : ∀ (N37 : Nat) (v1 : Int32) (v2 : Int32) (v3 : Int32) (v4 : Int32) (v5 : Int32) (v6 : Int32) (z : fS) (H : Heap) (locs : List Loc) (ls : Array Slot), fI D 76 ad (cfX ad cy cz) z s H locs → lv_has ls 7 [(0, .ref (ad pb)), (1, .int v1), (2, .int v2), (3, .int v3), (4, .int v4), (5, .int v5), (6, .int v6)] → lX4_unite_37 pb (jX4_unite_91 pb (lX4_unite_5 pb (jX4_unite_104 pb  v1 v2) v1 v2 N5) (jX4_unite_104 pb  v1 v2) v1 v2 v3 v4) v1 v2 v3 v4 N37 v5 v6 z = some τ → W p l e rmX4_unite s m args below meth c H locs 0 0 Q (F0 m 37 ls []) := by
          intro N37
          induction N37 with
          | zero =>
            intro v1 v2 v3 v4 v5 v6 z H locs ls hI hl h
            exact none_no h
          | succ N37 ih37 =>
            intro v1 v2 v3 v4 v5 v6 z H locs ls hI hl h
            rw [lX4_unite_37.eq_2] at h
            refine lv_iload hx hb dX4_unite_37 (lv_at hl 6 rfl) ?_
            refine lv_sipush (v := 360) hx hb dX4_unite_39 (by decide) ?_
            refine lv_icmp_ge (tgt := 91) hx hb dX4_unite_42 (by decide) (fun c42 => ?_) (fun c42 => ?_)
            · replace h := if_t h c42
              exact w91 v1 v2 v3 v4 z _ _ _ hI (lv_sub hl [0, 1, 2, 3, 4] rfl) h
            · replace h := if_f h c42
              refine lv_iload hx hb dX4_unite_45 (lv_at hl 5 rfl) ?_
              refine lv_iconst (v := -1) hx hb dX4_unite_47 (by decide) ?_
              refine lv_icmp_eq (tgt := 91) hx hb dX4_unite_48 (by decide) (fun c48 => ?_) (fun c48 => ?_)
              · replace h := if_t h c48
                exact w91 v1 v2 v3 v4 z _ _ _ hI (lv_sub hl [0, 1, 2, 3, 4] rfl) h
              · replace h := if_f h c48
                refine lv_iload hx hb dX4_unite_51 (lv_at hl 5 rfl) ?_
                refine lv_iconst (v := 3) hx hb dX4_unite_53 (by decide) ?_
                refine lv_idiv hx hb dX4_unite_54 (by decide) ?_
                refine lv_aload_n hx hb dX4_unite_55 rfl (lv_at hl 0 rfl) ?_
                refine gX4_known hpb hC hI tw_163 dX4_unite_56 ?_
                refine lv_icmp_ge (tgt := 73) hx hb dX4_unite_59 (by decide) (fun c59 => ?_) (fun c59 => ?_)
                · replace h := if_t h c59
                  refine lv_aload_n hx hb dX4_unite_73 rfl (lv_at hl 0 rfl) ?_
                  refine gX4_terms hpb hC hI tw_152 dX4_unite_74 ?_
                  refine gX7_nextPlace_N hC hI (by decide) dX4_unite_77 ?_
                  refine lv_iload hx hb dX4_unite_80 (lv_at hl 5 rfl) ?_
                  have g82 := (gd_at h).1
                  replace h := (gd_at h).2
                  refine r_iald hC hI aX_10 g82 dX4_unite_82 ?_
                  refine lv_topi (fun x83 e83 => ?_)
                  replace h := bnd_at h e83
                  refine lv_istore (lv' := [(5, .int x83), (0, .ref (ad pb)), (1, .int v1), (2, .int v2), (3, .int v3), (4, .int v4), (6, .int v6)]) hx hb dX4_unite_83 hl (by decide) rfl (fun ls hl => ?_)
                  obtain ⟨x85, e85⟩ : ∃ y : Int32, y = (v6 + (1 : Int32)) := ⟨_, rfl⟩
                  replace h := bnd_at h e85
                  refine lv_iinc (v := x85) (lv' := [(6, .int x85), (5, .int x83), (0, .ref (ad pb)), (1, .int v1), (2, .int v2), (3, .int v3), (4, .int v4)]) hx hb dX4_unite_85 hl (k := 6) rfl (by rw [e85]; rfl) (by decide) rfl (fun ls hl => ?_)
                  refine lv_goto (tgt := 37) hx hb dX4_unite_88 (by decide) ?_
                  exact ih37 v1 v2 v3 v4 x83 x85 z _ _ _ hI (lv_sub hl [2, 3, 4, 5, 6, 1, 0] rfl) h
                · replace h := if_f h c59
                  refine lv_aload_n hx hb dX4_unite_62 rfl (lv_at hl 0 rfl) ?_
                  refine gX4_agenda hpb hC hI tw_153 dX4_unite_63 ?_
                  refine lv_iload hx hb dX4_unite_66 (lv_at hl 5 rfl) ?_
                  refine lv_iconst (v := 3) hx hb dX4_unite_68 (by decide) ?_
                  refine lv_idiv hx hb dX4_unite_69 (by decide) ?_
                  replace h := bp_at h
                  obtain ⟨z70, e70, h⟩ := h
                  refine r_callv (rest := []) hC hI oX_23 (C := "EqualCourt$Agenda") rfl ywX0_putChanged tw_370 (cX0_putChanged_ok  e70) ⟨Nat.le_of_ble_eq_true rfl, Nat.le_of_ble_eq_true rfl⟩ ⟨rfl, rfl⟩ rfl hl.1 rfl (Nat.le_of_ble_eq_true rfl) dX4_unite_70 (fun H locs hI => ?_)
                  refine lv_aload_n hx hb dX4_unite_73 rfl (lv_at hl 0 rfl) ?_
                  refine gX4_terms hpb hC hI tw_152 dX4_unite_74 ?_
                  refine gX7_nextPlace_N hC hI (by decide) dX4_unite_77 ?_
                  refine lv_iload hx hb dX4_unite_80 (lv_at hl 5 rfl) ?_
                  have g82 := (gd_at h).1
                  replace h := (gd_at h).2
                  refine r_iald hC hI aX_10 g82 dX4_unite_82 ?_
                  refine lv_topi (fun x83 e83 => ?_)
                  replace h := bnd_at h e83
                  refine lv_istore (lv' := [(5, .int x83), (0, .ref (ad pb)), (1, .int v1), (2, .int v2), (3, .int v3), (4, .int v4), (6, .int v6)]) hx hb dX4_unite_83 hl (by decide) rfl (fun ls hl => ?_)
                  obtain ⟨x85, e85⟩ : ∃ y : Int32, y = (v6 + (1 : Int32)) := ⟨_, rfl⟩
                  replace h := bnd_at h e85
                  refine lv_iinc (v := x85) (lv' := [(6, .int x85), (5, .int x83), (0, .ref (ad pb)), (1, .int v1), (2, .int v2), (3, .int v3), (4, .int v4)]) hx hb dX4_unite_85 hl (k := 6) rfl (by rw [e85]; rfl) (by decide) rfl (fun ls hl => ?_)
                  refine lv_goto (tgt := 37) hx hb dX4_unite_88 (by decide) ?_
                  exact ih37 v1 v2 v3 v4 x83 x85 z70 _ _ _ hI (lv_sub hl [2, 3, 4, 5, 6, 1, 0] rfl) h
        exact w37 FU v1 v2 v3 v4 x32 (0 : Int32) z22 _ _ _ hI (lv_sub hl [2, 3, 4, 5, 6, 1, 0] rfl) h
  exact w5 FU v1 v2 v2 (0 : Int32) z _ _ _ hI (lv_sub hl [2, 3, 4, 1, 0] rfl) h
theorem dX4_uniteRows_0 : decode cX4_uniteRows 0 = .ok (.aload_n 0, 1) := by decide +kernel
theorem dX4_uniteRows_1 : decode cX4_uniteRows 1 = .ok (.getfield 27, 3) := by decide +kernel
theorem dX4_uniteRows_4 : decode cX4_uniteRows 4 = .ok (.iload_n 2, 1) := by decide +kernel
theorem dX4_uniteRows_5 : decode cX4_uniteRows 5 = .ok (.iaload, 1) := by decide +kernel
theorem dX4_uniteRows_6 : decode cX4_uniteRows 6 = .ok (.istore_n 3, 1) := by decide +kernel
theorem dX4_uniteRows_7 : decode cX4_uniteRows 7 = .ok (.aload_n 0, 1) := by decide +kernel
theorem dX4_uniteRows_8 : decode cX4_uniteRows 8 = .ok (.getfield 27, 3) := by decide +kernel
theorem dX4_uniteRows_11 : decode cX4_uniteRows 11 = .ok (.iload_n 1, 1) := by decide +kernel
theorem dX4_uniteRows_12 : decode cX4_uniteRows 12 = .ok (.iaload, 1) := by decide +kernel
theorem dX4_uniteRows_13 : decode cX4_uniteRows 13 = .ok (.istore 4, 2) := by decide +kernel
theorem dX4_uniteRows_15 : decode cX4_uniteRows 15 = .ok (.iload 4, 2) := by decide +kernel
theorem dX4_uniteRows_17 : decode cX4_uniteRows 17 = .ok (.iconst (-1), 1) := by decide +kernel
theorem dX4_uniteRows_18 : decode cX4_uniteRows 18 = .ok (.if_icmp .ne 13, 3) := by decide +kernel
theorem dX4_uniteRows_21 : decode cX4_uniteRows 21 = .ok (.aload_n 0, 1) := by decide +kernel
theorem dX4_uniteRows_22 : decode cX4_uniteRows 22 = .ok (.getfield 27, 3) := by decide +kernel
theorem dX4_uniteRows_25 : decode cX4_uniteRows 25 = .ok (.iload_n 1, 1) := by decide +kernel
theorem dX4_uniteRows_26 : decode cX4_uniteRows 26 = .ok (.iload_n 3, 1) := by decide +kernel
theorem dX4_uniteRows_27 : decode cX4_uniteRows 27 = .ok (.iastore, 1) := by decide +kernel
theorem dX4_uniteRows_28 : decode cX4_uniteRows 28 = .ok (.goto 72, 3) := by decide +kernel
theorem dX4_uniteRows_31 : decode cX4_uniteRows 31 = .ok (.iload_n 3, 1) := by decide +kernel
theorem dX4_uniteRows_32 : decode cX4_uniteRows 32 = .ok (.iconst (-1), 1) := by decide +kernel
theorem dX4_uniteRows_33 : decode cX4_uniteRows 33 = .ok (.if_icmp .eq 67, 3) := by decide +kernel
theorem dX4_uniteRows_36 : decode cX4_uniteRows 36 = .ok (.aload_n 0, 1) := by decide +kernel
theorem dX4_uniteRows_37 : decode cX4_uniteRows 37 = .ok (.getfield 43, 3) := by decide +kernel
theorem dX4_uniteRows_40 : decode cX4_uniteRows 40 = .ok (.aload_n 0, 1) := by decide +kernel
theorem dX4_uniteRows_41 : decode cX4_uniteRows 41 = .ok (.getfield 39, 3) := by decide +kernel
theorem dX4_uniteRows_44 : decode cX4_uniteRows 44 = .ok (.getfield 150, 3) := by decide +kernel
theorem dX4_uniteRows_47 : decode cX4_uniteRows 47 = .ok (.iconst 3, 1) := by decide +kernel
theorem dX4_uniteRows_48 : decode cX4_uniteRows 48 = .ok (.iload 4, 2) := by decide +kernel
theorem dX4_uniteRows_50 : decode cX4_uniteRows 50 = .ok (.imul, 1) := by decide +kernel
theorem dX4_uniteRows_51 : decode cX4_uniteRows 51 = .ok (.iaload, 1) := by decide +kernel
theorem dX4_uniteRows_52 : decode cX4_uniteRows 52 = .ok (.aload_n 0, 1) := by decide +kernel
theorem dX4_uniteRows_53 : decode cX4_uniteRows 53 = .ok (.getfield 39, 3) := by decide +kernel
theorem dX4_uniteRows_56 : decode cX4_uniteRows 56 = .ok (.getfield 150, 3) := by decide +kernel
theorem dX4_uniteRows_59 : decode cX4_uniteRows 59 = .ok (.iconst 3, 1) := by decide +kernel
theorem dX4_uniteRows_60 : decode cX4_uniteRows 60 = .ok (.iload_n 3, 1) := by decide +kernel
theorem dX4_uniteRows_61 : decode cX4_uniteRows 61 = .ok (.imul, 1) := by decide +kernel
theorem dX4_uniteRows_62 : decode cX4_uniteRows 62 = .ok (.iaload, 1) := by decide +kernel
theorem dX4_uniteRows_63 : decode cX4_uniteRows 63 = .ok (.invokevirtual 103, 3) := by decide +kernel
theorem dX4_uniteRows_66 : decode cX4_uniteRows 66 = .ok (.aload_n 0, 1) := by decide +kernel
theorem dX4_uniteRows_67 : decode cX4_uniteRows 67 = .ok (.getfield 43, 3) := by decide +kernel
theorem dX4_uniteRows_70 : decode cX4_uniteRows 70 = .ok (.aload_n 0, 1) := by decide +kernel
theorem dX4_uniteRows_71 : decode cX4_uniteRows 71 = .ok (.getfield 39, 3) := by decide +kernel
theorem dX4_uniteRows_74 : decode cX4_uniteRows 74 = .ok (.getfield 150, 3) := by decide +kernel
theorem dX4_uniteRows_77 : decode cX4_uniteRows 77 = .ok (.iconst 3, 1) := by decide +kernel
theorem dX4_uniteRows_78 : decode cX4_uniteRows 78 = .ok (.iload 4, 2) := by decide +kernel
theorem dX4_uniteRows_80 : decode cX4_uniteRows 80 = .ok (.imul, 1) := by decide +kernel
theorem dX4_uniteRows_81 : decode cX4_uniteRows 81 = .ok (.iconst 1, 1) := by decide +kernel
theorem dX4_uniteRows_82 : decode cX4_uniteRows 82 = .ok (.iadd, 1) := by decide +kernel
theorem dX4_uniteRows_83 : decode cX4_uniteRows 83 = .ok (.iaload, 1) := by decide +kernel
theorem dX4_uniteRows_84 : decode cX4_uniteRows 84 = .ok (.aload_n 0, 1) := by decide +kernel
theorem dX4_uniteRows_85 : decode cX4_uniteRows 85 = .ok (.getfield 39, 3) := by decide +kernel
theorem dX4_uniteRows_88 : decode cX4_uniteRows 88 = .ok (.getfield 150, 3) := by decide +kernel
theorem dX4_uniteRows_91 : decode cX4_uniteRows 91 = .ok (.iconst 3, 1) := by decide +kernel
theorem dX4_uniteRows_92 : decode cX4_uniteRows 92 = .ok (.iload_n 3, 1) := by decide +kernel
theorem dX4_uniteRows_93 : decode cX4_uniteRows 93 = .ok (.imul, 1) := by decide +kernel
theorem dX4_uniteRows_94 : decode cX4_uniteRows 94 = .ok (.iconst 1, 1) := by decide +kernel
theorem dX4_uniteRows_95 : decode cX4_uniteRows 95 = .ok (.iadd, 1) := by decide +kernel
theorem dX4_uniteRows_96 : decode cX4_uniteRows 96 = .ok (.iaload, 1) := by decide +kernel
theorem dX4_uniteRows_97 : decode cX4_uniteRows 97 = .ok (.invokevirtual 103, 3) := by decide +kernel
theorem dX4_uniteRows_100 : decode cX4_uniteRows 100 = .ok (.return_, 1) := by decide +kernel
abbrev rmX4_uniteRows : Room := { frames := 1, cells := 0, slots := 0, locals := 22 }
theorem ywX4_uniteRows : fY yX4_uniteRows "EqualCourt$Partition" cX4_uniteRows 5 none 2 := ⟨tw_408, tp_3, tw_8, tw_409, by decide +kernel⟩
set_option maxHeartbeats 4000000 in
set_option maxRecDepth 100000 in
theorem cX4_uniteRows_ok {D : va_G} {ad : Nat → Nat} {cy cz : ClassId} {l : Launch} {z : fS} {pb : Nat} (hpb : isP pb) {v1 : Int32} {v2 : Int32} {τ : fS} (h : fX4_uniteRows pb z v1 v2 = some τ) : fMv D 76 ad (cfX ad cy cz) cy cz l yX4_uniteRows cX4_uniteRows 5 none rmX4_uniteRows [.ref (ad pb), .int v1, .int v2] z τ := by
  refine f_bodyv (by decide) (Nat.le_of_ble_eq_true rfl) (fun p e s m args below meth c Q hC hret ls hl hI => ?_)
  have hx := hC.1
  have hb := hC.2.1
  have hl : lv_has ls 5 [(0, .ref (ad pb)), (1, .int v1), (2, .int v2)] := hl
  unfold fX4_uniteRows at h
  refine lv_aload_n hx hb dX4_uniteRows_0 rfl (lv_at hl 0 rfl) ?_
  refine gX4_aRow hpb hC hI tw_159 dX4_uniteRows_1 ?_
  refine lv_iload_n hx hb dX4_uniteRows_4 rfl (lv_at hl 2 rfl) ?_
  have g5 := (gd_at h).1
  replace h := (gd_at h).2
  refine r_iald hC hI (aP_6 hpb) g5 dX4_uniteRows_5 ?_
  refine lv_topi (fun x6 e6 => ?_)
  replace h := bnd_at h e6
  refine lv_istore_n (lv' := [(3, .int x6), (0, .ref (ad pb)), (1, .int v1), (2, .int v2)]) hx hb dX4_uniteRows_6 rfl hl (by decide) rfl (fun ls hl => ?_)
  refine lv_aload_n hx hb dX4_uniteRows_7 rfl (lv_at hl 1 rfl) ?_
  refine gX4_aRow hpb hC hI tw_159 dX4_uniteRows_8 ?_
  refine lv_iload_n hx hb dX4_uniteRows_11 rfl (lv_at hl 2 rfl) ?_
  have g12 := (gd_at h).1
  replace h := (gd_at h).2
  refine r_iald hC hI (aP_6 hpb) g12 dX4_uniteRows_12 ?_
  refine lv_topi (fun x13 e13 => ?_)
  replace h := bnd_at h e13
  refine lv_istore (lv' := [(4, .int x13), (3, .int x6), (0, .ref (ad pb)), (1, .int v1), (2, .int v2)]) hx hb dX4_uniteRows_13 hl (by decide) rfl (fun ls hl => ?_)
  refine lv_iload hx hb dX4_uniteRows_15 (lv_at hl 0 rfl) ?_
  refine lv_iconst (v := -1) hx hb dX4_uniteRows_17 (by decide) ?_
  refine lv_icmp_ne (tgt := 31) hx hb dX4_uniteRows_18 (by decide) (fun c18 => ?_) (fun c18 => ?_)
  · replace h := if_f h c18
    refine lv_iload_n hx hb dX4_uniteRows_31 rfl (lv_at hl 1 rfl) ?_
    refine lv_iconst (v := -1) hx hb dX4_uniteRows_32 (by decide) ?_
    refine lv_icmp_eq (tgt := 100) hx hb dX4_uniteRows_33 (by decide) (fun c33 => ?_) (fun c33 => ?_)
    · replace h := if_t h c33
      exact hret h dX4_uniteRows_100 hI
    · replace h := if_f h c33
      refine lv_aload_n hx hb dX4_uniteRows_36 rfl (lv_at hl 2 rfl) ?_
      refine gX4_agenda hpb hC hI tw_153 dX4_uniteRows_37 ?_
      refine lv_aload_n hx hb dX4_uniteRows_40 rfl (lv_at hl 2 rfl) ?_
      refine gX4_terms hpb hC hI tw_152 dX4_uniteRows_41 ?_
      refine gX7_parts_N hC hI (by decide) dX4_uniteRows_44 ?_
      refine lv_iconst (v := 3) hx hb dX4_uniteRows_47 (by decide) ?_
      refine lv_iload hx hb dX4_uniteRows_48 (lv_at hl 0 rfl) ?_
      refine lv_imul hx hb dX4_uniteRows_50 ?_
      have g51 := (gd_at h).1
      replace h := (gd_at h).2
      refine r_iald hC hI aX_5 g51 dX4_uniteRows_51 ?_
      refine lv_aload_n hx hb dX4_uniteRows_52 rfl (lv_at hl 2 rfl) ?_
      refine gX4_terms hpb hC hI tw_152 dX4_uniteRows_53 ?_
      refine gX7_parts_N hC hI (by decide) dX4_uniteRows_56 ?_
      refine lv_iconst (v := 3) hx hb dX4_uniteRows_59 (by decide) ?_
      refine lv_iload_n hx hb dX4_uniteRows_60 rfl (lv_at hl 1 rfl) ?_
      refine lv_imul hx hb dX4_uniteRows_61 ?_
      have g62 := (gd_at h).1
      replace h := (gd_at h).2
      refine r_iald hC hI aX_5 g62 dX4_uniteRows_62 ?_
      replace h := bp_at h
      obtain ⟨z63, e63, h⟩ := h
      refine r_callv (rest := []) hC hI oX_23 (C := "EqualCourt$Agenda") rfl ywX0_putPair tw_378 (cX0_putPair_ok  e63) ⟨Nat.le_of_ble_eq_true rfl, Nat.le_of_ble_eq_true rfl⟩ ⟨rfl, rfl⟩ rfl hl.1 rfl (Nat.le_of_ble_eq_true rfl) dX4_uniteRows_63 (fun H locs hI => ?_)
      refine lv_aload_n hx hb dX4_uniteRows_66 rfl (lv_at hl 2 rfl) ?_
      refine gX4_agenda hpb hC hI tw_153 dX4_uniteRows_67 ?_
      refine lv_aload_n hx hb dX4_uniteRows_70 rfl (lv_at hl 2 rfl) ?_
      refine gX4_terms hpb hC hI tw_152 dX4_uniteRows_71 ?_
      refine gX7_parts_N hC hI (by decide) dX4_uniteRows_74 ?_
      refine lv_iconst (v := 3) hx hb dX4_uniteRows_77 (by decide) ?_
      refine lv_iload hx hb dX4_uniteRows_78 (lv_at hl 0 rfl) ?_
      refine lv_imul hx hb dX4_uniteRows_80 ?_
      refine lv_iconst (v := 1) hx hb dX4_uniteRows_81 (by decide) ?_
      refine lv_iadd hx hb dX4_uniteRows_82 ?_
      have g83 := (gd_at h).1
      replace h := (gd_at h).2
      refine r_iald hC hI aX_5 g83 dX4_uniteRows_83 ?_
      refine lv_aload_n hx hb dX4_uniteRows_84 rfl (lv_at hl 2 rfl) ?_
      refine gX4_terms hpb hC hI tw_152 dX4_uniteRows_85 ?_
      refine gX7_parts_N hC hI (by decide) dX4_uniteRows_88 ?_
      refine lv_iconst (v := 3) hx hb dX4_uniteRows_91 (by decide) ?_
      refine lv_iload_n hx hb dX4_uniteRows_92 rfl (lv_at hl 1 rfl) ?_
      refine lv_imul hx hb dX4_uniteRows_93 ?_
      refine lv_iconst (v := 1) hx hb dX4_uniteRows_94 (by decide) ?_
      refine lv_iadd hx hb dX4_uniteRows_95 ?_
      have g96 := (gd_at h).1
      replace h := (gd_at h).2
      refine r_iald hC hI aX_5 g96 dX4_uniteRows_96 ?_
      replace h := bp_at h
      obtain ⟨z97, e97, h⟩ := h
      refine r_callv (rest := []) hC hI oX_23 (C := "EqualCourt$Agenda") rfl ywX0_putPair tw_378 (cX0_putPair_ok  e97) ⟨Nat.le_of_ble_eq_true rfl, Nat.le_of_ble_eq_true rfl⟩ ⟨rfl, rfl⟩ rfl hl.1 rfl (Nat.le_of_ble_eq_true rfl) dX4_uniteRows_97 (fun H locs hI => ?_)
      exact hret h dX4_uniteRows_100 hI
  · replace h := if_t h c18
    refine lv_aload_n hx hb dX4_uniteRows_21 rfl (lv_at hl 2 rfl) ?_
    refine gX4_aRow hpb hC hI tw_159 dX4_uniteRows_22 ?_
    refine lv_iload_n hx hb dX4_uniteRows_25 rfl (lv_at hl 3 rfl) ?_
    refine lv_iload_n hx hb dX4_uniteRows_26 rfl (lv_at hl 1 rfl) ?_
    have g27 := (gd_at h).1
    replace h := (gd_at h).2
    refine r_iast hC hI (aP_6 hpb) g27 dX4_uniteRows_27 (fun z27 H locs e27 hI => ?_)
    replace h := bnd_at h e27
    refine lv_goto (tgt := 100) hx hb dX4_uniteRows_28 (by decide) ?_
    exact hret h dX4_uniteRows_100 hI
theorem dX4_takeOut_0 : decode cX4_takeOut 0 = .ok (.aload_n 0, 1) := by decide +kernel
theorem dX4_takeOut_1 : decode cX4_takeOut 1 = .ok (.getfield 36, 3) := by decide +kernel
theorem dX4_takeOut_4 : decode cX4_takeOut 4 = .ok (.iload_n 1, 1) := by decide +kernel
theorem dX4_takeOut_5 : decode cX4_takeOut 5 = .ok (.iaload, 1) := by decide +kernel
theorem dX4_takeOut_6 : decode cX4_takeOut 6 = .ok (.istore_n 2, 1) := by decide +kernel
theorem dX4_takeOut_7 : decode cX4_takeOut 7 = .ok (.iload_n 2, 1) := by decide +kernel
theorem dX4_takeOut_8 : decode cX4_takeOut 8 = .ok (.iconst (-1), 1) := by decide +kernel
theorem dX4_takeOut_9 : decode cX4_takeOut 9 = .ok (.if_icmp .ne 4, 3) := by decide +kernel
theorem dX4_takeOut_12 : decode cX4_takeOut 12 = .ok (.return_, 1) := by decide +kernel
theorem dX4_takeOut_13 : decode cX4_takeOut 13 = .ok (.aload_n 0, 1) := by decide +kernel
theorem dX4_takeOut_14 : decode cX4_takeOut 14 = .ok (.getfield 36, 3) := by decide +kernel
theorem dX4_takeOut_17 : decode cX4_takeOut 17 = .ok (.iload_n 1, 1) := by decide +kernel
theorem dX4_takeOut_18 : decode cX4_takeOut 18 = .ok (.iconst (-1), 1) := by decide +kernel
theorem dX4_takeOut_19 : decode cX4_takeOut 19 = .ok (.iastore, 1) := by decide +kernel
theorem dX4_takeOut_20 : decode cX4_takeOut 20 = .ok (.aload_n 0, 1) := by decide +kernel
theorem dX4_takeOut_21 : decode cX4_takeOut 21 = .ok (.getfield 30, 3) := by decide +kernel
theorem dX4_takeOut_24 : decode cX4_takeOut 24 = .ok (.iload_n 2, 1) := by decide +kernel
theorem dX4_takeOut_25 : decode cX4_takeOut 25 = .ok (.iaload, 1) := by decide +kernel
theorem dX4_takeOut_26 : decode cX4_takeOut 26 = .ok (.iload_n 1, 1) := by decide +kernel
theorem dX4_takeOut_27 : decode cX4_takeOut 27 = .ok (.if_icmp .ne 16, 3) := by decide +kernel
theorem dX4_takeOut_30 : decode cX4_takeOut 30 = .ok (.aload_n 0, 1) := by decide +kernel
theorem dX4_takeOut_31 : decode cX4_takeOut 31 = .ok (.getfield 30, 3) := by decide +kernel
theorem dX4_takeOut_34 : decode cX4_takeOut 34 = .ok (.iload_n 2, 1) := by decide +kernel
theorem dX4_takeOut_35 : decode cX4_takeOut 35 = .ok (.aload_n 0, 1) := by decide +kernel
theorem dX4_takeOut_36 : decode cX4_takeOut 36 = .ok (.getfield 33, 3) := by decide +kernel
theorem dX4_takeOut_39 : decode cX4_takeOut 39 = .ok (.iload_n 1, 1) := by decide +kernel
theorem dX4_takeOut_40 : decode cX4_takeOut 40 = .ok (.iaload, 1) := by decide +kernel
theorem dX4_takeOut_41 : decode cX4_takeOut 41 = .ok (.iastore, 1) := by decide +kernel
theorem dX4_takeOut_42 : decode cX4_takeOut 42 = .ok (.return_, 1) := by decide +kernel
theorem dX4_takeOut_43 : decode cX4_takeOut 43 = .ok (.aload_n 0, 1) := by decide +kernel
theorem dX4_takeOut_44 : decode cX4_takeOut 44 = .ok (.getfield 30, 3) := by decide +kernel
theorem dX4_takeOut_47 : decode cX4_takeOut 47 = .ok (.iload_n 2, 1) := by decide +kernel
theorem dX4_takeOut_48 : decode cX4_takeOut 48 = .ok (.iaload, 1) := by decide +kernel
theorem dX4_takeOut_49 : decode cX4_takeOut 49 = .ok (.istore_n 3, 1) := by decide +kernel
theorem dX4_takeOut_50 : decode cX4_takeOut 50 = .ok (.iconst 0, 1) := by decide +kernel
theorem dX4_takeOut_51 : decode cX4_takeOut 51 = .ok (.istore 4, 2) := by decide +kernel
theorem dX4_takeOut_53 : decode cX4_takeOut 53 = .ok (.iload 4, 2) := by decide +kernel
theorem dX4_takeOut_55 : decode cX4_takeOut 55 = .ok (.bipush 120, 2) := by decide +kernel
theorem dX4_takeOut_57 : decode cX4_takeOut 57 = .ok (.if_icmp .ge 44, 3) := by decide +kernel
theorem dX4_takeOut_60 : decode cX4_takeOut 60 = .ok (.iload_n 3, 1) := by decide +kernel
theorem dX4_takeOut_61 : decode cX4_takeOut 61 = .ok (.iconst (-1), 1) := by decide +kernel
theorem dX4_takeOut_62 : decode cX4_takeOut 62 = .ok (.if_icmp .eq 39, 3) := by decide +kernel
theorem dX4_takeOut_65 : decode cX4_takeOut 65 = .ok (.aload_n 0, 1) := by decide +kernel
theorem dX4_takeOut_66 : decode cX4_takeOut 66 = .ok (.getfield 33, 3) := by decide +kernel
theorem dX4_takeOut_69 : decode cX4_takeOut 69 = .ok (.iload_n 3, 1) := by decide +kernel
theorem dX4_takeOut_70 : decode cX4_takeOut 70 = .ok (.iaload, 1) := by decide +kernel
theorem dX4_takeOut_71 : decode cX4_takeOut 71 = .ok (.iload_n 1, 1) := by decide +kernel
theorem dX4_takeOut_72 : decode cX4_takeOut 72 = .ok (.if_icmp .ne 16, 3) := by decide +kernel
theorem dX4_takeOut_75 : decode cX4_takeOut 75 = .ok (.aload_n 0, 1) := by decide +kernel
theorem dX4_takeOut_76 : decode cX4_takeOut 76 = .ok (.getfield 33, 3) := by decide +kernel
theorem dX4_takeOut_79 : decode cX4_takeOut 79 = .ok (.iload_n 3, 1) := by decide +kernel
theorem dX4_takeOut_80 : decode cX4_takeOut 80 = .ok (.aload_n 0, 1) := by decide +kernel
theorem dX4_takeOut_81 : decode cX4_takeOut 81 = .ok (.getfield 33, 3) := by decide +kernel
theorem dX4_takeOut_84 : decode cX4_takeOut 84 = .ok (.iload_n 1, 1) := by decide +kernel
theorem dX4_takeOut_85 : decode cX4_takeOut 85 = .ok (.iaload, 1) := by decide +kernel
theorem dX4_takeOut_86 : decode cX4_takeOut 86 = .ok (.iastore, 1) := by decide +kernel
theorem dX4_takeOut_87 : decode cX4_takeOut 87 = .ok (.return_, 1) := by decide +kernel
theorem dX4_takeOut_88 : decode cX4_takeOut 88 = .ok (.aload_n 0, 1) := by decide +kernel
theorem dX4_takeOut_89 : decode cX4_takeOut 89 = .ok (.getfield 33, 3) := by decide +kernel
theorem dX4_takeOut_92 : decode cX4_takeOut 92 = .ok (.iload_n 3, 1) := by decide +kernel
theorem dX4_takeOut_93 : decode cX4_takeOut 93 = .ok (.iaload, 1) := by decide +kernel
theorem dX4_takeOut_94 : decode cX4_takeOut 94 = .ok (.istore_n 3, 1) := by decide +kernel
theorem dX4_takeOut_95 : decode cX4_takeOut 95 = .ok (.iinc 4 1, 3) := by decide +kernel
theorem dX4_takeOut_98 : decode cX4_takeOut 98 = .ok (.goto (-45), 3) := by decide +kernel
theorem dX4_takeOut_101 : decode cX4_takeOut 101 = .ok (.return_, 1) := by decide +kernel
abbrev rmX4_takeOut : Room := { frames := 0, cells := 0, slots := 0, locals := 0 }
theorem ywX4_takeOut : fY yX4_takeOut "EqualCourt$Partition" cX4_takeOut 5 none 1 := ⟨tw_424, tp_5, tw_8, tw_425, by decide +kernel⟩
set_option maxHeartbeats 4000000 in
set_option maxRecDepth 100000 in
theorem cX4_takeOut_ok {D : va_G} {ad : Nat → Nat} {cy cz : ClassId} {l : Launch} {z : fS} {pb : Nat} (hpb : isP pb) {v1 : Int32} {τ : fS} (h : fX4_takeOut pb z v1 = some τ) : fMv D 76 ad (cfX ad cy cz) cy cz l yX4_takeOut cX4_takeOut 5 none rmX4_takeOut [.ref (ad pb), .int v1] z τ := by
  refine f_bodyv (by decide) (Nat.le_of_ble_eq_true rfl) (fun p e s m args below meth c Q hC hret ls hl hI => ?_)
  have hx := hC.1
  have hb := hC.2.1
  have hl : lv_has ls 5 [(0, .ref (ad pb)), (1, .int v1)] := hl
  unfold fX4_takeOut at h
  refine lv_aload_n hx hb dX4_takeOut_0 rfl (lv_at hl 0 rfl) ?_
  refine gX4_slot hpb hC hI tw_162 dX4_takeOut_1 ?_
  refine lv_iload_n hx hb dX4_takeOut_4 rfl (lv_at hl 1 rfl) ?_
  have g5 := (gd_at h).1
  replace h := (gd_at h).2
  refine r_iald hC hI (aP_9 hpb) g5 dX4_takeOut_5 ?_
  refine lv_topi (fun x6 e6 => ?_)
  replace h := bnd_at h e6
  refine lv_istore_n (lv' := [(2, .int x6), (0, .ref (ad pb)), (1, .int v1)]) hx hb dX4_takeOut_6 rfl hl (by decide) rfl (fun ls hl => ?_)
  refine lv_iload_n hx hb dX4_takeOut_7 rfl (lv_at hl 0 rfl) ?_
  refine lv_iconst (v := -1) hx hb dX4_takeOut_8 (by decide) ?_
  refine lv_icmp_ne (tgt := 13) hx hb dX4_takeOut_9 (by decide) (fun c9 => ?_) (fun c9 => ?_)
  · replace h := if_f h c9
    refine lv_aload_n hx hb dX4_takeOut_13 rfl (lv_at hl 1 rfl) ?_
    refine gX4_slot hpb hC hI tw_162 dX4_takeOut_14 ?_
    refine lv_iload_n hx hb dX4_takeOut_17 rfl (lv_at hl 2 rfl) ?_
    refine lv_iconst (v := -1) hx hb dX4_takeOut_18 (by decide) ?_
    have g19 := (gd_at h).1
    replace h := (gd_at h).2
    refine r_iast hC hI (aP_9 hpb) g19 dX4_takeOut_19 (fun z19 H locs e19 hI => ?_)
    replace h := bnd_at h e19
    refine lv_aload_n hx hb dX4_takeOut_20 rfl (lv_at hl 1 rfl) ?_
    refine gX4_buckets hpb hC hI tw_160 dX4_takeOut_21 ?_
    refine lv_iload_n hx hb dX4_takeOut_24 rfl (lv_at hl 0 rfl) ?_
    have g25 := (gd_at h).1
    replace h := (gd_at h).2
    refine r_iald hC hI (aP_7 hpb) g25 dX4_takeOut_25 ?_
    refine lv_iload_n hx hb dX4_takeOut_26 rfl (lv_at hl 2 rfl) ?_
    refine lv_icmp_ne (tgt := 43) hx hb dX4_takeOut_27 (by decide) (fun c27 => ?_) (fun c27 => ?_)
    · replace h := if_f h c27
      refine lv_aload_n hx hb dX4_takeOut_43 rfl (lv_at hl 1 rfl) ?_
      refine gX4_buckets hpb hC hI tw_160 dX4_takeOut_44 ?_
      refine lv_iload_n hx hb dX4_takeOut_47 rfl (lv_at hl 0 rfl) ?_
      have g48 := (gd_at h).1
      replace h := (gd_at h).2
      refine r_iald hC hI (aP_7 hpb) g48 dX4_takeOut_48 ?_
      refine lv_topi (fun x49 e49 => ?_)
      replace h := bnd_at h e49
      refine lv_istore_n (lv' := [(3, .int x49), (2, .int x6), (0, .ref (ad pb)), (1, .int v1)]) hx hb dX4_takeOut_49 rfl hl (by decide) rfl (fun ls hl => ?_)
      refine lv_iconst (v := 0) hx hb dX4_takeOut_50 (by decide) ?_
      refine lv_istore (lv' := [(4, .int (0 : Int32)), (3, .int x49), (2, .int x6), (0, .ref (ad pb)), (1, .int v1)]) hx hb dX4_takeOut_51 hl (by decide) rfl (fun ls hl => ?_)
      have w53 : ∀ (N53 : Nat) (z : fS) (v1 : Int32) (v3 : Int32) (v4 : Int32) (H : Heap) (locs : List Loc) (ls : Array Slot), fI D 76 ad (cfX ad cy cz) z s H locs → lv_has ls 5 [(0, .ref (ad pb)), (1, .int v1), (3, .int v3), (4, .int v4)] → lX4_takeOut_53 pb  z v1 N53 v3 v4 = some τ → W p l e rmX4_takeOut s m args below meth c H locs 0 0 Q (F0 m 53 ls []) := by
        intro N53
        induction N53 with
        | zero =>
          intro z v1 v3 v4 H locs ls hI hl h
          exact none_no h
        | succ N53 ih53 =>
          intro z v1 v3 v4 H locs ls hI hl h
          rw [lX4_takeOut_53.eq_2] at h
          refine lv_iload hx hb dX4_takeOut_53 (lv_at hl 3 rfl) ?_
          refine lv_bipush (v := 120) hx hb dX4_takeOut_55 (by decide) ?_
          refine lv_icmp_ge (tgt := 101) hx hb dX4_takeOut_57 (by decide) (fun c57 => ?_) (fun c57 => ?_)
          · replace h := if_t h c57
            exact hret h dX4_takeOut_101 hI
          · replace h := if_f h c57
            refine lv_iload_n hx hb dX4_takeOut_60 rfl (lv_at hl 2 rfl) ?_
            refine lv_iconst (v := -1) hx hb dX4_takeOut_61 (by decide) ?_
            refine lv_icmp_eq (tgt := 101) hx hb dX4_takeOut_62 (by decide) (fun c62 => ?_) (fun c62 => ?_)
            · replace h := if_t h c62
              exact hret h dX4_takeOut_101 hI
            · replace h := if_f h c62
              refine lv_aload_n hx hb dX4_takeOut_65 rfl (lv_at hl 0 rfl) ?_
              refine gX4_chain hpb hC hI tw_161 dX4_takeOut_66 ?_
              refine lv_iload_n hx hb dX4_takeOut_69 rfl (lv_at hl 2 rfl) ?_
              have g70 := (gd_at h).1
              replace h := (gd_at h).2
              refine r_iald hC hI (aP_8 hpb) g70 dX4_takeOut_70 ?_
              refine lv_iload_n hx hb dX4_takeOut_71 rfl (lv_at hl 1 rfl) ?_
              refine lv_icmp_ne (tgt := 88) hx hb dX4_takeOut_72 (by decide) (fun c72 => ?_) (fun c72 => ?_)
              · replace h := if_f h c72
                refine lv_aload_n hx hb dX4_takeOut_88 rfl (lv_at hl 0 rfl) ?_
                refine gX4_chain hpb hC hI tw_161 dX4_takeOut_89 ?_
                refine lv_iload_n hx hb dX4_takeOut_92 rfl (lv_at hl 2 rfl) ?_
                have g93 := (gd_at h).1
                replace h := (gd_at h).2
                refine r_iald hC hI (aP_8 hpb) g93 dX4_takeOut_93 ?_
                refine lv_topi (fun x94 e94 => ?_)
                replace h := bnd_at h e94
                refine lv_istore_n (lv' := [(3, .int x94), (0, .ref (ad pb)), (1, .int v1), (4, .int v4)]) hx hb dX4_takeOut_94 rfl hl (by decide) rfl (fun ls hl => ?_)
                obtain ⟨x95, e95⟩ : ∃ y : Int32, y = (v4 + (1 : Int32)) := ⟨_, rfl⟩
                replace h := bnd_at h e95
                refine lv_iinc (v := x95) (lv' := [(4, .int x95), (3, .int x94), (0, .ref (ad pb)), (1, .int v1)]) hx hb dX4_takeOut_95 hl (k := 3) rfl (by rw [e95]; rfl) (by decide) rfl (fun ls hl => ?_)
                refine lv_goto (tgt := 53) hx hb dX4_takeOut_98 (by decide) ?_
                exact ih53 z v1 x94 x95 _ _ _ hI (lv_sub hl [2, 3, 1, 0] rfl) h
              · replace h := if_t h c72
                refine lv_aload_n hx hb dX4_takeOut_75 rfl (lv_at hl 0 rfl) ?_
                refine gX4_chain hpb hC hI tw_161 dX4_takeOut_76 ?_
                refine lv_iload_n hx hb dX4_takeOut_79 rfl (lv_at hl 2 rfl) ?_
                refine lv_aload_n hx hb dX4_takeOut_80 rfl (lv_at hl 0 rfl) ?_
                refine gX4_chain hpb hC hI tw_161 dX4_takeOut_81 ?_
                refine lv_iload_n hx hb dX4_takeOut_84 rfl (lv_at hl 1 rfl) ?_
                have g85 := (gd_at h).1
                replace h := (gd_at h).2
                refine r_iald hC hI (aP_8 hpb) g85 dX4_takeOut_85 ?_
                have g86 := (gd_at h).1
                replace h := (gd_at h).2
                refine r_iast hC hI (aP_8 hpb) g86 dX4_takeOut_86 (fun z86 H locs e86 hI => ?_)
                replace h := bnd_at h e86
                exact hret h dX4_takeOut_87 hI
      exact w53 FU z19 v1 x49 (0 : Int32) _ _ _ hI (lv_sub hl [3, 4, 1, 0] rfl) h
    · replace h := if_t h c27
      refine lv_aload_n hx hb dX4_takeOut_30 rfl (lv_at hl 1 rfl) ?_
      refine gX4_buckets hpb hC hI tw_160 dX4_takeOut_31 ?_
      refine lv_iload_n hx hb dX4_takeOut_34 rfl (lv_at hl 0 rfl) ?_
      refine lv_aload_n hx hb dX4_takeOut_35 rfl (lv_at hl 1 rfl) ?_
      refine gX4_chain hpb hC hI tw_161 dX4_takeOut_36 ?_
      refine lv_iload_n hx hb dX4_takeOut_39 rfl (lv_at hl 2 rfl) ?_
      have g40 := (gd_at h).1
      replace h := (gd_at h).2
      refine r_iald hC hI (aP_8 hpb) g40 dX4_takeOut_40 ?_
      have g41 := (gd_at h).1
      replace h := (gd_at h).2
      refine r_iast hC hI (aP_7 hpb) g41 dX4_takeOut_41 (fun z41 H locs e41 hI => ?_)
      replace h := bnd_at h e41
      exact hret h dX4_takeOut_42 hI
  · replace h := if_t h c9
    exact hret h dX4_takeOut_12 hI
theorem dX4_rootOfPart_0 : decode cX4_rootOfPart 0 = .ok (.iload_n 2, 1) := by decide +kernel
theorem dX4_rootOfPart_1 : decode cX4_rootOfPart 1 = .ok (.aload_n 0, 1) := by decide +kernel
theorem dX4_rootOfPart_2 : decode cX4_rootOfPart 2 = .ok (.getfield 39, 3) := by decide +kernel
theorem dX4_rootOfPart_5 : decode cX4_rootOfPart 5 = .ok (.getfield 172, 3) := by decide +kernel
theorem dX4_rootOfPart_8 : decode cX4_rootOfPart 8 = .ok (.iload_n 1, 1) := by decide +kernel
theorem dX4_rootOfPart_9 : decode cX4_rootOfPart 9 = .ok (.iaload, 1) := by decide +kernel
theorem dX4_rootOfPart_10 : decode cX4_rootOfPart 10 = .ok (.if_icmp .ge 24, 3) := by decide +kernel
theorem dX4_rootOfPart_13 : decode cX4_rootOfPart 13 = .ok (.aload_n 0, 1) := by decide +kernel
theorem dX4_rootOfPart_14 : decode cX4_rootOfPart 14 = .ok (.getfield 9, 3) := by decide +kernel
theorem dX4_rootOfPart_17 : decode cX4_rootOfPart 17 = .ok (.aload_n 0, 1) := by decide +kernel
theorem dX4_rootOfPart_18 : decode cX4_rootOfPart 18 = .ok (.getfield 39, 3) := by decide +kernel
theorem dX4_rootOfPart_21 : decode cX4_rootOfPart 21 = .ok (.getfield 150, 3) := by decide +kernel
theorem dX4_rootOfPart_24 : decode cX4_rootOfPart 24 = .ok (.iconst 3, 1) := by decide +kernel
theorem dX4_rootOfPart_25 : decode cX4_rootOfPart 25 = .ok (.iload_n 1, 1) := by decide +kernel
theorem dX4_rootOfPart_26 : decode cX4_rootOfPart 26 = .ok (.imul, 1) := by decide +kernel
theorem dX4_rootOfPart_27 : decode cX4_rootOfPart 27 = .ok (.iload_n 2, 1) := by decide +kernel
theorem dX4_rootOfPart_28 : decode cX4_rootOfPart 28 = .ok (.iadd, 1) := by decide +kernel
theorem dX4_rootOfPart_29 : decode cX4_rootOfPart 29 = .ok (.iaload, 1) := by decide +kernel
theorem dX4_rootOfPart_30 : decode cX4_rootOfPart 30 = .ok (.iaload, 1) := by decide +kernel
theorem dX4_rootOfPart_31 : decode cX4_rootOfPart 31 = .ok (.goto 4, 3) := by decide +kernel
theorem dX4_rootOfPart_34 : decode cX4_rootOfPart 34 = .ok (.iconst (-1), 1) := by decide +kernel
theorem dX4_rootOfPart_35 : decode cX4_rootOfPart 35 = .ok (.ireturn, 1) := by decide +kernel
abbrev rmX4_rootOfPart : Room := { frames := 0, cells := 0, slots := 0, locals := 0 }
theorem ywX4_rootOfPart : fY yX4_rootOfPart "EqualCourt$Partition" cX4_rootOfPart 3 (some .int) 2 := ⟨tw_428, tp_6, tw_8, tw_429, by decide +kernel⟩
set_option maxHeartbeats 4000000 in
set_option maxRecDepth 100000 in
theorem cX4_rootOfPart_ok {D : va_G} {ad : Nat → Nat} {cy cz : ClassId} {l : Launch} {z : fS} {pb : Nat} (hpb : isP pb) {v1 : Int32} {v2 : Int32} {r : Int32} (h : fX4_rootOfPart pb z v1 v2 = some r) : fMi D 76 ad (cfX ad cy cz) cy cz l yX4_rootOfPart cX4_rootOfPart 3 (some .int) rmX4_rootOfPart [.ref (ad pb), .int v1, .int v2] z r z := by
  refine f_bodyi (by decide) (Nat.le_of_ble_eq_true rfl) (fun p e s m args below meth c Q hC hret ls hl hI => ?_)
  have hx := hC.1
  have hb := hC.2.1
  have hl : lv_has ls 3 [(0, .ref (ad pb)), (1, .int v1), (2, .int v2)] := hl
  unfold fX4_rootOfPart at h
  refine lv_iload_n hx hb dX4_rootOfPart_0 rfl (lv_at hl 2 rfl) ?_
  refine lv_aload_n hx hb dX4_rootOfPart_1 rfl (lv_at hl 0 rfl) ?_
  refine gX4_terms hpb hC hI tw_152 dX4_rootOfPart_2 ?_
  refine gX7_sizes_N hC hI (by decide) dX4_rootOfPart_5 ?_
  refine lv_iload_n hx hb dX4_rootOfPart_8 rfl (lv_at hl 1 rfl) ?_
  have g9 := (gd_at h).1
  replace h := (gd_at h).2
  refine r_iald hC hI aX_4 g9 dX4_rootOfPart_9 ?_
  refine lv_icmp_ge (tgt := 34) hx hb dX4_rootOfPart_10 (by decide) (fun c10 => ?_) (fun c10 => ?_)
  · replace h := if_t h c10
    refine lv_iconst (v := -1) hx hb dX4_rootOfPart_34 (by decide) ?_
    exact hret (ret_p _ h) dX4_rootOfPart_35 hI
  · replace h := if_f h c10
    refine lv_aload_n hx hb dX4_rootOfPart_13 rfl (lv_at hl 0 rfl) ?_
    refine gX4_root hpb hC hI tw_154 dX4_rootOfPart_14 ?_
    refine lv_aload_n hx hb dX4_rootOfPart_17 rfl (lv_at hl 0 rfl) ?_
    refine gX4_terms hpb hC hI tw_152 dX4_rootOfPart_18 ?_
    refine gX7_parts_N hC hI (by decide) dX4_rootOfPart_21 ?_
    refine lv_iconst (v := 3) hx hb dX4_rootOfPart_24 (by decide) ?_
    refine lv_iload_n hx hb dX4_rootOfPart_25 rfl (lv_at hl 1 rfl) ?_
    refine lv_imul hx hb dX4_rootOfPart_26 ?_
    refine lv_iload_n hx hb dX4_rootOfPart_27 rfl (lv_at hl 2 rfl) ?_
    refine lv_iadd hx hb dX4_rootOfPart_28 ?_
    have g29 := (gd_at h).1
    replace h := (gd_at h).2
    refine r_iald hC hI aX_5 g29 dX4_rootOfPart_29 ?_
    have g30 := (gd_at h).1
    replace h := (gd_at h).2
    refine r_iald hC hI (aP_1 hpb) g30 dX4_rootOfPart_30 ?_
    refine lv_goto (tgt := 35) hx hb dX4_rootOfPart_31 (by decide) ?_
    exact hret (ret_p _ h) dX4_rootOfPart_35 hI
theorem dX4_isBuiltAlike_0 : decode cX4_isBuiltAlike 0 = .ok (.aload_n 0, 1) := by decide +kernel
theorem dX4_isBuiltAlike_1 : decode cX4_isBuiltAlike 1 = .ok (.getfield 39, 3) := by decide +kernel
theorem dX4_isBuiltAlike_4 : decode cX4_isBuiltAlike 4 = .ok (.getfield 172, 3) := by decide +kernel
theorem dX4_isBuiltAlike_7 : decode cX4_isBuiltAlike 7 = .ok (.iload_n 1, 1) := by decide +kernel
theorem dX4_isBuiltAlike_8 : decode cX4_isBuiltAlike 8 = .ok (.iaload, 1) := by decide +kernel
theorem dX4_isBuiltAlike_9 : decode cX4_isBuiltAlike 9 = .ok (.istore_n 3, 1) := by decide +kernel
theorem dX4_isBuiltAlike_10 : decode cX4_isBuiltAlike 10 = .ok (.aload_n 0, 1) := by decide +kernel
theorem dX4_isBuiltAlike_11 : decode cX4_isBuiltAlike 11 = .ok (.getfield 39, 3) := by decide +kernel
theorem dX4_isBuiltAlike_14 : decode cX4_isBuiltAlike 14 = .ok (.getfield 159, 3) := by decide +kernel
theorem dX4_isBuiltAlike_17 : decode cX4_isBuiltAlike 17 = .ok (.iload_n 1, 1) := by decide +kernel
theorem dX4_isBuiltAlike_18 : decode cX4_isBuiltAlike 18 = .ok (.iaload, 1) := by decide +kernel
theorem dX4_isBuiltAlike_19 : decode cX4_isBuiltAlike 19 = .ok (.aload_n 0, 1) := by decide +kernel
theorem dX4_isBuiltAlike_20 : decode cX4_isBuiltAlike 20 = .ok (.getfield 39, 3) := by decide +kernel
theorem dX4_isBuiltAlike_23 : decode cX4_isBuiltAlike 23 = .ok (.getfield 159, 3) := by decide +kernel
theorem dX4_isBuiltAlike_26 : decode cX4_isBuiltAlike 26 = .ok (.iload_n 2, 1) := by decide +kernel
theorem dX4_isBuiltAlike_27 : decode cX4_isBuiltAlike 27 = .ok (.iaload, 1) := by decide +kernel
theorem dX4_isBuiltAlike_28 : decode cX4_isBuiltAlike 28 = .ok (.if_icmp .ne 37, 3) := by decide +kernel
theorem dX4_isBuiltAlike_31 : decode cX4_isBuiltAlike 31 = .ok (.aload_n 0, 1) := by decide +kernel
theorem dX4_isBuiltAlike_32 : decode cX4_isBuiltAlike 32 = .ok (.getfield 39, 3) := by decide +kernel
theorem dX4_isBuiltAlike_35 : decode cX4_isBuiltAlike 35 = .ok (.getfield 162, 3) := by decide +kernel
theorem dX4_isBuiltAlike_38 : decode cX4_isBuiltAlike 38 = .ok (.iload_n 1, 1) := by decide +kernel
theorem dX4_isBuiltAlike_39 : decode cX4_isBuiltAlike 39 = .ok (.iaload, 1) := by decide +kernel
theorem dX4_isBuiltAlike_40 : decode cX4_isBuiltAlike 40 = .ok (.aload_n 0, 1) := by decide +kernel
theorem dX4_isBuiltAlike_41 : decode cX4_isBuiltAlike 41 = .ok (.getfield 39, 3) := by decide +kernel
theorem dX4_isBuiltAlike_44 : decode cX4_isBuiltAlike 44 = .ok (.getfield 162, 3) := by decide +kernel
theorem dX4_isBuiltAlike_47 : decode cX4_isBuiltAlike 47 = .ok (.iload_n 2, 1) := by decide +kernel
theorem dX4_isBuiltAlike_48 : decode cX4_isBuiltAlike 48 = .ok (.iaload, 1) := by decide +kernel
theorem dX4_isBuiltAlike_49 : decode cX4_isBuiltAlike 49 = .ok (.if_icmp .ne 16, 3) := by decide +kernel
theorem dX4_isBuiltAlike_52 : decode cX4_isBuiltAlike 52 = .ok (.iload_n 3, 1) := by decide +kernel
theorem dX4_isBuiltAlike_53 : decode cX4_isBuiltAlike 53 = .ok (.aload_n 0, 1) := by decide +kernel
theorem dX4_isBuiltAlike_54 : decode cX4_isBuiltAlike 54 = .ok (.getfield 39, 3) := by decide +kernel
theorem dX4_isBuiltAlike_57 : decode cX4_isBuiltAlike 57 = .ok (.getfield 172, 3) := by decide +kernel
theorem dX4_isBuiltAlike_60 : decode cX4_isBuiltAlike 60 = .ok (.iload_n 2, 1) := by decide +kernel
theorem dX4_isBuiltAlike_61 : decode cX4_isBuiltAlike 61 = .ok (.iaload, 1) := by decide +kernel
theorem dX4_isBuiltAlike_62 : decode cX4_isBuiltAlike 62 = .ok (.if_icmp .eq 5, 3) := by decide +kernel
theorem dX4_isBuiltAlike_65 : decode cX4_isBuiltAlike 65 = .ok (.iconst 0, 1) := by decide +kernel
theorem dX4_isBuiltAlike_66 : decode cX4_isBuiltAlike 66 = .ok (.ireturn, 1) := by decide +kernel
theorem dX4_isBuiltAlike_67 : decode cX4_isBuiltAlike 67 = .ok (.iconst 3, 1) := by decide +kernel
theorem dX4_isBuiltAlike_68 : decode cX4_isBuiltAlike 68 = .ok (.iload_n 1, 1) := by decide +kernel
theorem dX4_isBuiltAlike_69 : decode cX4_isBuiltAlike 69 = .ok (.imul, 1) := by decide +kernel
theorem dX4_isBuiltAlike_70 : decode cX4_isBuiltAlike 70 = .ok (.istore 4, 2) := by decide +kernel
theorem dX4_isBuiltAlike_72 : decode cX4_isBuiltAlike 72 = .ok (.iconst 3, 1) := by decide +kernel
theorem dX4_isBuiltAlike_73 : decode cX4_isBuiltAlike 73 = .ok (.iload_n 2, 1) := by decide +kernel
theorem dX4_isBuiltAlike_74 : decode cX4_isBuiltAlike 74 = .ok (.imul, 1) := by decide +kernel
theorem dX4_isBuiltAlike_75 : decode cX4_isBuiltAlike 75 = .ok (.istore 5, 2) := by decide +kernel
theorem dX4_isBuiltAlike_77 : decode cX4_isBuiltAlike 77 = .ok (.iconst 1, 1) := by decide +kernel
theorem dX4_isBuiltAlike_78 : decode cX4_isBuiltAlike 78 = .ok (.istore 6, 2) := by decide +kernel
theorem dX4_isBuiltAlike_80 : decode cX4_isBuiltAlike 80 = .ok (.iconst 0, 1) := by decide +kernel
theorem dX4_isBuiltAlike_81 : decode cX4_isBuiltAlike 81 = .ok (.istore 7, 2) := by decide +kernel
theorem dX4_isBuiltAlike_83 : decode cX4_isBuiltAlike 83 = .ok (.iload 7, 2) := by decide +kernel
theorem dX4_isBuiltAlike_85 : decode cX4_isBuiltAlike 85 = .ok (.iload_n 3, 1) := by decide +kernel
theorem dX4_isBuiltAlike_86 : decode cX4_isBuiltAlike 86 = .ok (.if_icmp .ge 60, 3) := by decide +kernel
theorem dX4_isBuiltAlike_89 : decode cX4_isBuiltAlike 89 = .ok (.iload 6, 2) := by decide +kernel
theorem dX4_isBuiltAlike_91 : decode cX4_isBuiltAlike 91 = .ok (.ifCond .eq 55, 3) := by decide +kernel
theorem dX4_isBuiltAlike_94 : decode cX4_isBuiltAlike 94 = .ok (.aload_n 0, 1) := by decide +kernel
theorem dX4_isBuiltAlike_95 : decode cX4_isBuiltAlike 95 = .ok (.getfield 9, 3) := by decide +kernel
theorem dX4_isBuiltAlike_98 : decode cX4_isBuiltAlike 98 = .ok (.aload_n 0, 1) := by decide +kernel
theorem dX4_isBuiltAlike_99 : decode cX4_isBuiltAlike 99 = .ok (.getfield 39, 3) := by decide +kernel
theorem dX4_isBuiltAlike_102 : decode cX4_isBuiltAlike 102 = .ok (.getfield 150, 3) := by decide +kernel
theorem dX4_isBuiltAlike_105 : decode cX4_isBuiltAlike 105 = .ok (.iload 4, 2) := by decide +kernel
theorem dX4_isBuiltAlike_107 : decode cX4_isBuiltAlike 107 = .ok (.iload 7, 2) := by decide +kernel
theorem dX4_isBuiltAlike_109 : decode cX4_isBuiltAlike 109 = .ok (.iadd, 1) := by decide +kernel
theorem dX4_isBuiltAlike_110 : decode cX4_isBuiltAlike 110 = .ok (.iaload, 1) := by decide +kernel
theorem dX4_isBuiltAlike_111 : decode cX4_isBuiltAlike 111 = .ok (.iaload, 1) := by decide +kernel
theorem dX4_isBuiltAlike_112 : decode cX4_isBuiltAlike 112 = .ok (.aload_n 0, 1) := by decide +kernel
theorem dX4_isBuiltAlike_113 : decode cX4_isBuiltAlike 113 = .ok (.getfield 9, 3) := by decide +kernel
theorem dX4_isBuiltAlike_116 : decode cX4_isBuiltAlike 116 = .ok (.aload_n 0, 1) := by decide +kernel
theorem dX4_isBuiltAlike_117 : decode cX4_isBuiltAlike 117 = .ok (.getfield 39, 3) := by decide +kernel
theorem dX4_isBuiltAlike_120 : decode cX4_isBuiltAlike 120 = .ok (.getfield 150, 3) := by decide +kernel
theorem dX4_isBuiltAlike_123 : decode cX4_isBuiltAlike 123 = .ok (.iload 5, 2) := by decide +kernel
theorem dX4_isBuiltAlike_125 : decode cX4_isBuiltAlike 125 = .ok (.iload 7, 2) := by decide +kernel
theorem dX4_isBuiltAlike_127 : decode cX4_isBuiltAlike 127 = .ok (.iadd, 1) := by decide +kernel
theorem dX4_isBuiltAlike_128 : decode cX4_isBuiltAlike 128 = .ok (.iaload, 1) := by decide +kernel
theorem dX4_isBuiltAlike_129 : decode cX4_isBuiltAlike 129 = .ok (.iaload, 1) := by decide +kernel
theorem dX4_isBuiltAlike_130 : decode cX4_isBuiltAlike 130 = .ok (.if_icmp .ne 7, 3) := by decide +kernel
theorem dX4_isBuiltAlike_133 : decode cX4_isBuiltAlike 133 = .ok (.iconst 1, 1) := by decide +kernel
theorem dX4_isBuiltAlike_134 : decode cX4_isBuiltAlike 134 = .ok (.goto 4, 3) := by decide +kernel
theorem dX4_isBuiltAlike_137 : decode cX4_isBuiltAlike 137 = .ok (.iconst 0, 1) := by decide +kernel
theorem dX4_isBuiltAlike_138 : decode cX4_isBuiltAlike 138 = .ok (.istore 6, 2) := by decide +kernel
theorem dX4_isBuiltAlike_140 : decode cX4_isBuiltAlike 140 = .ok (.iinc 7 1, 3) := by decide +kernel
theorem dX4_isBuiltAlike_143 : decode cX4_isBuiltAlike 143 = .ok (.goto (-60), 3) := by decide +kernel
theorem dX4_isBuiltAlike_146 : decode cX4_isBuiltAlike 146 = .ok (.iload 6, 2) := by decide +kernel
theorem dX4_isBuiltAlike_148 : decode cX4_isBuiltAlike 148 = .ok (.ifCond .ne 16, 3) := by decide +kernel
theorem dX4_isBuiltAlike_151 : decode cX4_isBuiltAlike 151 = .ok (.aload_n 0, 1) := by decide +kernel
theorem dX4_isBuiltAlike_152 : decode cX4_isBuiltAlike 152 = .ok (.getfield 39, 3) := by decide +kernel
theorem dX4_isBuiltAlike_155 : decode cX4_isBuiltAlike 155 = .ok (.getfield 159, 3) := by decide +kernel
theorem dX4_isBuiltAlike_158 : decode cX4_isBuiltAlike 158 = .ok (.iload_n 1, 1) := by decide +kernel
theorem dX4_isBuiltAlike_159 : decode cX4_isBuiltAlike 159 = .ok (.iaload, 1) := by decide +kernel
theorem dX4_isBuiltAlike_160 : decode cX4_isBuiltAlike 160 = .ok (.iconst 4, 1) := by decide +kernel
theorem dX4_isBuiltAlike_161 : decode cX4_isBuiltAlike 161 = .ok (.if_icmp .eq 6, 3) := by decide +kernel
theorem dX4_isBuiltAlike_164 : decode cX4_isBuiltAlike 164 = .ok (.iload 6, 2) := by decide +kernel
theorem dX4_isBuiltAlike_166 : decode cX4_isBuiltAlike 166 = .ok (.ireturn, 1) := by decide +kernel
theorem dX4_isBuiltAlike_167 : decode cX4_isBuiltAlike 167 = .ok (.aload_n 0, 1) := by decide +kernel
theorem dX4_isBuiltAlike_168 : decode cX4_isBuiltAlike 168 = .ok (.getfield 9, 3) := by decide +kernel
theorem dX4_isBuiltAlike_171 : decode cX4_isBuiltAlike 171 = .ok (.aload_n 0, 1) := by decide +kernel
theorem dX4_isBuiltAlike_172 : decode cX4_isBuiltAlike 172 = .ok (.getfield 39, 3) := by decide +kernel
theorem dX4_isBuiltAlike_175 : decode cX4_isBuiltAlike 175 = .ok (.getfield 150, 3) := by decide +kernel
theorem dX4_isBuiltAlike_178 : decode cX4_isBuiltAlike 178 = .ok (.iload 4, 2) := by decide +kernel
theorem dX4_isBuiltAlike_180 : decode cX4_isBuiltAlike 180 = .ok (.iaload, 1) := by decide +kernel
theorem dX4_isBuiltAlike_181 : decode cX4_isBuiltAlike 181 = .ok (.iaload, 1) := by decide +kernel
theorem dX4_isBuiltAlike_182 : decode cX4_isBuiltAlike 182 = .ok (.aload_n 0, 1) := by decide +kernel
theorem dX4_isBuiltAlike_183 : decode cX4_isBuiltAlike 183 = .ok (.getfield 9, 3) := by decide +kernel
theorem dX4_isBuiltAlike_186 : decode cX4_isBuiltAlike 186 = .ok (.aload_n 0, 1) := by decide +kernel
theorem dX4_isBuiltAlike_187 : decode cX4_isBuiltAlike 187 = .ok (.getfield 39, 3) := by decide +kernel
theorem dX4_isBuiltAlike_190 : decode cX4_isBuiltAlike 190 = .ok (.getfield 150, 3) := by decide +kernel
theorem dX4_isBuiltAlike_193 : decode cX4_isBuiltAlike 193 = .ok (.iload 5, 2) := by decide +kernel
theorem dX4_isBuiltAlike_195 : decode cX4_isBuiltAlike 195 = .ok (.iconst 1, 1) := by decide +kernel
theorem dX4_isBuiltAlike_196 : decode cX4_isBuiltAlike 196 = .ok (.iadd, 1) := by decide +kernel
theorem dX4_isBuiltAlike_197 : decode cX4_isBuiltAlike 197 = .ok (.iaload, 1) := by decide +kernel
theorem dX4_isBuiltAlike_198 : decode cX4_isBuiltAlike 198 = .ok (.iaload, 1) := by decide +kernel
theorem dX4_isBuiltAlike_199 : decode cX4_isBuiltAlike 199 = .ok (.if_icmp .ne 42, 3) := by decide +kernel
theorem dX4_isBuiltAlike_202 : decode cX4_isBuiltAlike 202 = .ok (.aload_n 0, 1) := by decide +kernel
theorem dX4_isBuiltAlike_203 : decode cX4_isBuiltAlike 203 = .ok (.getfield 9, 3) := by decide +kernel
theorem dX4_isBuiltAlike_206 : decode cX4_isBuiltAlike 206 = .ok (.aload_n 0, 1) := by decide +kernel
theorem dX4_isBuiltAlike_207 : decode cX4_isBuiltAlike 207 = .ok (.getfield 39, 3) := by decide +kernel
theorem dX4_isBuiltAlike_210 : decode cX4_isBuiltAlike 210 = .ok (.getfield 150, 3) := by decide +kernel
theorem dX4_isBuiltAlike_213 : decode cX4_isBuiltAlike 213 = .ok (.iload 4, 2) := by decide +kernel
theorem dX4_isBuiltAlike_215 : decode cX4_isBuiltAlike 215 = .ok (.iconst 1, 1) := by decide +kernel
theorem dX4_isBuiltAlike_216 : decode cX4_isBuiltAlike 216 = .ok (.iadd, 1) := by decide +kernel
theorem dX4_isBuiltAlike_217 : decode cX4_isBuiltAlike 217 = .ok (.iaload, 1) := by decide +kernel
theorem dX4_isBuiltAlike_218 : decode cX4_isBuiltAlike 218 = .ok (.iaload, 1) := by decide +kernel
theorem dX4_isBuiltAlike_219 : decode cX4_isBuiltAlike 219 = .ok (.aload_n 0, 1) := by decide +kernel
theorem dX4_isBuiltAlike_220 : decode cX4_isBuiltAlike 220 = .ok (.getfield 9, 3) := by decide +kernel
theorem dX4_isBuiltAlike_223 : decode cX4_isBuiltAlike 223 = .ok (.aload_n 0, 1) := by decide +kernel
theorem dX4_isBuiltAlike_224 : decode cX4_isBuiltAlike 224 = .ok (.getfield 39, 3) := by decide +kernel
theorem dX4_isBuiltAlike_227 : decode cX4_isBuiltAlike 227 = .ok (.getfield 150, 3) := by decide +kernel
theorem dX4_isBuiltAlike_230 : decode cX4_isBuiltAlike 230 = .ok (.iload 5, 2) := by decide +kernel
theorem dX4_isBuiltAlike_232 : decode cX4_isBuiltAlike 232 = .ok (.iaload, 1) := by decide +kernel
theorem dX4_isBuiltAlike_233 : decode cX4_isBuiltAlike 233 = .ok (.iaload, 1) := by decide +kernel
theorem dX4_isBuiltAlike_234 : decode cX4_isBuiltAlike 234 = .ok (.if_icmp .ne 7, 3) := by decide +kernel
theorem dX4_isBuiltAlike_237 : decode cX4_isBuiltAlike 237 = .ok (.iconst 1, 1) := by decide +kernel
theorem dX4_isBuiltAlike_238 : decode cX4_isBuiltAlike 238 = .ok (.goto 4, 3) := by decide +kernel
theorem dX4_isBuiltAlike_241 : decode cX4_isBuiltAlike 241 = .ok (.iconst 0, 1) := by decide +kernel
theorem dX4_isBuiltAlike_242 : decode cX4_isBuiltAlike 242 = .ok (.ireturn, 1) := by decide +kernel
abbrev rmX4_isBuiltAlike : Room := { frames := 0, cells := 0, slots := 0, locals := 0 }
theorem ywX4_isBuiltAlike : fY yX4_isBuiltAlike "EqualCourt$Partition" cX4_isBuiltAlike 8 (some .boolean) 2 := ⟨tw_433, tp_7, tw_8, tw_434, by decide +kernel⟩
set_option maxHeartbeats 4000000 in
set_option maxRecDepth 100000 in
theorem cX4_isBuiltAlike_ok {D : va_G} {ad : Nat → Nat} {cy cz : ClassId} {l : Launch} {z : fS} {pb : Nat} (hpb : isP pb) {v1 : Int32} {v2 : Int32} {r : Int32} (h : fX4_isBuiltAlike pb z v1 v2 = some r) : fMi D 76 ad (cfX ad cy cz) cy cz l yX4_isBuiltAlike cX4_isBuiltAlike 8 (some .boolean) rmX4_isBuiltAlike [.ref (ad pb), .int v1, .int v2] z r z := by
  refine f_bodyz (by decide) (Nat.le_of_ble_eq_true rfl) (fun p e s m args below meth c Q hC hret ls hl hI => ?_)
  have hx := hC.1
  have hb := hC.2.1
  have hl : lv_has ls 8 [(0, .ref (ad pb)), (1, .int v1), (2, .int v2)] := hl
  unfold fX4_isBuiltAlike at h
  have w146 : ∀ (v1 : Int32) (v4 : Int32) (v5 : Int32) (v6 : Int32) (H : Heap) (locs : List Loc) (ls : Array Slot), fI D 76 ad (cfX ad cy cz) z s H locs → lv_has ls 8 [(0, .ref (ad pb)), (1, .int v1), (4, .int v4), (5, .int v5), (6, .int v6)] → jX4_isBuiltAlike_146 pb  z v1 v4 v5 v6 = some r → W p l e rmX4_isBuiltAlike s m args below meth c H locs 0 0 Q (F0 m 146 ls []) := by
    intro v1 v4 v5 v6 H locs ls hI hl h
    unfold jX4_isBuiltAlike_146 at h
    refine lv_iload hx hb dX4_isBuiltAlike_146 (lv_at hl 4 rfl) ?_
    refine lv_if_ne (tgt := 164) hx hb dX4_isBuiltAlike_148 (by decide) (fun c148 => ?_) (fun c148 => ?_)
    · replace h := if_f h c148
      refine lv_iload hx hb dX4_isBuiltAlike_164 (lv_at hl 4 rfl) ?_
      have g166 := (gd_at h).1
      replace h := (gd_at h).2
      exact hret (ret_p _ h) g166 dX4_isBuiltAlike_166 hI
    · replace h := if_t h c148
      refine lv_aload_n hx hb dX4_isBuiltAlike_151 rfl (lv_at hl 0 rfl) ?_
      refine gX4_terms hpb hC hI tw_152 dX4_isBuiltAlike_152 ?_
      refine gX7_kinds_N hC hI (by decide) dX4_isBuiltAlike_155 ?_
      refine lv_iload_n hx hb dX4_isBuiltAlike_158 rfl (lv_at hl 1 rfl) ?_
      have g159 := (gd_at h).1
      replace h := (gd_at h).2
      refine r_iald hC hI aX_2 g159 dX4_isBuiltAlike_159 ?_
      refine lv_iconst (v := 4) hx hb dX4_isBuiltAlike_160 (by decide) ?_
      refine lv_icmp_eq (tgt := 167) hx hb dX4_isBuiltAlike_161 (by decide) (fun c161 => ?_) (fun c161 => ?_)
      · replace h := if_t h c161
        refine lv_aload_n hx hb dX4_isBuiltAlike_167 rfl (lv_at hl 0 rfl) ?_
        refine gX4_root hpb hC hI tw_154 dX4_isBuiltAlike_168 ?_
        refine lv_aload_n hx hb dX4_isBuiltAlike_171 rfl (lv_at hl 0 rfl) ?_
        refine gX4_terms hpb hC hI tw_152 dX4_isBuiltAlike_172 ?_
        refine gX7_parts_N hC hI (by decide) dX4_isBuiltAlike_175 ?_
        refine lv_iload hx hb dX4_isBuiltAlike_178 (lv_at hl 2 rfl) ?_
        have g180 := (gd_at h).1
        replace h := (gd_at h).2
        refine r_iald hC hI aX_5 g180 dX4_isBuiltAlike_180 ?_
        have g181 := (gd_at h).1
        replace h := (gd_at h).2
        refine r_iald hC hI (aP_1 hpb) g181 dX4_isBuiltAlike_181 ?_
        refine lv_aload_n hx hb dX4_isBuiltAlike_182 rfl (lv_at hl 0 rfl) ?_
        refine gX4_root hpb hC hI tw_154 dX4_isBuiltAlike_183 ?_
        refine lv_aload_n hx hb dX4_isBuiltAlike_186 rfl (lv_at hl 0 rfl) ?_
        refine gX4_terms hpb hC hI tw_152 dX4_isBuiltAlike_187 ?_
        refine gX7_parts_N hC hI (by decide) dX4_isBuiltAlike_190 ?_
        refine lv_iload hx hb dX4_isBuiltAlike_193 (lv_at hl 3 rfl) ?_
        refine lv_iconst (v := 1) hx hb dX4_isBuiltAlike_195 (by decide) ?_
        refine lv_iadd hx hb dX4_isBuiltAlike_196 ?_
        have g197 := (gd_at h).1
        replace h := (gd_at h).2
        refine r_iald hC hI aX_5 g197 dX4_isBuiltAlike_197 ?_
        have g198 := (gd_at h).1
        replace h := (gd_at h).2
        refine r_iald hC hI (aP_1 hpb) g198 dX4_isBuiltAlike_198 ?_
        refine lv_icmp_ne (tgt := 241) hx hb dX4_isBuiltAlike_199 (by decide) (fun c199 => ?_) (fun c199 => ?_)
        · replace h := if_f h c199
          refine lv_iconst (v := 0) hx hb dX4_isBuiltAlike_241 (by decide) ?_
          exact hret (ret_p _ h) (by decide) dX4_isBuiltAlike_242 hI
        · replace h := if_t h c199
          refine lv_aload_n hx hb dX4_isBuiltAlike_202 rfl (lv_at hl 0 rfl) ?_
          refine gX4_root hpb hC hI tw_154 dX4_isBuiltAlike_203 ?_
          refine lv_aload_n hx hb dX4_isBuiltAlike_206 rfl (lv_at hl 0 rfl) ?_
          refine gX4_terms hpb hC hI tw_152 dX4_isBuiltAlike_207 ?_
          refine gX7_parts_N hC hI (by decide) dX4_isBuiltAlike_210 ?_
          refine lv_iload hx hb dX4_isBuiltAlike_213 (lv_at hl 2 rfl) ?_
          refine lv_iconst (v := 1) hx hb dX4_isBuiltAlike_215 (by decide) ?_
          refine lv_iadd hx hb dX4_isBuiltAlike_216 ?_
          have g217 := (gd_at h).1
          replace h := (gd_at h).2
          refine r_iald hC hI aX_5 g217 dX4_isBuiltAlike_217 ?_
          have g218 := (gd_at h).1
          replace h := (gd_at h).2
          refine r_iald hC hI (aP_1 hpb) g218 dX4_isBuiltAlike_218 ?_
          refine lv_aload_n hx hb dX4_isBuiltAlike_219 rfl (lv_at hl 0 rfl) ?_
          refine gX4_root hpb hC hI tw_154 dX4_isBuiltAlike_220 ?_
          refine lv_aload_n hx hb dX4_isBuiltAlike_223 rfl (lv_at hl 0 rfl) ?_
          refine gX4_terms hpb hC hI tw_152 dX4_isBuiltAlike_224 ?_
          refine gX7_parts_N hC hI (by decide) dX4_isBuiltAlike_227 ?_
          refine lv_iload hx hb dX4_isBuiltAlike_230 (lv_at hl 3 rfl) ?_
          have g232 := (gd_at h).1
          replace h := (gd_at h).2
          refine r_iald hC hI aX_5 g232 dX4_isBuiltAlike_232 ?_
          have g233 := (gd_at h).1
          replace h := (gd_at h).2
          refine r_iald hC hI (aP_1 hpb) g233 dX4_isBuiltAlike_233 ?_
          refine lv_icmp_ne (tgt := 241) hx hb dX4_isBuiltAlike_234 (by decide) (fun c234 => ?_) (fun c234 => ?_)
          · replace h := if_f h c234
            refine lv_iconst (v := 0) hx hb dX4_isBuiltAlike_241 (by decide) ?_
            exact hret (ret_p _ h) (by decide) dX4_isBuiltAlike_242 hI
          · replace h := if_t h c234
            refine lv_iconst (v := 1) hx hb dX4_isBuiltAlike_237 (by decide) ?_
            refine lv_goto (tgt := 242) hx hb dX4_isBuiltAlike_238 (by decide) ?_
            exact hret (ret_p _ h) (by decide) dX4_isBuiltAlike_242 hI
      · replace h := if_f h c161
        refine lv_iload hx hb dX4_isBuiltAlike_164 (lv_at hl 4 rfl) ?_
        have g166 := (gd_at h).1
        replace h := (gd_at h).2
        exact hret (ret_p _ h) g166 dX4_isBuiltAlike_166 hI
  refine lv_aload_n hx hb dX4_isBuiltAlike_0 rfl (lv_at hl 0 rfl) ?_
  refine gX4_terms hpb hC hI tw_152 dX4_isBuiltAlike_1 ?_
  refine gX7_sizes_N hC hI (by decide) dX4_isBuiltAlike_4 ?_
  refine lv_iload_n hx hb dX4_isBuiltAlike_7 rfl (lv_at hl 1 rfl) ?_
  have g8 := (gd_at h).1
  replace h := (gd_at h).2
  refine r_iald hC hI aX_4 g8 dX4_isBuiltAlike_8 ?_
  refine lv_topi (fun x9 e9 => ?_)
  replace h := bnd_at h e9
  refine lv_istore_n (lv' := [(3, .int x9), (0, .ref (ad pb)), (1, .int v1), (2, .int v2)]) hx hb dX4_isBuiltAlike_9 rfl hl (by decide) rfl (fun ls hl => ?_)
  refine lv_aload_n hx hb dX4_isBuiltAlike_10 rfl (lv_at hl 1 rfl) ?_
  refine gX4_terms hpb hC hI tw_152 dX4_isBuiltAlike_11 ?_
  refine gX7_kinds_N hC hI (by decide) dX4_isBuiltAlike_14 ?_
  refine lv_iload_n hx hb dX4_isBuiltAlike_17 rfl (lv_at hl 2 rfl) ?_
  have g18 := (gd_at h).1
  replace h := (gd_at h).2
  refine r_iald hC hI aX_2 g18 dX4_isBuiltAlike_18 ?_
  refine lv_aload_n hx hb dX4_isBuiltAlike_19 rfl (lv_at hl 1 rfl) ?_
  refine gX4_terms hpb hC hI tw_152 dX4_isBuiltAlike_20 ?_
  refine gX7_kinds_N hC hI (by decide) dX4_isBuiltAlike_23 ?_
  refine lv_iload_n hx hb dX4_isBuiltAlike_26 rfl (lv_at hl 3 rfl) ?_
  have g27 := (gd_at h).1
  replace h := (gd_at h).2
  refine r_iald hC hI aX_2 g27 dX4_isBuiltAlike_27 ?_
  refine lv_icmp_ne (tgt := 65) hx hb dX4_isBuiltAlike_28 (by decide) (fun c28 => ?_) (fun c28 => ?_)
  · replace h := if_f h c28
    refine lv_iconst (v := 0) hx hb dX4_isBuiltAlike_65 (by decide) ?_
    exact hret (ret_p _ h) (by decide) dX4_isBuiltAlike_66 hI
  · replace h := if_t h c28
    refine lv_aload_n hx hb dX4_isBuiltAlike_31 rfl (lv_at hl 1 rfl) ?_
    refine gX4_terms hpb hC hI tw_152 dX4_isBuiltAlike_32 ?_
    refine gX7_shown_N hC hI (by decide) dX4_isBuiltAlike_35 ?_
    refine lv_iload_n hx hb dX4_isBuiltAlike_38 rfl (lv_at hl 2 rfl) ?_
    have g39 := (gd_at h).1
    replace h := (gd_at h).2
    refine r_iald hC hI aX_3 g39 dX4_isBuiltAlike_39 ?_
    refine lv_aload_n hx hb dX4_isBuiltAlike_40 rfl (lv_at hl 1 rfl) ?_
    refine gX4_terms hpb hC hI tw_152 dX4_isBuiltAlike_41 ?_
    refine gX7_shown_N hC hI (by decide) dX4_isBuiltAlike_44 ?_
    refine lv_iload_n hx hb dX4_isBuiltAlike_47 rfl (lv_at hl 3 rfl) ?_
    have g48 := (gd_at h).1
    replace h := (gd_at h).2
    refine r_iald hC hI aX_3 g48 dX4_isBuiltAlike_48 ?_
    refine lv_icmp_ne (tgt := 65) hx hb dX4_isBuiltAlike_49 (by decide) (fun c49 => ?_) (fun c49 => ?_)
    · replace h := if_f h c49
      refine lv_iconst (v := 0) hx hb dX4_isBuiltAlike_65 (by decide) ?_
      exact hret (ret_p _ h) (by decide) dX4_isBuiltAlike_66 hI
    · replace h := if_t h c49
      refine lv_iload_n hx hb dX4_isBuiltAlike_52 rfl (lv_at hl 0 rfl) ?_
      refine lv_aload_n hx hb dX4_isBuiltAlike_53 rfl (lv_at hl 1 rfl) ?_
      refine gX4_terms hpb hC hI tw_152 dX4_isBuiltAlike_54 ?_
      refine gX7_sizes_N hC hI (by decide) dX4_isBuiltAlike_57 ?_
      refine lv_iload_n hx hb dX4_isBuiltAlike_60 rfl (lv_at hl 3 rfl) ?_
      have g61 := (gd_at h).1
      replace h := (gd_at h).2
      refine r_iald hC hI aX_4 g61 dX4_isBuiltAlike_61 ?_
      refine lv_icmp_eq (tgt := 67) hx hb dX4_isBuiltAlike_62 (by decide) (fun c62 => ?_) (fun c62 => ?_)
      · replace h := if_t h c62
        refine lv_iconst (v := 3) hx hb dX4_isBuiltAlike_67 (by decide) ?_
        refine lv_iload_n hx hb dX4_isBuiltAlike_68 rfl (lv_at hl 2 rfl) ?_
        refine lv_imul hx hb dX4_isBuiltAlike_69 ?_
        refine lv_topi (fun x70 e70 => ?_)
        replace h := bnd_at h e70
        refine lv_istore (lv' := [(4, .int x70), (3, .int x9), (0, .ref (ad pb)), (1, .int v1), (2, .int v2)]) hx hb dX4_isBuiltAlike_70 hl (by decide) rfl (fun ls hl => ?_)
        refine lv_iconst (v := 3) hx hb dX4_isBuiltAlike_72 (by decide) ?_
        refine lv_iload_n hx hb dX4_isBuiltAlike_73 rfl (lv_at hl 4 rfl) ?_
        refine lv_imul hx hb dX4_isBuiltAlike_74 ?_
        refine lv_topi (fun x75 e75 => ?_)
        replace h := bnd_at h e75
        refine lv_istore (lv' := [(5, .int x75), (4, .int x70), (3, .int x9), (0, .ref (ad pb)), (1, .int v1), (2, .int v2)]) hx hb dX4_isBuiltAlike_75 hl (by decide) rfl (fun ls hl => ?_)
        refine lv_iconst (v := 1) hx hb dX4_isBuiltAlike_77 (by decide) ?_
        refine lv_istore (lv' := [(6, .int (1 : Int32)), (5, .int x75), (4, .int x70), (3, .int x9), (0, .ref (ad pb)), (1, .int v1), (2, .int v2)]) hx hb dX4_isBuiltAlike_78 hl (by decide) rfl (fun ls hl => ?_)
        refine lv_iconst (v := 0) hx hb dX4_isBuiltAlike_80 (by decide) ?_
        refine lv_istore (lv' := [(7, .int (0 : Int32)), (6, .int (1 : Int32)), (5, .int x75), (4, .int x70), (3, .int x9), (0, .ref (ad pb)), (1, .int v1), (2, .int v2)]) hx hb dX4_isBuiltAlike_81 hl (by decide) rfl (fun ls hl => ?_)
        have w83 : ∀ (N83 : Nat) (v1 : Int32) (v3 : Int32) (v4 : Int32) (v5 : Int32) (v6 : Int32) (v7 : Int32) (H : Heap) (locs : List Loc) (ls : Array Slot), fI D 76 ad (cfX ad cy cz) z s H locs → lv_has ls 8 [(0, .ref (ad pb)), (1, .int v1), (3, .int v3), (4, .int v4), (5, .int v5), (6, .int v6), (7, .int v7)] → lX4_isBuiltAlike_83 pb (jX4_isBuiltAlike_146 pb  z v1 v4 v5) z v1 v3 v4 v5 N83 v6 v7 = some r → W p l e rmX4_isBuiltAlike s m args below meth c H locs 0 0 Q (F0 m 83 ls []) := by
          intro N83
          induction N83 with
          | zero =>
            intro v1 v3 v4 v5 v6 v7 H locs ls hI hl h
            exact none_no h
          | succ N83 ih83 =>
            intro v1 v3 v4 v5 v6 v7 H locs ls hI hl h
            rw [lX4_isBuiltAlike_83.eq_2] at h
            refine lv_iload hx hb dX4_isBuiltAlike_83 (lv_at hl 6 rfl) ?_
            refine lv_iload_n hx hb dX4_isBuiltAlike_85 rfl (lv_at hl 2 rfl) ?_
            refine lv_icmp_ge (tgt := 146) hx hb dX4_isBuiltAlike_86 (by decide) (fun c86 => ?_) (fun c86 => ?_)
            · replace h := if_t h c86
              exact w146 v1 v4 v5 v6 _ _ _ hI (lv_sub hl [0, 1, 3, 4, 5] rfl) h
            · replace h := if_f h c86
              refine lv_iload hx hb dX4_isBuiltAlike_89 (lv_at hl 5 rfl) ?_
              refine lv_if_eq (tgt := 146) hx hb dX4_isBuiltAlike_91 (by decide) (fun c91 => ?_) (fun c91 => ?_)
              · replace h := if_t h c91
                exact w146 v1 v4 v5 v6 _ _ _ hI (lv_sub hl [0, 1, 3, 4, 5] rfl) h
              · replace h := if_f h c91
                refine lv_aload_n hx hb dX4_isBuiltAlike_94 rfl (lv_at hl 0 rfl) ?_
                refine gX4_root hpb hC hI tw_154 dX4_isBuiltAlike_95 ?_
                refine lv_aload_n hx hb dX4_isBuiltAlike_98 rfl (lv_at hl 0 rfl) ?_
                refine gX4_terms hpb hC hI tw_152 dX4_isBuiltAlike_99 ?_
                refine gX7_parts_N hC hI (by decide) dX4_isBuiltAlike_102 ?_
                refine lv_iload hx hb dX4_isBuiltAlike_105 (lv_at hl 3 rfl) ?_
                refine lv_iload hx hb dX4_isBuiltAlike_107 (lv_at hl 6 rfl) ?_
                refine lv_iadd hx hb dX4_isBuiltAlike_109 ?_
                have g110 := (gd_at h).1
                replace h := (gd_at h).2
                refine r_iald hC hI aX_5 g110 dX4_isBuiltAlike_110 ?_
                have g111 := (gd_at h).1
                replace h := (gd_at h).2
                refine r_iald hC hI (aP_1 hpb) g111 dX4_isBuiltAlike_111 ?_
                refine lv_aload_n hx hb dX4_isBuiltAlike_112 rfl (lv_at hl 0 rfl) ?_
                refine gX4_root hpb hC hI tw_154 dX4_isBuiltAlike_113 ?_
                refine lv_aload_n hx hb dX4_isBuiltAlike_116 rfl (lv_at hl 0 rfl) ?_
                refine gX4_terms hpb hC hI tw_152 dX4_isBuiltAlike_117 ?_
                refine gX7_parts_N hC hI (by decide) dX4_isBuiltAlike_120 ?_
                refine lv_iload hx hb dX4_isBuiltAlike_123 (lv_at hl 4 rfl) ?_
                refine lv_iload hx hb dX4_isBuiltAlike_125 (lv_at hl 6 rfl) ?_
                refine lv_iadd hx hb dX4_isBuiltAlike_127 ?_
                have g128 := (gd_at h).1
                replace h := (gd_at h).2
                refine r_iald hC hI aX_5 g128 dX4_isBuiltAlike_128 ?_
                have g129 := (gd_at h).1
                replace h := (gd_at h).2
                refine r_iald hC hI (aP_1 hpb) g129 dX4_isBuiltAlike_129 ?_
                refine lv_icmp_ne (tgt := 137) hx hb dX4_isBuiltAlike_130 (by decide) (fun c130 => ?_) (fun c130 => ?_)
                · replace h := if_f h c130
                  refine lv_iconst (v := 0) hx hb dX4_isBuiltAlike_137 (by decide) ?_
                  refine lv_istore (lv' := [(6, .int (0 : Int32)), (0, .ref (ad pb)), (1, .int v1), (3, .int v3), (4, .int v4), (5, .int v5), (7, .int v7)]) hx hb dX4_isBuiltAlike_138 hl (by decide) rfl (fun ls hl => ?_)
                  obtain ⟨x140, e140⟩ : ∃ y : Int32, y = (v7 + (1 : Int32)) := ⟨_, rfl⟩
                  replace h := bnd_at h e140
                  refine lv_iinc (v := x140) (lv' := [(7, .int x140), (6, .int (0 : Int32)), (0, .ref (ad pb)), (1, .int v1), (3, .int v3), (4, .int v4), (5, .int v5)]) hx hb dX4_isBuiltAlike_140 hl (k := 6) rfl (by rw [e140]; rfl) (by decide) rfl (fun ls hl => ?_)
                  refine lv_goto (tgt := 83) hx hb dX4_isBuiltAlike_143 (by decide) ?_
                  exact ih83 v1 v3 v4 v5 (0 : Int32) x140 _ _ _ hI (lv_sub hl [2, 3, 4, 5, 6, 1, 0] rfl) h
                · replace h := if_t h c130
                  refine lv_iconst (v := 1) hx hb dX4_isBuiltAlike_133 (by decide) ?_
                  refine lv_goto (tgt := 138) hx hb dX4_isBuiltAlike_134 (by decide) ?_
                  refine lv_istore (lv' := [(6, .int (1 : Int32)), (0, .ref (ad pb)), (1, .int v1), (3, .int v3), (4, .int v4), (5, .int v5), (7, .int v7)]) hx hb dX4_isBuiltAlike_138 hl (by decide) rfl (fun ls hl => ?_)
                  obtain ⟨x140, e140⟩ : ∃ y : Int32, y = (v7 + (1 : Int32)) := ⟨_, rfl⟩
                  replace h := bnd_at h e140
                  refine lv_iinc (v := x140) (lv' := [(7, .int x140), (6, .int (1 : Int32)), (0, .ref (ad pb)), (1, .int v1), (3, .int v3), (4, .int v4), (5, .int v5)]) hx hb dX4_isBuiltAlike_140 hl (k := 6) rfl (by rw [e140]; rfl) (by decide) rfl (fun ls hl => ?_)
                  refine lv_goto (tgt := 83) hx hb dX4_isBuiltAlike_143 (by decide) ?_
                  exact ih83 v1 v3 v4 v5 (1 : Int32) x140 _ _ _ hI (lv_sub hl [2, 3, 4, 5, 6, 1, 0] rfl) h
        exact w83 FU v1 x9 x70 x75 (1 : Int32) (0 : Int32) _ _ _ hI (lv_sub hl [5, 6, 4, 3, 2, 1, 0] rfl) h
      · replace h := if_f h c62
        refine lv_iconst (v := 0) hx hb dX4_isBuiltAlike_65 (by decide) ?_
        exact hret (ret_p _ h) (by decide) dX4_isBuiltAlike_66 hI
theorem dX4_review_0 : decode cX4_review 0 = .ok (.aload_n 0, 1) := by decide +kernel
theorem dX4_review_1 : decode cX4_review 1 = .ok (.iload_n 1, 1) := by decide +kernel
theorem dX4_review_2 : decode cX4_review 2 = .ok (.invokevirtual 153, 3) := by decide +kernel
theorem dX4_review_5 : decode cX4_review 5 = .ok (.aload_n 0, 1) := by decide +kernel
theorem dX4_review_6 : decode cX4_review 6 = .ok (.iload_n 1, 1) := by decide +kernel
theorem dX4_review_7 : decode cX4_review 7 = .ok (.iconst 0, 1) := by decide +kernel
theorem dX4_review_8 : decode cX4_review 8 = .ok (.invokevirtual 156, 3) := by decide +kernel
theorem dX4_review_11 : decode cX4_review 11 = .ok (.istore_n 2, 1) := by decide +kernel
theorem dX4_review_12 : decode cX4_review 12 = .ok (.aload_n 0, 1) := by decide +kernel
theorem dX4_review_13 : decode cX4_review 13 = .ok (.iload_n 1, 1) := by decide +kernel
theorem dX4_review_14 : decode cX4_review 14 = .ok (.iconst 1, 1) := by decide +kernel
theorem dX4_review_15 : decode cX4_review 15 = .ok (.invokevirtual 156, 3) := by decide +kernel
theorem dX4_review_18 : decode cX4_review 18 = .ok (.istore_n 3, 1) := by decide +kernel
theorem dX4_review_19 : decode cX4_review 19 = .ok (.aload_n 0, 1) := by decide +kernel
theorem dX4_review_20 : decode cX4_review 20 = .ok (.getfield 39, 3) := by decide +kernel
theorem dX4_review_23 : decode cX4_review 23 = .ok (.getfield 159, 3) := by decide +kernel
theorem dX4_review_26 : decode cX4_review 26 = .ok (.iload_n 1, 1) := by decide +kernel
theorem dX4_review_27 : decode cX4_review 27 = .ok (.iaload, 1) := by decide +kernel
theorem dX4_review_28 : decode cX4_review 28 = .ok (.iconst 4, 1) := by decide +kernel
theorem dX4_review_29 : decode cX4_review 29 = .ok (.if_icmp .ne 12, 3) := by decide +kernel
theorem dX4_review_32 : decode cX4_review 32 = .ok (.iload_n 2, 1) := by decide +kernel
theorem dX4_review_33 : decode cX4_review 33 = .ok (.iload_n 3, 1) := by decide +kernel
theorem dX4_review_34 : decode cX4_review 34 = .ok (.if_icmp .le 7, 3) := by decide +kernel
theorem dX4_review_37 : decode cX4_review 37 = .ok (.iconst 1, 1) := by decide +kernel
theorem dX4_review_38 : decode cX4_review 38 = .ok (.goto 4, 3) := by decide +kernel
theorem dX4_review_41 : decode cX4_review 41 = .ok (.iconst 0, 1) := by decide +kernel
theorem dX4_review_42 : decode cX4_review 42 = .ok (.istore 4, 2) := by decide +kernel
theorem dX4_review_44 : decode cX4_review 44 = .ok (.aload_n 0, 1) := by decide +kernel
theorem dX4_review_45 : decode cX4_review 45 = .ok (.getfield 39, 3) := by decide +kernel
theorem dX4_review_48 : decode cX4_review 48 = .ok (.getfield 159, 3) := by decide +kernel
theorem dX4_review_51 : decode cX4_review 51 = .ok (.iload_n 1, 1) := by decide +kernel
theorem dX4_review_52 : decode cX4_review 52 = .ok (.iaload, 1) := by decide +kernel
theorem dX4_review_53 : decode cX4_review 53 = .ok (.aload_n 0, 1) := by decide +kernel
theorem dX4_review_54 : decode cX4_review 54 = .ok (.getfield 39, 3) := by decide +kernel
theorem dX4_review_57 : decode cX4_review 57 = .ok (.getfield 162, 3) := by decide +kernel
theorem dX4_review_60 : decode cX4_review 60 = .ok (.iload_n 1, 1) := by decide +kernel
theorem dX4_review_61 : decode cX4_review 61 = .ok (.iaload, 1) := by decide +kernel
theorem dX4_review_62 : decode cX4_review 62 = .ok (.iload 4, 2) := by decide +kernel
theorem dX4_review_64 : decode cX4_review 64 = .ok (.ifCond .eq 7, 3) := by decide +kernel
theorem dX4_review_67 : decode cX4_review 67 = .ok (.iload_n 3, 1) := by decide +kernel
theorem dX4_review_68 : decode cX4_review 68 = .ok (.goto 4, 3) := by decide +kernel
theorem dX4_review_71 : decode cX4_review 71 = .ok (.iload_n 2, 1) := by decide +kernel
theorem dX4_review_72 : decode cX4_review 72 = .ok (.iload 4, 2) := by decide +kernel
theorem dX4_review_74 : decode cX4_review 74 = .ok (.ifCond .eq 7, 3) := by decide +kernel
theorem dX4_review_77 : decode cX4_review 77 = .ok (.iload_n 2, 1) := by decide +kernel
theorem dX4_review_78 : decode cX4_review 78 = .ok (.goto 4, 3) := by decide +kernel
theorem dX4_review_81 : decode cX4_review 81 = .ok (.iload_n 3, 1) := by decide +kernel
theorem dX4_review_82 : decode cX4_review 82 = .ok (.aload_n 0, 1) := by decide +kernel
theorem dX4_review_83 : decode cX4_review 83 = .ok (.iload_n 1, 1) := by decide +kernel
theorem dX4_review_84 : decode cX4_review 84 = .ok (.iconst 2, 1) := by decide +kernel
theorem dX4_review_85 : decode cX4_review 85 = .ok (.invokevirtual 156, 3) := by decide +kernel
theorem dX4_review_88 : decode cX4_review 88 = .ok (.invokestatic 165, 3) := by decide +kernel
theorem dX4_review_91 : decode cX4_review 91 = .ok (.istore 5, 2) := by decide +kernel
theorem dX4_review_93 : decode cX4_review 93 = .ok (.aload_n 0, 1) := by decide +kernel
theorem dX4_review_94 : decode cX4_review 94 = .ok (.getfield 30, 3) := by decide +kernel
theorem dX4_review_97 : decode cX4_review 97 = .ok (.iload 5, 2) := by decide +kernel
theorem dX4_review_99 : decode cX4_review 99 = .ok (.iaload, 1) := by decide +kernel
theorem dX4_review_100 : decode cX4_review 100 = .ok (.istore 6, 2) := by decide +kernel
theorem dX4_review_102 : decode cX4_review 102 = .ok (.iconst 0, 1) := by decide +kernel
theorem dX4_review_103 : decode cX4_review 103 = .ok (.istore 7, 2) := by decide +kernel
theorem dX4_review_105 : decode cX4_review 105 = .ok (.iload 7, 2) := by decide +kernel
theorem dX4_review_107 : decode cX4_review 107 = .ok (.bipush 120, 2) := by decide +kernel
theorem dX4_review_109 : decode cX4_review 109 = .ok (.if_icmp .ge 45, 3) := by decide +kernel
theorem dX4_review_112 : decode cX4_review 112 = .ok (.iload 6, 2) := by decide +kernel
theorem dX4_review_114 : decode cX4_review 114 = .ok (.iconst (-1), 1) := by decide +kernel
theorem dX4_review_115 : decode cX4_review 115 = .ok (.if_icmp .eq 39, 3) := by decide +kernel
theorem dX4_review_118 : decode cX4_review 118 = .ok (.aload_n 0, 1) := by decide +kernel
theorem dX4_review_119 : decode cX4_review 119 = .ok (.iload_n 1, 1) := by decide +kernel
theorem dX4_review_120 : decode cX4_review 120 = .ok (.iload 6, 2) := by decide +kernel
theorem dX4_review_122 : decode cX4_review 122 = .ok (.invokevirtual 169, 3) := by decide +kernel
theorem dX4_review_125 : decode cX4_review 125 = .ok (.ifCond .eq 14, 3) := by decide +kernel
theorem dX4_review_128 : decode cX4_review 128 = .ok (.aload_n 0, 1) := by decide +kernel
theorem dX4_review_129 : decode cX4_review 129 = .ok (.getfield 43, 3) := by decide +kernel
theorem dX4_review_132 : decode cX4_review 132 = .ok (.iload_n 1, 1) := by decide +kernel
theorem dX4_review_133 : decode cX4_review 133 = .ok (.iload 6, 2) := by decide +kernel
theorem dX4_review_135 : decode cX4_review 135 = .ok (.invokevirtual 103, 3) := by decide +kernel
theorem dX4_review_138 : decode cX4_review 138 = .ok (.return_, 1) := by decide +kernel
theorem dX4_review_139 : decode cX4_review 139 = .ok (.aload_n 0, 1) := by decide +kernel
theorem dX4_review_140 : decode cX4_review 140 = .ok (.getfield 33, 3) := by decide +kernel
theorem dX4_review_143 : decode cX4_review 143 = .ok (.iload 6, 2) := by decide +kernel
theorem dX4_review_145 : decode cX4_review 145 = .ok (.iaload, 1) := by decide +kernel
theorem dX4_review_146 : decode cX4_review 146 = .ok (.istore 6, 2) := by decide +kernel
theorem dX4_review_148 : decode cX4_review 148 = .ok (.iinc 7 1, 3) := by decide +kernel
theorem dX4_review_151 : decode cX4_review 151 = .ok (.goto (-46), 3) := by decide +kernel
theorem dX4_review_154 : decode cX4_review 154 = .ok (.aload_n 0, 1) := by decide +kernel
theorem dX4_review_155 : decode cX4_review 155 = .ok (.getfield 36, 3) := by decide +kernel
theorem dX4_review_158 : decode cX4_review 158 = .ok (.iload_n 1, 1) := by decide +kernel
theorem dX4_review_159 : decode cX4_review 159 = .ok (.iload 5, 2) := by decide +kernel
theorem dX4_review_161 : decode cX4_review 161 = .ok (.iastore, 1) := by decide +kernel
theorem dX4_review_162 : decode cX4_review 162 = .ok (.aload_n 0, 1) := by decide +kernel
theorem dX4_review_163 : decode cX4_review 163 = .ok (.getfield 33, 3) := by decide +kernel
theorem dX4_review_166 : decode cX4_review 166 = .ok (.iload_n 1, 1) := by decide +kernel
theorem dX4_review_167 : decode cX4_review 167 = .ok (.aload_n 0, 1) := by decide +kernel
theorem dX4_review_168 : decode cX4_review 168 = .ok (.getfield 30, 3) := by decide +kernel
theorem dX4_review_171 : decode cX4_review 171 = .ok (.iload 5, 2) := by decide +kernel
theorem dX4_review_173 : decode cX4_review 173 = .ok (.iaload, 1) := by decide +kernel
theorem dX4_review_174 : decode cX4_review 174 = .ok (.iastore, 1) := by decide +kernel
theorem dX4_review_175 : decode cX4_review 175 = .ok (.aload_n 0, 1) := by decide +kernel
theorem dX4_review_176 : decode cX4_review 176 = .ok (.getfield 30, 3) := by decide +kernel
theorem dX4_review_179 : decode cX4_review 179 = .ok (.iload 5, 2) := by decide +kernel
theorem dX4_review_181 : decode cX4_review 181 = .ok (.iload_n 1, 1) := by decide +kernel
theorem dX4_review_182 : decode cX4_review 182 = .ok (.iastore, 1) := by decide +kernel
theorem dX4_review_183 : decode cX4_review 183 = .ok (.return_, 1) := by decide +kernel
abbrev rmX4_review : Room := { frames := 1, cells := 0, slots := 0, locals := 27 }
theorem ywX4_review : fY yX4_review "EqualCourt$Partition" cX4_review 8 none 1 := ⟨tw_420, tp_4, tw_8, tw_421, by decide +kernel⟩
set_option maxHeartbeats 4000000 in
set_option maxRecDepth 100000 in
theorem cX4_review_ok {D : va_G} {ad : Nat → Nat} {cy cz : ClassId} {l : Launch} {z : fS} {pb : Nat} (hpb : isP pb) {v1 : Int32} {τ : fS} (h : fX4_review pb z v1 = some τ) : fMv D 76 ad (cfX ad cy cz) cy cz l yX4_review cX4_review 8 none rmX4_review [.ref (ad pb), .int v1] z τ := by
  refine f_bodyv (by decide) (Nat.le_of_ble_eq_true rfl) (fun p e s m args below meth c Q hC hret ls hl hI => ?_)
  have hx := hC.1
  have hb := hC.2.1
  have hl : lv_has ls 8 [(0, .ref (ad pb)), (1, .int v1)] := hl
  unfold fX4_review at h
  have w154 : ∀ (z : fS) (v1 : Int32) (v5 : Int32) (H : Heap) (locs : List Loc) (ls : Array Slot), fI D 76 ad (cfX ad cy cz) z s H locs → lv_has ls 8 [(0, .ref (ad pb)), (1, .int v1), (5, .int v5)] → jX4_review_154 pb  z v1 v5 = some τ → W p l e rmX4_review s m args below meth c H locs 0 0 Q (F0 m 154 ls []) := by
    intro z v1 v5 H locs ls hI hl h
    unfold jX4_review_154 at h
    refine lv_aload_n hx hb dX4_review_154 rfl (lv_at hl 0 rfl) ?_
    refine gX4_slot hpb hC hI tw_162 dX4_review_155 ?_
    refine lv_iload_n hx hb dX4_review_158 rfl (lv_at hl 1 rfl) ?_
    refine lv_iload hx hb dX4_review_159 (lv_at hl 2 rfl) ?_
    have g161 := (gd_at h).1
    replace h := (gd_at h).2
    refine r_iast hC hI (aP_9 hpb) g161 dX4_review_161 (fun z161 H locs e161 hI => ?_)
    replace h := bnd_at h e161
    refine lv_aload_n hx hb dX4_review_162 rfl (lv_at hl 0 rfl) ?_
    refine gX4_chain hpb hC hI tw_161 dX4_review_163 ?_
    refine lv_iload_n hx hb dX4_review_166 rfl (lv_at hl 1 rfl) ?_
    refine lv_aload_n hx hb dX4_review_167 rfl (lv_at hl 0 rfl) ?_
    refine gX4_buckets hpb hC hI tw_160 dX4_review_168 ?_
    refine lv_iload hx hb dX4_review_171 (lv_at hl 2 rfl) ?_
    have g173 := (gd_at h).1
    replace h := (gd_at h).2
    refine r_iald hC hI (aP_7 hpb) g173 dX4_review_173 ?_
    have g174 := (gd_at h).1
    replace h := (gd_at h).2
    refine r_iast hC hI (aP_8 hpb) g174 dX4_review_174 (fun z174 H locs e174 hI => ?_)
    replace h := bnd_at h e174
    refine lv_aload_n hx hb dX4_review_175 rfl (lv_at hl 0 rfl) ?_
    refine gX4_buckets hpb hC hI tw_160 dX4_review_176 ?_
    refine lv_iload hx hb dX4_review_179 (lv_at hl 2 rfl) ?_
    refine lv_iload_n hx hb dX4_review_181 rfl (lv_at hl 1 rfl) ?_
    have g182 := (gd_at h).1
    replace h := (gd_at h).2
    refine r_iast hC hI (aP_7 hpb) g182 dX4_review_182 (fun z182 H locs e182 hI => ?_)
    replace h := bnd_at h e182
    exact hret h dX4_review_183 hI
  have w82 : ∀ (v1 : Int32) (y0 : Int32) (y1 : Int32) (y2 : Int32) (y3 : Int32) (z : fS) (H : Heap) (locs : List Loc) (ls : Array Slot), fI D 76 ad (cfX ad cy cz) z s H locs → lv_has ls 8 [(0, .ref (ad pb)), (1, .int v1)] → jX4_review_82 pb  v1 y0 y1 y2 y3 z = some τ → W p l e rmX4_review s m args below meth c H locs 0 0 Q (F0 m 82 ls [.int y0, .int y1, .int y2, .int y3]) := by
    intro v1 y0 y1 y2 y3 z H locs ls hI hl h
    unfold jX4_review_82 at h
    refine lv_aload_n hx hb dX4_review_82 rfl (lv_at hl 0 rfl) ?_
    refine lv_iload_n hx hb dX4_review_83 rfl (lv_at hl 1 rfl) ?_
    refine lv_iconst (v := 2) hx hb dX4_review_84 (by decide) ?_
    replace h := bp_at h
    obtain ⟨r85, e85, h⟩ := h
    refine r_calli (rest := [.int y0, .int y1, .int y2, .int y3]) hC hI (oP hpb) (C := "EqualCourt$Partition") rfl ywX4_rootOfPart tw_426 (cX4_rootOfPart_ok hpb e85) ⟨Nat.le_of_ble_eq_true rfl, Nat.le_of_ble_eq_true rfl⟩ ⟨rfl, rfl⟩ rfl hl.1 rfl (Nat.le_of_ble_eq_true rfl) dX4_review_85 (fun H locs hI => ?_)
    replace h := bp_at h
    obtain ⟨r88, e88, h⟩ := h
    refine r_callsn (rest := []) hC hI tw_347 tw_1 tw_346 (by decide +kernel) (host := "EqualCourt") (index := 165) (np := 5) (by decide) (cX8_slotFor_ok  e88) ⟨Nat.le_of_ble_eq_true rfl, Nat.le_of_ble_eq_true rfl⟩ ⟨rfl, rfl⟩ rfl hl.1 rfl (Nat.le_of_ble_eq_true rfl) dX4_review_88 (fun H locs hI => ?_)
    refine lv_istore (lv' := [(5, .int r88), (0, .ref (ad pb)), (1, .int v1)]) hx hb dX4_review_91 hl (by decide) rfl (fun ls hl => ?_)
    refine lv_aload_n hx hb dX4_review_93 rfl (lv_at hl 1 rfl) ?_
    refine gX4_buckets hpb hC hI tw_160 dX4_review_94 ?_
    refine lv_iload hx hb dX4_review_97 (lv_at hl 0 rfl) ?_
    have g99 := (gd_at h).1
    replace h := (gd_at h).2
    refine r_iald hC hI (aP_7 hpb) g99 dX4_review_99 ?_
    refine lv_topi (fun x100 e100 => ?_)
    replace h := bnd_at h e100
    refine lv_istore (lv' := [(6, .int x100), (5, .int r88), (0, .ref (ad pb)), (1, .int v1)]) hx hb dX4_review_100 hl (by decide) rfl (fun ls hl => ?_)
    refine lv_iconst (v := 0) hx hb dX4_review_102 (by decide) ?_
    refine lv_istore (lv' := [(7, .int (0 : Int32)), (6, .int x100), (5, .int r88), (0, .ref (ad pb)), (1, .int v1)]) hx hb dX4_review_103 hl (by decide) rfl (fun ls hl => ?_)
    have w105 : ∀ (N105 : Nat) (z : fS) (v1 : Int32) (v5 : Int32) (v6 : Int32) (v7 : Int32) (H : Heap) (locs : List Loc) (ls : Array Slot), fI D 76 ad (cfX ad cy cz) z s H locs → lv_has ls 8 [(0, .ref (ad pb)), (1, .int v1), (5, .int v5), (6, .int v6), (7, .int v7)] → lX4_review_105 pb (jX4_review_154 pb  z v1 v5) z v1 v5 N105 v6 v7 = some τ → W p l e rmX4_review s m args below meth c H locs 0 0 Q (F0 m 105 ls []) := by
      intro N105
      induction N105 with
      | zero =>
        intro z v1 v5 v6 v7 H locs ls hI hl h
        exact none_no h
      | succ N105 ih105 =>
        intro z v1 v5 v6 v7 H locs ls hI hl h
        rw [lX4_review_105.eq_2] at h
        refine lv_iload hx hb dX4_review_105 (lv_at hl 4 rfl) ?_
        refine lv_bipush (v := 120) hx hb dX4_review_107 (by decide) ?_
        refine lv_icmp_ge (tgt := 154) hx hb dX4_review_109 (by decide) (fun c109 => ?_) (fun c109 => ?_)
        · replace h := if_t h c109
          exact w154 z v1 v5 _ _ _ hI (lv_sub hl [0, 1, 2] rfl) h
        · replace h := if_f h c109
          refine lv_iload hx hb dX4_review_112 (lv_at hl 3 rfl) ?_
          refine lv_iconst (v := -1) hx hb dX4_review_114 (by decide) ?_
          refine lv_icmp_eq (tgt := 154) hx hb dX4_review_115 (by decide) (fun c115 => ?_) (fun c115 => ?_)
          · replace h := if_t h c115
            exact w154 z v1 v5 _ _ _ hI (lv_sub hl [0, 1, 2] rfl) h
          · replace h := if_f h c115
            refine lv_aload_n hx hb dX4_review_118 rfl (lv_at hl 0 rfl) ?_
            refine lv_iload_n hx hb dX4_review_119 rfl (lv_at hl 1 rfl) ?_
            refine lv_iload hx hb dX4_review_120 (lv_at hl 3 rfl) ?_
            replace h := bp_at h
            obtain ⟨r122, e122, h⟩ := h
            refine r_calli (rest := []) hC hI (oP hpb) (C := "EqualCourt$Partition") rfl ywX4_isBuiltAlike tw_431 (cX4_isBuiltAlike_ok hpb e122) ⟨Nat.le_of_ble_eq_true rfl, Nat.le_of_ble_eq_true rfl⟩ ⟨rfl, rfl⟩ rfl hl.1 rfl (Nat.le_of_ble_eq_true rfl) dX4_review_122 (fun H locs hI => ?_)
            refine lv_if_eq (tgt := 139) hx hb dX4_review_125 (by decide) (fun c125 => ?_) (fun c125 => ?_)
            · replace h := if_t h c125
              refine lv_aload_n hx hb dX4_review_139 rfl (lv_at hl 0 rfl) ?_
              refine gX4_chain hpb hC hI tw_161 dX4_review_140 ?_
              refine lv_iload hx hb dX4_review_143 (lv_at hl 3 rfl) ?_
              have g145 := (gd_at h).1
              replace h := (gd_at h).2
              refine r_iald hC hI (aP_8 hpb) g145 dX4_review_145 ?_
              refine lv_topi (fun x146 e146 => ?_)
              replace h := bnd_at h e146
              refine lv_istore (lv' := [(6, .int x146), (0, .ref (ad pb)), (1, .int v1), (5, .int v5), (7, .int v7)]) hx hb dX4_review_146 hl (by decide) rfl (fun ls hl => ?_)
              obtain ⟨x148, e148⟩ : ∃ y : Int32, y = (v7 + (1 : Int32)) := ⟨_, rfl⟩
              replace h := bnd_at h e148
              refine lv_iinc (v := x148) (lv' := [(7, .int x148), (6, .int x146), (0, .ref (ad pb)), (1, .int v1), (5, .int v5)]) hx hb dX4_review_148 hl (k := 4) rfl (by rw [e148]; rfl) (by decide) rfl (fun ls hl => ?_)
              refine lv_goto (tgt := 105) hx hb dX4_review_151 (by decide) ?_
              exact ih105 z v1 v5 x146 x148 _ _ _ hI (lv_sub hl [2, 3, 4, 1, 0] rfl) h
            · replace h := if_f h c125
              refine lv_aload_n hx hb dX4_review_128 rfl (lv_at hl 0 rfl) ?_
              refine gX4_agenda hpb hC hI tw_153 dX4_review_129 ?_
              refine lv_iload_n hx hb dX4_review_132 rfl (lv_at hl 1 rfl) ?_
              refine lv_iload hx hb dX4_review_133 (lv_at hl 3 rfl) ?_
              replace h := bp_at h
              obtain ⟨z135, e135, h⟩ := h
              refine r_callv (rest := []) hC hI oX_23 (C := "EqualCourt$Agenda") rfl ywX0_putPair tw_378 (cX0_putPair_ok  e135) ⟨Nat.le_of_ble_eq_true rfl, Nat.le_of_ble_eq_true rfl⟩ ⟨rfl, rfl⟩ rfl hl.1 rfl (Nat.le_of_ble_eq_true rfl) dX4_review_135 (fun H locs hI => ?_)
              exact hret h dX4_review_138 hI
    exact w105 FU z v1 r88 x100 (0 : Int32) _ _ _ hI (lv_sub hl [3, 4, 2, 1, 0] rfl) h
  have w72 : ∀ (v1 : Int32) (v2 : Int32) (v3 : Int32) (v4 : Int32) (y0 : Int32) (y1 : Int32) (y2 : Int32) (z : fS) (H : Heap) (locs : List Loc) (ls : Array Slot), fI D 76 ad (cfX ad cy cz) z s H locs → lv_has ls 8 [(0, .ref (ad pb)), (1, .int v1), (2, .int v2), (3, .int v3), (4, .int v4)] → jX4_review_72 pb  v1 v2 v3 v4 y0 y1 y2 z = some τ → W p l e rmX4_review s m args below meth c H locs 0 0 Q (F0 m 72 ls [.int y0, .int y1, .int y2]) := by
    intro v1 v2 v3 v4 y0 y1 y2 z H locs ls hI hl h
    unfold jX4_review_72 at h
    refine lv_iload hx hb dX4_review_72 (lv_at hl 4 rfl) ?_
    refine lv_if_eq (tgt := 81) hx hb dX4_review_74 (by decide) (fun c74 => ?_) (fun c74 => ?_)
    · replace h := if_t h c74
      refine lv_iload_n hx hb dX4_review_81 rfl (lv_at hl 3 rfl) ?_
      exact w82 v1 v3 y0 y1 y2 z _ _ _ hI (lv_sub hl [0, 1] rfl) h
    · replace h := if_f h c74
      refine lv_iload_n hx hb dX4_review_77 rfl (lv_at hl 2 rfl) ?_
      refine lv_goto (tgt := 82) hx hb dX4_review_78 (by decide) ?_
      exact w82 v1 v2 y0 y1 y2 z _ _ _ hI (lv_sub hl [0, 1] rfl) h
  have w42 : ∀ (v1 : Int32) (v2 : Int32) (v3 : Int32) (y0 : Int32) (z : fS) (H : Heap) (locs : List Loc) (ls : Array Slot), fI D 76 ad (cfX ad cy cz) z s H locs → lv_has ls 8 [(0, .ref (ad pb)), (1, .int v1), (2, .int v2), (3, .int v3)] → jX4_review_42 pb  v1 v2 v3 y0 z = some τ → W p l e rmX4_review s m args below meth c H locs 0 0 Q (F0 m 42 ls [.int y0]) := by
    intro v1 v2 v3 y0 z H locs ls hI hl h
    unfold jX4_review_42 at h
    refine lv_istore (lv' := [(4, .int y0), (0, .ref (ad pb)), (1, .int v1), (2, .int v2), (3, .int v3)]) hx hb dX4_review_42 hl (by decide) rfl (fun ls hl => ?_)
    refine lv_aload_n hx hb dX4_review_44 rfl (lv_at hl 1 rfl) ?_
    refine gX4_terms hpb hC hI tw_152 dX4_review_45 ?_
    refine gX7_kinds_N hC hI (by decide) dX4_review_48 ?_
    refine lv_iload_n hx hb dX4_review_51 rfl (lv_at hl 2 rfl) ?_
    have g52 := (gd_at h).1
    replace h := (gd_at h).2
    refine r_iald hC hI aX_2 g52 dX4_review_52 ?_
    refine lv_aload_n hx hb dX4_review_53 rfl (lv_at hl 1 rfl) ?_
    refine gX4_terms hpb hC hI tw_152 dX4_review_54 ?_
    refine gX7_shown_N hC hI (by decide) dX4_review_57 ?_
    refine lv_iload_n hx hb dX4_review_60 rfl (lv_at hl 2 rfl) ?_
    have g61 := (gd_at h).1
    replace h := (gd_at h).2
    refine r_iald hC hI aX_3 g61 dX4_review_61 ?_
    refine lv_iload hx hb dX4_review_62 (lv_at hl 0 rfl) ?_
    refine lv_if_eq (tgt := 71) hx hb dX4_review_64 (by decide) (fun c64 => ?_) (fun c64 => ?_)
    · replace h := if_t h c64
      refine lv_iload_n hx hb dX4_review_71 rfl (lv_at hl 3 rfl) ?_
      exact w72 v1 v2 v3 y0 v2 (rd z 3 v1) (rd z 2 v1) z _ _ _ hI (lv_sub hl [1, 2, 3, 4, 0] rfl) h
    · replace h := if_f h c64
      refine lv_iload_n hx hb dX4_review_67 rfl (lv_at hl 4 rfl) ?_
      refine lv_goto (tgt := 72) hx hb dX4_review_68 (by decide) ?_
      exact w72 v1 v2 v3 y0 v3 (rd z 3 v1) (rd z 2 v1) z _ _ _ hI (lv_sub hl [1, 2, 3, 4, 0] rfl) h
  refine lv_aload_n hx hb dX4_review_0 rfl (lv_at hl 0 rfl) ?_
  refine lv_iload_n hx hb dX4_review_1 rfl (lv_at hl 1 rfl) ?_
  replace h := bp_at h
  obtain ⟨z2, e2, h⟩ := h
  refine r_callv (rest := []) hC hI (oP hpb) (C := "EqualCourt$Partition") rfl ywX4_takeOut tw_422 (cX4_takeOut_ok hpb e2) ⟨Nat.le_of_ble_eq_true rfl, Nat.le_of_ble_eq_true rfl⟩ ⟨rfl, rfl⟩ rfl hl.1 rfl (Nat.le_of_ble_eq_true rfl) dX4_review_2 (fun H locs hI => ?_)
  refine lv_aload_n hx hb dX4_review_5 rfl (lv_at hl 0 rfl) ?_
  refine lv_iload_n hx hb dX4_review_6 rfl (lv_at hl 1 rfl) ?_
  refine lv_iconst (v := 0) hx hb dX4_review_7 (by decide) ?_
  replace h := bp_at h
  obtain ⟨r8, e8, h⟩ := h
  refine r_calli (rest := []) hC hI (oP hpb) (C := "EqualCourt$Partition") rfl ywX4_rootOfPart tw_426 (cX4_rootOfPart_ok hpb e8) ⟨Nat.le_of_ble_eq_true rfl, Nat.le_of_ble_eq_true rfl⟩ ⟨rfl, rfl⟩ rfl hl.1 rfl (Nat.le_of_ble_eq_true rfl) dX4_review_8 (fun H locs hI => ?_)
  refine lv_istore_n (lv' := [(2, .int r8), (0, .ref (ad pb)), (1, .int v1)]) hx hb dX4_review_11 rfl hl (by decide) rfl (fun ls hl => ?_)
  refine lv_aload_n hx hb dX4_review_12 rfl (lv_at hl 1 rfl) ?_
  refine lv_iload_n hx hb dX4_review_13 rfl (lv_at hl 2 rfl) ?_
  refine lv_iconst (v := 1) hx hb dX4_review_14 (by decide) ?_
  replace h := bp_at h
  obtain ⟨r15, e15, h⟩ := h
  refine r_calli (rest := []) hC hI (oP hpb) (C := "EqualCourt$Partition") rfl ywX4_rootOfPart tw_426 (cX4_rootOfPart_ok hpb e15) ⟨Nat.le_of_ble_eq_true rfl, Nat.le_of_ble_eq_true rfl⟩ ⟨rfl, rfl⟩ rfl hl.1 rfl (Nat.le_of_ble_eq_true rfl) dX4_review_15 (fun H locs hI => ?_)
  refine lv_istore_n (lv' := [(3, .int r15), (2, .int r8), (0, .ref (ad pb)), (1, .int v1)]) hx hb dX4_review_18 rfl hl (by decide) rfl (fun ls hl => ?_)
  refine lv_aload_n hx hb dX4_review_19 rfl (lv_at hl 2 rfl) ?_
  refine gX4_terms hpb hC hI tw_152 dX4_review_20 ?_
  refine gX7_kinds_N hC hI (by decide) dX4_review_23 ?_
  refine lv_iload_n hx hb dX4_review_26 rfl (lv_at hl 3 rfl) ?_
  have g27 := (gd_at h).1
  replace h := (gd_at h).2
  refine r_iald hC hI aX_2 g27 dX4_review_27 ?_
  refine lv_iconst (v := 4) hx hb dX4_review_28 (by decide) ?_
  refine lv_icmp_ne (tgt := 41) hx hb dX4_review_29 (by decide) (fun c29 => ?_) (fun c29 => ?_)
  · replace h := if_f h c29
    refine lv_iconst (v := 0) hx hb dX4_review_41 (by decide) ?_
    exact w42 v1 r8 r15 (0 : Int32) z2 _ _ _ hI (lv_sub hl [2, 3, 1, 0] rfl) h
  · replace h := if_t h c29
    refine lv_iload_n hx hb dX4_review_32 rfl (lv_at hl 1 rfl) ?_
    refine lv_iload_n hx hb dX4_review_33 rfl (lv_at hl 0 rfl) ?_
    refine lv_icmp_le (tgt := 41) hx hb dX4_review_34 (by decide) (fun c34 => ?_) (fun c34 => ?_)
    · replace h := if_t h c34
      refine lv_iconst (v := 0) hx hb dX4_review_41 (by decide) ?_
      exact w42 v1 r8 r15 (0 : Int32) z2 _ _ _ hI (lv_sub hl [2, 3, 1, 0] rfl) h
    · replace h := if_f h c34
      refine lv_iconst (v := 1) hx hb dX4_review_37 (by decide) ?_
      refine lv_goto (tgt := 42) hx hb dX4_review_38 (by decide) ?_
      exact w42 v1 r8 r15 (1 : Int32) z2 _ _ _ hI (lv_sub hl [2, 3, 1, 0] rfl) h
theorem dX4_join_0 : decode cX4_join 0 = .ok (.aload_n 0, 1) := by decide +kernel
theorem dX4_join_1 : decode cX4_join 1 = .ok (.getfield 43, 3) := by decide +kernel
theorem dX4_join_4 : decode cX4_join 4 = .ok (.iload_n 1, 1) := by decide +kernel
theorem dX4_join_5 : decode cX4_join 5 = .ok (.iload_n 2, 1) := by decide +kernel
theorem dX4_join_6 : decode cX4_join 6 = .ok (.invokevirtual 103, 3) := by decide +kernel
theorem dX4_join_9 : decode cX4_join 9 = .ok (.iconst 0, 1) := by decide +kernel
theorem dX4_join_10 : decode cX4_join 10 = .ok (.istore_n 3, 1) := by decide +kernel
theorem dX4_join_11 : decode cX4_join 11 = .ok (.iload_n 3, 1) := by decide +kernel
theorem dX4_join_12 : decode cX4_join 12 = .ok (.ldc 106, 2) := by decide +kernel
theorem dX4_join_14 : decode cX4_join 14 = .ok (.if_icmp .ge 172, 3) := by decide +kernel
theorem dX4_join_17 : decode cX4_join 17 = .ok (.aload_n 0, 1) := by decide +kernel
theorem dX4_join_18 : decode cX4_join 18 = .ok (.getfield 57, 3) := by decide +kernel
theorem dX4_join_21 : decode cX4_join 21 = .ok (.ifCond .ne 165, 3) := by decide +kernel
theorem dX4_join_24 : decode cX4_join 24 = .ok (.aload_n 0, 1) := by decide +kernel
theorem dX4_join_25 : decode cX4_join 25 = .ok (.getfield 43, 3) := by decide +kernel
theorem dX4_join_28 : decode cX4_join 28 = .ok (.invokevirtual 107, 3) := by decide +kernel
theorem dX4_join_31 : decode cX4_join 31 = .ok (.ifCond .eq 128, 3) := by decide +kernel
theorem dX4_join_34 : decode cX4_join 34 = .ok (.aload_n 0, 1) := by decide +kernel
theorem dX4_join_35 : decode cX4_join 35 = .ok (.getfield 9, 3) := by decide +kernel
theorem dX4_join_38 : decode cX4_join 38 = .ok (.aload_n 0, 1) := by decide +kernel
theorem dX4_join_39 : decode cX4_join 39 = .ok (.getfield 43, 3) := by decide +kernel
theorem dX4_join_42 : decode cX4_join 42 = .ok (.invokevirtual 111, 3) := by decide +kernel
theorem dX4_join_45 : decode cX4_join 45 = .ok (.iaload, 1) := by decide +kernel
theorem dX4_join_46 : decode cX4_join 46 = .ok (.istore 4, 2) := by decide +kernel
theorem dX4_join_48 : decode cX4_join 48 = .ok (.aload_n 0, 1) := by decide +kernel
theorem dX4_join_49 : decode cX4_join 49 = .ok (.getfield 9, 3) := by decide +kernel
theorem dX4_join_52 : decode cX4_join 52 = .ok (.aload_n 0, 1) := by decide +kernel
theorem dX4_join_53 : decode cX4_join 53 = .ok (.getfield 43, 3) := by decide +kernel
theorem dX4_join_56 : decode cX4_join 56 = .ok (.invokevirtual 115, 3) := by decide +kernel
theorem dX4_join_59 : decode cX4_join 59 = .ok (.iaload, 1) := by decide +kernel
theorem dX4_join_60 : decode cX4_join 60 = .ok (.istore 5, 2) := by decide +kernel
theorem dX4_join_62 : decode cX4_join 62 = .ok (.aload_n 0, 1) := by decide +kernel
theorem dX4_join_63 : decode cX4_join 63 = .ok (.getfield 43, 3) := by decide +kernel
theorem dX4_join_66 : decode cX4_join 66 = .ok (.invokevirtual 118, 3) := by decide +kernel
theorem dX4_join_69 : decode cX4_join 69 = .ok (.iload 4, 2) := by decide +kernel
theorem dX4_join_71 : decode cX4_join 71 = .ok (.iload 5, 2) := by decide +kernel
theorem dX4_join_73 : decode cX4_join 73 = .ok (.if_icmp .eq 83, 3) := by decide +kernel
theorem dX4_join_76 : decode cX4_join 76 = .ok (.aload_n 0, 1) := by decide +kernel
theorem dX4_join_77 : decode cX4_join 77 = .ok (.getfield 18, 3) := by decide +kernel
theorem dX4_join_80 : decode cX4_join 80 = .ok (.iload 4, 2) := by decide +kernel
theorem dX4_join_82 : decode cX4_join 82 = .ok (.iaload, 1) := by decide +kernel
theorem dX4_join_83 : decode cX4_join 83 = .ok (.aload_n 0, 1) := by decide +kernel
theorem dX4_join_84 : decode cX4_join 84 = .ok (.getfield 18, 3) := by decide +kernel
theorem dX4_join_87 : decode cX4_join 87 = .ok (.iload 5, 2) := by decide +kernel
theorem dX4_join_89 : decode cX4_join 89 = .ok (.iaload, 1) := by decide +kernel
theorem dX4_join_90 : decode cX4_join 90 = .ok (.if_icmp .ge 7, 3) := by decide +kernel
theorem dX4_join_93 : decode cX4_join 93 = .ok (.iconst 1, 1) := by decide +kernel
theorem dX4_join_94 : decode cX4_join 94 = .ok (.goto 4, 3) := by decide +kernel
theorem dX4_join_97 : decode cX4_join 97 = .ok (.iconst 0, 1) := by decide +kernel
theorem dX4_join_98 : decode cX4_join 98 = .ok (.istore 6, 2) := by decide +kernel
theorem dX4_join_100 : decode cX4_join 100 = .ok (.aload_n 0, 1) := by decide +kernel
theorem dX4_join_101 : decode cX4_join 101 = .ok (.iload 6, 2) := by decide +kernel
theorem dX4_join_103 : decode cX4_join 103 = .ok (.ifCond .eq 8, 3) := by decide +kernel
theorem dX4_join_106 : decode cX4_join 106 = .ok (.iload 5, 2) := by decide +kernel
theorem dX4_join_108 : decode cX4_join 108 = .ok (.goto 5, 3) := by decide +kernel
theorem dX4_join_111 : decode cX4_join 111 = .ok (.iload 4, 2) := by decide +kernel
theorem dX4_join_113 : decode cX4_join 113 = .ok (.iload 6, 2) := by decide +kernel
theorem dX4_join_115 : decode cX4_join 115 = .ok (.ifCond .eq 8, 3) := by decide +kernel
theorem dX4_join_118 : decode cX4_join 118 = .ok (.iload 4, 2) := by decide +kernel
theorem dX4_join_120 : decode cX4_join 120 = .ok (.goto 5, 3) := by decide +kernel
theorem dX4_join_123 : decode cX4_join 123 = .ok (.iload 5, 2) := by decide +kernel
theorem dX4_join_125 : decode cX4_join 125 = .ok (.invokevirtual 121, 3) := by decide +kernel
theorem dX4_join_128 : decode cX4_join 128 = .ok (.aload_n 0, 1) := by decide +kernel
theorem dX4_join_129 : decode cX4_join 129 = .ok (.iload 6, 2) := by decide +kernel
theorem dX4_join_131 : decode cX4_join 131 = .ok (.ifCond .eq 8, 3) := by decide +kernel
theorem dX4_join_134 : decode cX4_join 134 = .ok (.iload 5, 2) := by decide +kernel
theorem dX4_join_136 : decode cX4_join 136 = .ok (.goto 5, 3) := by decide +kernel
theorem dX4_join_139 : decode cX4_join 139 = .ok (.iload 4, 2) := by decide +kernel
theorem dX4_join_141 : decode cX4_join 141 = .ok (.iload 6, 2) := by decide +kernel
theorem dX4_join_143 : decode cX4_join 143 = .ok (.ifCond .eq 8, 3) := by decide +kernel
theorem dX4_join_146 : decode cX4_join 146 = .ok (.iload 4, 2) := by decide +kernel
theorem dX4_join_148 : decode cX4_join 148 = .ok (.goto 5, 3) := by decide +kernel
theorem dX4_join_151 : decode cX4_join 151 = .ok (.iload 5, 2) := by decide +kernel
theorem dX4_join_153 : decode cX4_join 153 = .ok (.invokevirtual 124, 3) := by decide +kernel
theorem dX4_join_156 : decode cX4_join 156 = .ok (.goto 24, 3) := by decide +kernel
theorem dX4_join_159 : decode cX4_join 159 = .ok (.aload_n 0, 1) := by decide +kernel
theorem dX4_join_160 : decode cX4_join 160 = .ok (.getfield 43, 3) := by decide +kernel
theorem dX4_join_163 : decode cX4_join 163 = .ok (.invokevirtual 127, 3) := by decide +kernel
theorem dX4_join_166 : decode cX4_join 166 = .ok (.ifCond .eq 20, 3) := by decide +kernel
theorem dX4_join_169 : decode cX4_join 169 = .ok (.aload_n 0, 1) := by decide +kernel
theorem dX4_join_170 : decode cX4_join 170 = .ok (.aload_n 0, 1) := by decide +kernel
theorem dX4_join_171 : decode cX4_join 171 = .ok (.getfield 43, 3) := by decide +kernel
theorem dX4_join_174 : decode cX4_join 174 = .ok (.invokevirtual 130, 3) := by decide +kernel
theorem dX4_join_177 : decode cX4_join 177 = .ok (.invokevirtual 133, 3) := by decide +kernel
theorem dX4_join_180 : decode cX4_join 180 = .ok (.iinc 3 1, 3) := by decide +kernel
theorem dX4_join_183 : decode cX4_join 183 = .ok (.goto (-172), 3) := by decide +kernel
theorem dX4_join_186 : decode cX4_join 186 = .ok (.aload_n 0, 1) := by decide +kernel
theorem dX4_join_187 : decode cX4_join 187 = .ok (.getfield 43, 3) := by decide +kernel
theorem dX4_join_190 : decode cX4_join 190 = .ok (.invokevirtual 136, 3) := by decide +kernel
theorem dX4_join_193 : decode cX4_join 193 = .ok (.return_, 1) := by decide +kernel
abbrev rmX4_join : Room := { frames := 2, cells := 0, slots := 0, locals := 54 }
theorem ywX4_join : fY yX4_join "EqualCourt$Partition" cX4_join 7 none 2 := ⟨tw_375, tw_376, tw_8, tw_377, by decide +kernel⟩
set_option maxHeartbeats 4000000 in
set_option maxRecDepth 100000 in
theorem cX4_join_ok {D : va_G} {ad : Nat → Nat} {cy cz : ClassId} {l : Launch} {z : fS} {pb : Nat} (hpb : isP pb) {v1 : Int32} {v2 : Int32} {τ : fS} (h : fX4_join pb z v1 v2 = some τ) : fMv D 76 ad (cfX ad cy cz) cy cz l yX4_join cX4_join 7 none rmX4_join [.ref (ad pb), .int v1, .int v2] z τ := by
  refine f_bodyv (by decide) (Nat.le_of_ble_eq_true rfl) (fun p e s m args below meth c Q hC hret ls hl hI => ?_)
  have hx := hC.1
  have hb := hC.2.1
  have hl : lv_has ls 7 [(0, .ref (ad pb)), (1, .int v1), (2, .int v2)] := hl
  unfold fX4_join at h
  refine lv_aload_n hx hb dX4_join_0 rfl (lv_at hl 0 rfl) ?_
  refine gX4_agenda hpb hC hI tw_153 dX4_join_1 ?_
  refine lv_iload_n hx hb dX4_join_4 rfl (lv_at hl 1 rfl) ?_
  refine lv_iload_n hx hb dX4_join_5 rfl (lv_at hl 2 rfl) ?_
  replace h := bp_at h
  obtain ⟨z6, e6, h⟩ := h
  refine r_callv (rest := []) hC hI oX_23 (C := "EqualCourt$Agenda") rfl ywX0_putPair tw_378 (cX0_putPair_ok  e6) ⟨Nat.le_of_ble_eq_true rfl, Nat.le_of_ble_eq_true rfl⟩ ⟨rfl, rfl⟩ rfl hl.1 rfl (Nat.le_of_ble_eq_true rfl) dX4_join_6 (fun H locs hI => ?_)
  refine lv_iconst (v := 0) hx hb dX4_join_9 (by decide) ?_
  refine lv_istore_n (lv' := [(3, .int (0 : Int32)), (0, .ref (ad pb)), (1, .int v1), (2, .int v2)]) hx hb dX4_join_10 rfl hl (by decide) rfl (fun ls hl => ?_)
  have w11 : ∀ (N11 : Nat) (v3 : Int32) (z : fS) (H : Heap) (locs : List Loc) (ls : Array Slot), fI D 76 ad (cfX ad cy cz) z s H locs → lv_has ls 7 [(0, .ref (ad pb)), (3, .int v3)] → lX4_join_11 pb   N11 v3 z = some τ → W p l e rmX4_join s m args below meth c H locs 0 0 Q (F0 m 11 ls []) := by
    intro N11
    induction N11 with
    | zero =>
      intro v3 z H locs ls hI hl h
      exact none_no h
    | succ N11 ih11 =>
      have w141 : ∀ (v3 : Int32) (v4 : Int32) (v5 : Int32) (v6 : Int32) (y0 : Int32) (z : fS) (H : Heap) (locs : List Loc) (ls : Array Slot), fI D 76 ad (cfX ad cy cz) z s H locs → lv_has ls 7 [(0, .ref (ad pb)), (3, .int v3), (4, .int v4), (5, .int v5), (6, .int v6)] → jX4_join_141 pb (lX4_join_11 pb   N11) v3 v4 v5 v6 y0 z = some τ → W p l e rmX4_join s m args below meth c H locs 0 0 Q (F0 m 141 ls [.int y0, .ref (ad pb)]) := by
        intro v3 v4 v5 v6 y0 z H locs ls hI hl h
        unfold jX4_join_141 at h
        refine lv_iload hx hb dX4_join_141 (lv_at hl 4 rfl) ?_
        refine lv_if_eq (tgt := 151) hx hb dX4_join_143 (by decide) (fun c143 => ?_) (fun c143 => ?_)
        · replace h := if_t h c143
          refine lv_iload hx hb dX4_join_151 (lv_at hl 3 rfl) ?_
          replace h := bp_at h
          obtain ⟨z153, e153, h⟩ := h
          refine r_callv (rest := []) hC hI (oP hpb) (C := "EqualCourt$Partition") rfl ywX4_uniteRows tw_406 (cX4_uniteRows_ok hpb e153) ⟨Nat.le_of_ble_eq_true rfl, Nat.le_of_ble_eq_true rfl⟩ ⟨rfl, rfl⟩ rfl hl.1 rfl (Nat.le_of_ble_eq_true rfl) dX4_join_153 (fun H locs hI => ?_)
          refine lv_goto (tgt := 180) hx hb dX4_join_156 (by decide) ?_
          obtain ⟨x180, e180⟩ : ∃ y : Int32, y = (v3 + (1 : Int32)) := ⟨_, rfl⟩
          replace h := bnd_at h e180
          refine lv_iinc (v := x180) (lv' := [(3, .int x180), (0, .ref (ad pb)), (4, .int v4), (5, .int v5), (6, .int v6)]) hx hb dX4_join_180 hl (k := 1) rfl (by rw [e180]; rfl) (by decide) rfl (fun ls hl => ?_)
          refine lv_goto (tgt := 11) hx hb dX4_join_183 (by decide) ?_
          exact ih11  x180 z153 _ _ _ hI (lv_sub hl [1, 0] rfl) h
        · replace h := if_f h c143
          refine lv_iload hx hb dX4_join_146 (lv_at hl 2 rfl) ?_
          refine lv_goto (tgt := 153) hx hb dX4_join_148 (by decide) ?_
          replace h := bp_at h
          obtain ⟨z153, e153, h⟩ := h
          refine r_callv (rest := []) hC hI (oP hpb) (C := "EqualCourt$Partition") rfl ywX4_uniteRows tw_406 (cX4_uniteRows_ok hpb e153) ⟨Nat.le_of_ble_eq_true rfl, Nat.le_of_ble_eq_true rfl⟩ ⟨rfl, rfl⟩ rfl hl.1 rfl (Nat.le_of_ble_eq_true rfl) dX4_join_153 (fun H locs hI => ?_)
          refine lv_goto (tgt := 180) hx hb dX4_join_156 (by decide) ?_
          obtain ⟨x180, e180⟩ : ∃ y : Int32, y = (v3 + (1 : Int32)) := ⟨_, rfl⟩
          replace h := bnd_at h e180
          refine lv_iinc (v := x180) (lv' := [(3, .int x180), (0, .ref (ad pb)), (4, .int v4), (5, .int v5), (6, .int v6)]) hx hb dX4_join_180 hl (k := 1) rfl (by rw [e180]; rfl) (by decide) rfl (fun ls hl => ?_)
          refine lv_goto (tgt := 11) hx hb dX4_join_183 (by decide) ?_
          exact ih11  x180 z153 _ _ _ hI (lv_sub hl [1, 0] rfl) h
      have w125 : ∀ (v3 : Int32) (v4 : Int32) (v5 : Int32) (v6 : Int32) (y0 : Int32) (y1 : Int32) (z : fS) (H : Heap) (locs : List Loc) (ls : Array Slot), fI D 76 ad (cfX ad cy cz) z s H locs → lv_has ls 7 [(0, .ref (ad pb)), (3, .int v3), (4, .int v4), (5, .int v5), (6, .int v6)] → jX4_join_125 pb (lX4_join_11 pb   N11) v3 v4 v5 v6 y0 y1 z = some τ → W p l e rmX4_join s m args below meth c H locs 0 0 Q (F0 m 125 ls [.int y0, .int y1, .ref (ad pb)]) := by
        intro v3 v4 v5 v6 y0 y1 z H locs ls hI hl h
        unfold jX4_join_125 at h
        replace h := bp_at h
        obtain ⟨z125, e125, h⟩ := h
        refine r_callv (rest := []) hC hI (oP hpb) (C := "EqualCourt$Partition") rfl ywX4_unite tw_399 (cX4_unite_ok hpb e125) ⟨Nat.le_of_ble_eq_true rfl, Nat.le_of_ble_eq_true rfl⟩ ⟨rfl, rfl⟩ rfl hl.1 rfl (Nat.le_of_ble_eq_true rfl) dX4_join_125 (fun H locs hI => ?_)
        refine lv_aload_n hx hb dX4_join_128 rfl (lv_at hl 0 rfl) ?_
        refine lv_iload hx hb dX4_join_129 (lv_at hl 4 rfl) ?_
        refine lv_if_eq (tgt := 139) hx hb dX4_join_131 (by decide) (fun c131 => ?_) (fun c131 => ?_)
        · replace h := if_t h c131
          refine lv_iload hx hb dX4_join_139 (lv_at hl 2 rfl) ?_
          exact w141 v3 v4 v5 v6 v4 z125 _ _ _ hI hl h
        · replace h := if_f h c131
          refine lv_iload hx hb dX4_join_134 (lv_at hl 3 rfl) ?_
          refine lv_goto (tgt := 141) hx hb dX4_join_136 (by decide) ?_
          exact w141 v3 v4 v5 v6 v5 z125 _ _ _ hI hl h
      have w113 : ∀ (v3 : Int32) (v4 : Int32) (v5 : Int32) (v6 : Int32) (y0 : Int32) (z : fS) (H : Heap) (locs : List Loc) (ls : Array Slot), fI D 76 ad (cfX ad cy cz) z s H locs → lv_has ls 7 [(0, .ref (ad pb)), (3, .int v3), (4, .int v4), (5, .int v5), (6, .int v6)] → jX4_join_113 pb (lX4_join_11 pb   N11) v3 v4 v5 v6 y0 z = some τ → W p l e rmX4_join s m args below meth c H locs 0 0 Q (F0 m 113 ls [.int y0, .ref (ad pb)]) := by
        intro v3 v4 v5 v6 y0 z H locs ls hI hl h
        unfold jX4_join_113 at h
        refine lv_iload hx hb dX4_join_113 (lv_at hl 4 rfl) ?_
        refine lv_if_eq (tgt := 123) hx hb dX4_join_115 (by decide) (fun c115 => ?_) (fun c115 => ?_)
        · replace h := if_t h c115
          refine lv_iload hx hb dX4_join_123 (lv_at hl 3 rfl) ?_
          exact w125 v3 v4 v5 v6 v5 y0 z _ _ _ hI hl h
        · replace h := if_f h c115
          refine lv_iload hx hb dX4_join_118 (lv_at hl 2 rfl) ?_
          refine lv_goto (tgt := 125) hx hb dX4_join_120 (by decide) ?_
          exact w125 v3 v4 v5 v6 v4 y0 z _ _ _ hI hl h
      have w98 : ∀ (v3 : Int32) (v4 : Int32) (v5 : Int32) (y0 : Int32) (z : fS) (H : Heap) (locs : List Loc) (ls : Array Slot), fI D 76 ad (cfX ad cy cz) z s H locs → lv_has ls 7 [(0, .ref (ad pb)), (3, .int v3), (4, .int v4), (5, .int v5)] → jX4_join_98 pb (lX4_join_11 pb   N11) v3 v4 v5 y0 z = some τ → W p l e rmX4_join s m args below meth c H locs 0 0 Q (F0 m 98 ls [.int y0]) := by
        intro v3 v4 v5 y0 z H locs ls hI hl h
        unfold jX4_join_98 at h
        refine lv_istore (lv' := [(6, .int y0), (0, .ref (ad pb)), (3, .int v3), (4, .int v4), (5, .int v5)]) hx hb dX4_join_98 hl (by decide) rfl (fun ls hl => ?_)
        refine lv_aload_n hx hb dX4_join_100 rfl (lv_at hl 1 rfl) ?_
        refine lv_iload hx hb dX4_join_101 (lv_at hl 0 rfl) ?_
        refine lv_if_eq (tgt := 111) hx hb dX4_join_103 (by decide) (fun c103 => ?_) (fun c103 => ?_)
        · replace h := if_t h c103
          refine lv_iload hx hb dX4_join_111 (lv_at hl 3 rfl) ?_
          exact w113 v3 v4 v5 y0 v4 z _ _ _ hI (lv_sub hl [1, 2, 3, 4, 0] rfl) h
        · replace h := if_f h c103
          refine lv_iload hx hb dX4_join_106 (lv_at hl 4 rfl) ?_
          refine lv_goto (tgt := 113) hx hb dX4_join_108 (by decide) ?_
          exact w113 v3 v4 v5 y0 v5 z _ _ _ hI (lv_sub hl [1, 2, 3, 4, 0] rfl) h
      intro v3 z H locs ls hI hl h
      rw [lX4_join_11.eq_2] at h
      refine lv_iload_n hx hb dX4_join_11 rfl (lv_at hl 1 rfl) ?_
      refine lv_ldc (v := 1000000) hx hb hC.2.2.2.1 (hC.2.2.2.2.1 _ tw_382) dX4_join_12 ?_
      refine lv_icmp_ge (tgt := 186) hx hb dX4_join_14 (by decide) (fun c14 => ?_) (fun c14 => ?_)
      · replace h := if_t h c14
        refine lv_aload_n hx hb dX4_join_186 rfl (lv_at hl 0 rfl) ?_
        refine gX4_agenda hpb hC hI tw_153 dX4_join_187 ?_
        replace h := bp_at h
        obtain ⟨z190, e190, h⟩ := h
        refine r_callv (rest := []) hC hI oX_23 (C := "EqualCourt$Agenda") rfl ywX0_clear tw_435 (cX0_clear_ok  e190) ⟨Nat.le_of_ble_eq_true rfl, Nat.le_of_ble_eq_true rfl⟩ ⟨rfl, rfl⟩ rfl hl.1 rfl (Nat.le_of_ble_eq_true rfl) dX4_join_190 (fun H locs hI => ?_)
        exact hret h dX4_join_193 hI
      · replace h := if_f h c14
        refine lv_aload_n hx hb dX4_join_17 rfl (lv_at hl 0 rfl) ?_
        refine gX4_torn hpb hC hI tw_165 dX4_join_18 ?_
        refine lv_if_ne (tgt := 186) hx hb dX4_join_21 (by decide) (fun c21 => ?_) (fun c21 => ?_)
        · replace h := if_f h c21
          refine lv_aload_n hx hb dX4_join_186 rfl (lv_at hl 0 rfl) ?_
          refine gX4_agenda hpb hC hI tw_153 dX4_join_187 ?_
          replace h := bp_at h
          obtain ⟨z190, e190, h⟩ := h
          refine r_callv (rest := []) hC hI oX_23 (C := "EqualCourt$Agenda") rfl ywX0_clear tw_435 (cX0_clear_ok  e190) ⟨Nat.le_of_ble_eq_true rfl, Nat.le_of_ble_eq_true rfl⟩ ⟨rfl, rfl⟩ rfl hl.1 rfl (Nat.le_of_ble_eq_true rfl) dX4_join_190 (fun H locs hI => ?_)
          exact hret h dX4_join_193 hI
        · replace h := if_t h c21
          refine lv_aload_n hx hb dX4_join_24 rfl (lv_at hl 0 rfl) ?_
          refine gX4_agenda hpb hC hI tw_153 dX4_join_25 ?_
          replace h := bp_at h
          obtain ⟨r28, e28, h⟩ := h
          refine r_calli (rest := []) hC hI oX_23 (C := "EqualCourt$Agenda") rfl ywX0_hasPair tw_383 (cX0_hasPair_ok  e28) ⟨Nat.le_of_ble_eq_true rfl, Nat.le_of_ble_eq_true rfl⟩ ⟨rfl, rfl⟩ rfl hl.1 rfl (Nat.le_of_ble_eq_true rfl) dX4_join_28 (fun H locs hI => ?_)
          refine lv_if_eq (tgt := 159) hx hb dX4_join_31 (by decide) (fun c31 => ?_) (fun c31 => ?_)
          · replace h := if_t h c31
            refine lv_aload_n hx hb dX4_join_159 rfl (lv_at hl 0 rfl) ?_
            refine gX4_agenda hpb hC hI tw_153 dX4_join_160 ?_
            replace h := bp_at h
            obtain ⟨r163, e163, h⟩ := h
            refine r_calli (rest := []) hC hI oX_23 (C := "EqualCourt$Agenda") rfl ywX0_hasChanged tw_410 (cX0_hasChanged_ok  e163) ⟨Nat.le_of_ble_eq_true rfl, Nat.le_of_ble_eq_true rfl⟩ ⟨rfl, rfl⟩ rfl hl.1 rfl (Nat.le_of_ble_eq_true rfl) dX4_join_163 (fun H locs hI => ?_)
            refine lv_if_eq (tgt := 186) hx hb dX4_join_166 (by decide) (fun c166 => ?_) (fun c166 => ?_)
            · replace h := if_t h c166
              refine lv_aload_n hx hb dX4_join_186 rfl (lv_at hl 0 rfl) ?_
              refine gX4_agenda hpb hC hI tw_153 dX4_join_187 ?_
              replace h := bp_at h
              obtain ⟨z190, e190, h⟩ := h
              refine r_callv (rest := []) hC hI oX_23 (C := "EqualCourt$Agenda") rfl ywX0_clear tw_435 (cX0_clear_ok  e190) ⟨Nat.le_of_ble_eq_true rfl, Nat.le_of_ble_eq_true rfl⟩ ⟨rfl, rfl⟩ rfl hl.1 rfl (Nat.le_of_ble_eq_true rfl) dX4_join_190 (fun H locs hI => ?_)
              exact hret h dX4_join_193 hI
            · replace h := if_f h c166
              refine lv_aload_n hx hb dX4_join_169 rfl (lv_at hl 0 rfl) ?_
              refine lv_aload_n hx hb dX4_join_170 rfl (lv_at hl 0 rfl) ?_
              refine gX4_agenda hpb hC hI tw_153 dX4_join_171 ?_
              replace h := bd_at h
              obtain ⟨r174, z174, e174, h⟩ := h
              refine r_calli (rest := [.ref (ad pb)]) hC hI oX_23 (C := "EqualCourt$Agenda") rfl ywX0_takeChanged tw_414 (cX0_takeChanged_ok  e174) ⟨Nat.le_of_ble_eq_true rfl, Nat.le_of_ble_eq_true rfl⟩ ⟨rfl, rfl⟩ rfl hl.1 rfl (Nat.le_of_ble_eq_true rfl) dX4_join_174 (fun H locs hI => ?_)
              replace h := bp_at h
              obtain ⟨z177, e177, h⟩ := h
              refine r_callv (rest := []) hC hI (oP hpb) (C := "EqualCourt$Partition") rfl ywX4_review tw_418 (cX4_review_ok hpb e177) ⟨Nat.le_of_ble_eq_true rfl, Nat.le_of_ble_eq_true rfl⟩ ⟨rfl, rfl⟩ rfl hl.1 rfl (Nat.le_of_ble_eq_true rfl) dX4_join_177 (fun H locs hI => ?_)
              obtain ⟨x180, e180⟩ : ∃ y : Int32, y = (v3 + (1 : Int32)) := ⟨_, rfl⟩
              replace h := bnd_at h e180
              refine lv_iinc (v := x180) (lv' := [(3, .int x180), (0, .ref (ad pb))]) hx hb dX4_join_180 hl (k := 1) rfl (by rw [e180]; rfl) (by decide) rfl (fun ls hl => ?_)
              refine lv_goto (tgt := 11) hx hb dX4_join_183 (by decide) ?_
              exact ih11  x180 z177 _ _ _ hI (lv_sub hl [1, 0] rfl) h
          · replace h := if_f h c31
            refine lv_aload_n hx hb dX4_join_34 rfl (lv_at hl 0 rfl) ?_
            refine gX4_root hpb hC hI tw_154 dX4_join_35 ?_
            refine lv_aload_n hx hb dX4_join_38 rfl (lv_at hl 0 rfl) ?_
            refine gX4_agenda hpb hC hI tw_153 dX4_join_39 ?_
            replace h := bp_at h
            obtain ⟨r42, e42, h⟩ := h
            refine r_calli (rest := [.ref (ad (pb + 1))]) hC hI oX_23 (C := "EqualCourt$Agenda") rfl ywX0_lastLeft tw_387 (cX0_lastLeft_ok  e42) ⟨Nat.le_of_ble_eq_true rfl, Nat.le_of_ble_eq_true rfl⟩ ⟨rfl, rfl⟩ rfl hl.1 rfl (Nat.le_of_ble_eq_true rfl) dX4_join_42 (fun H locs hI => ?_)
            have g45 := (gd_at h).1
            replace h := (gd_at h).2
            refine r_iald hC hI (aP_1 hpb) g45 dX4_join_45 ?_
            refine lv_topi (fun x46 e46 => ?_)
            replace h := bnd_at h e46
            refine lv_istore (lv' := [(4, .int x46), (0, .ref (ad pb)), (3, .int v3)]) hx hb dX4_join_46 hl (by decide) rfl (fun ls hl => ?_)
            refine lv_aload_n hx hb dX4_join_48 rfl (lv_at hl 1 rfl) ?_
            refine gX4_root hpb hC hI tw_154 dX4_join_49 ?_
            refine lv_aload_n hx hb dX4_join_52 rfl (lv_at hl 1 rfl) ?_
            refine gX4_agenda hpb hC hI tw_153 dX4_join_53 ?_
            replace h := bp_at h
            obtain ⟨r56, e56, h⟩ := h
            refine r_calli (rest := [.ref (ad (pb + 1))]) hC hI oX_23 (C := "EqualCourt$Agenda") rfl ywX0_lastRight tw_391 (cX0_lastRight_ok  e56) ⟨Nat.le_of_ble_eq_true rfl, Nat.le_of_ble_eq_true rfl⟩ ⟨rfl, rfl⟩ rfl hl.1 rfl (Nat.le_of_ble_eq_true rfl) dX4_join_56 (fun H locs hI => ?_)
            have g59 := (gd_at h).1
            replace h := (gd_at h).2
            refine r_iald hC hI (aP_1 hpb) g59 dX4_join_59 ?_
            refine lv_topi (fun x60 e60 => ?_)
            replace h := bnd_at h e60
            refine lv_istore (lv' := [(5, .int x60), (4, .int x46), (0, .ref (ad pb)), (3, .int v3)]) hx hb dX4_join_60 hl (by decide) rfl (fun ls hl => ?_)
            refine lv_aload_n hx hb dX4_join_62 rfl (lv_at hl 2 rfl) ?_
            refine gX4_agenda hpb hC hI tw_153 dX4_join_63 ?_
            replace h := bp_at h
            obtain ⟨z66, e66, h⟩ := h
            refine r_callv (rest := []) hC hI oX_23 (C := "EqualCourt$Agenda") rfl ywX0_removePair tw_395 (cX0_removePair_ok  e66) ⟨Nat.le_of_ble_eq_true rfl, Nat.le_of_ble_eq_true rfl⟩ ⟨rfl, rfl⟩ rfl hl.1 rfl (Nat.le_of_ble_eq_true rfl) dX4_join_66 (fun H locs hI => ?_)
            refine lv_iload hx hb dX4_join_69 (lv_at hl 1 rfl) ?_
            refine lv_iload hx hb dX4_join_71 (lv_at hl 0 rfl) ?_
            refine lv_icmp_eq (tgt := 156) hx hb dX4_join_73 (by decide) (fun c73 => ?_) (fun c73 => ?_)
            · replace h := if_t h c73
              refine lv_goto (tgt := 180) hx hb dX4_join_156 (by decide) ?_
              obtain ⟨x180, e180⟩ : ∃ y : Int32, y = (v3 + (1 : Int32)) := ⟨_, rfl⟩
              replace h := bnd_at h e180
              refine lv_iinc (v := x180) (lv' := [(3, .int x180), (5, .int x60), (4, .int x46), (0, .ref (ad pb))]) hx hb dX4_join_180 hl (k := 3) rfl (by rw [e180]; rfl) (by decide) rfl (fun ls hl => ?_)
              refine lv_goto (tgt := 11) hx hb dX4_join_183 (by decide) ?_
              exact ih11  x180 z66 _ _ _ hI (lv_sub hl [3, 0] rfl) h
            · replace h := if_f h c73
              refine lv_aload_n hx hb dX4_join_76 rfl (lv_at hl 2 rfl) ?_
              refine gX4_size hpb hC hI tw_156 dX4_join_77 ?_
              refine lv_iload hx hb dX4_join_80 (lv_at hl 1 rfl) ?_
              have g82 := (gd_at h).1
              replace h := (gd_at h).2
              refine r_iald hC hI (aP_3 hpb) g82 dX4_join_82 ?_
              refine lv_aload_n hx hb dX4_join_83 rfl (lv_at hl 2 rfl) ?_
              refine gX4_size hpb hC hI tw_156 dX4_join_84 ?_
              refine lv_iload hx hb dX4_join_87 (lv_at hl 0 rfl) ?_
              have g89 := (gd_at h).1
              replace h := (gd_at h).2
              refine r_iald hC hI (aP_3 hpb) g89 dX4_join_89 ?_
              refine lv_icmp_ge (tgt := 97) hx hb dX4_join_90 (by decide) (fun c90 => ?_) (fun c90 => ?_)
              · replace h := if_t h c90
                refine lv_iconst (v := 0) hx hb dX4_join_97 (by decide) ?_
                exact w98 v3 x46 x60 (0 : Int32) z66 _ _ _ hI (lv_sub hl [2, 3, 1, 0] rfl) h
              · replace h := if_f h c90
                refine lv_iconst (v := 1) hx hb dX4_join_93 (by decide) ?_
                refine lv_goto (tgt := 98) hx hb dX4_join_94 (by decide) ?_
                exact w98 v3 x46 x60 (1 : Int32) z66 _ _ _ hI (lv_sub hl [2, 3, 1, 0] rfl) h
  exact w11 FU  (0 : Int32) z6 _ _ _ hI (lv_sub hl [1, 0] rfl) h
theorem dX4_admit_0 : decode cX4_admit 0 = .ok (.aload_n 0, 1) := by decide +kernel
theorem dX4_admit_1 : decode cX4_admit 1 = .ok (.getfield 9, 3) := by decide +kernel
theorem dX4_admit_4 : decode cX4_admit 4 = .ok (.iload_n 1, 1) := by decide +kernel
theorem dX4_admit_5 : decode cX4_admit 5 = .ok (.iload_n 1, 1) := by decide +kernel
theorem dX4_admit_6 : decode cX4_admit 6 = .ok (.iastore, 1) := by decide +kernel
theorem dX4_admit_7 : decode cX4_admit 7 = .ok (.aload_n 0, 1) := by decide +kernel
theorem dX4_admit_8 : decode cX4_admit 8 = .ok (.getfield 15, 3) := by decide +kernel
theorem dX4_admit_11 : decode cX4_admit 11 = .ok (.iload_n 1, 1) := by decide +kernel
theorem dX4_admit_12 : decode cX4_admit 12 = .ok (.iload_n 1, 1) := by decide +kernel
theorem dX4_admit_13 : decode cX4_admit 13 = .ok (.iastore, 1) := by decide +kernel
theorem dX4_admit_14 : decode cX4_admit 14 = .ok (.aload_n 0, 1) := by decide +kernel
theorem dX4_admit_15 : decode cX4_admit 15 = .ok (.getfield 18, 3) := by decide +kernel
theorem dX4_admit_18 : decode cX4_admit 18 = .ok (.iload_n 1, 1) := by decide +kernel
theorem dX4_admit_19 : decode cX4_admit 19 = .ok (.iconst 1, 1) := by decide +kernel
theorem dX4_admit_20 : decode cX4_admit 20 = .ok (.iastore, 1) := by decide +kernel
theorem dX4_admit_21 : decode cX4_admit 21 = .ok (.aload_n 0, 1) := by decide +kernel
theorem dX4_admit_22 : decode cX4_admit 22 = .ok (.getfield 21, 3) := by decide +kernel
theorem dX4_admit_25 : decode cX4_admit 25 = .ok (.iload_n 1, 1) := by decide +kernel
theorem dX4_admit_26 : decode cX4_admit 26 = .ok (.iload_n 1, 1) := by decide +kernel
theorem dX4_admit_27 : decode cX4_admit 27 = .ok (.iastore, 1) := by decide +kernel
theorem dX4_admit_28 : decode cX4_admit 28 = .ok (.aload_n 0, 1) := by decide +kernel
theorem dX4_admit_29 : decode cX4_admit 29 = .ok (.getfield 24, 3) := by decide +kernel
theorem dX4_admit_32 : decode cX4_admit 32 = .ok (.iload_n 1, 1) := by decide +kernel
theorem dX4_admit_33 : decode cX4_admit 33 = .ok (.aload_n 0, 1) := by decide +kernel
theorem dX4_admit_34 : decode cX4_admit 34 = .ok (.getfield 39, 3) := by decide +kernel
theorem dX4_admit_37 : decode cX4_admit 37 = .ok (.iload_n 1, 1) := by decide +kernel
theorem dX4_admit_38 : decode cX4_admit 38 = .ok (.invokevirtual 90, 3) := by decide +kernel
theorem dX4_admit_41 : decode cX4_admit 41 = .ok (.iconst 1, 1) := by decide +kernel
theorem dX4_admit_42 : decode cX4_admit 42 = .ok (.if_icmp .ne 7, 3) := by decide +kernel
theorem dX4_admit_45 : decode cX4_admit 45 = .ok (.iload_n 1, 1) := by decide +kernel
theorem dX4_admit_46 : decode cX4_admit 46 = .ok (.goto 4, 3) := by decide +kernel
theorem dX4_admit_49 : decode cX4_admit 49 = .ok (.iconst (-1), 1) := by decide +kernel
theorem dX4_admit_50 : decode cX4_admit 50 = .ok (.iastore, 1) := by decide +kernel
theorem dX4_admit_51 : decode cX4_admit 51 = .ok (.aload_n 0, 1) := by decide +kernel
theorem dX4_admit_52 : decode cX4_admit 52 = .ok (.getfield 27, 3) := by decide +kernel
theorem dX4_admit_55 : decode cX4_admit 55 = .ok (.iload_n 1, 1) := by decide +kernel
theorem dX4_admit_56 : decode cX4_admit 56 = .ok (.aload_n 0, 1) := by decide +kernel
theorem dX4_admit_57 : decode cX4_admit 57 = .ok (.getfield 39, 3) := by decide +kernel
theorem dX4_admit_60 : decode cX4_admit 60 = .ok (.iload_n 1, 1) := by decide +kernel
theorem dX4_admit_61 : decode cX4_admit 61 = .ok (.invokevirtual 90, 3) := by decide +kernel
theorem dX4_admit_64 : decode cX4_admit 64 = .ok (.iconst 3, 1) := by decide +kernel
theorem dX4_admit_65 : decode cX4_admit 65 = .ok (.if_icmp .ne 7, 3) := by decide +kernel
theorem dX4_admit_68 : decode cX4_admit 68 = .ok (.iload_n 1, 1) := by decide +kernel
theorem dX4_admit_69 : decode cX4_admit 69 = .ok (.goto 4, 3) := by decide +kernel
theorem dX4_admit_72 : decode cX4_admit 72 = .ok (.iconst (-1), 1) := by decide +kernel
theorem dX4_admit_73 : decode cX4_admit 73 = .ok (.iastore, 1) := by decide +kernel
theorem dX4_admit_74 : decode cX4_admit 74 = .ok (.aload_n 0, 1) := by decide +kernel
theorem dX4_admit_75 : decode cX4_admit 75 = .ok (.getfield 33, 3) := by decide +kernel
theorem dX4_admit_78 : decode cX4_admit 78 = .ok (.iload_n 1, 1) := by decide +kernel
theorem dX4_admit_79 : decode cX4_admit 79 = .ok (.iconst (-1), 1) := by decide +kernel
theorem dX4_admit_80 : decode cX4_admit 80 = .ok (.iastore, 1) := by decide +kernel
theorem dX4_admit_81 : decode cX4_admit 81 = .ok (.aload_n 0, 1) := by decide +kernel
theorem dX4_admit_82 : decode cX4_admit 82 = .ok (.getfield 36, 3) := by decide +kernel
theorem dX4_admit_85 : decode cX4_admit 85 = .ok (.iload_n 1, 1) := by decide +kernel
theorem dX4_admit_86 : decode cX4_admit 86 = .ok (.iconst (-1), 1) := by decide +kernel
theorem dX4_admit_87 : decode cX4_admit 87 = .ok (.iastore, 1) := by decide +kernel
theorem dX4_admit_88 : decode cX4_admit 88 = .ok (.aload_n 0, 1) := by decide +kernel
theorem dX4_admit_89 : decode cX4_admit 89 = .ok (.iload_n 1, 1) := by decide +kernel
theorem dX4_admit_90 : decode cX4_admit 90 = .ok (.iconst 1, 1) := by decide +kernel
theorem dX4_admit_91 : decode cX4_admit 91 = .ok (.iadd, 1) := by decide +kernel
theorem dX4_admit_92 : decode cX4_admit 92 = .ok (.putfield 81, 3) := by decide +kernel
theorem dX4_admit_95 : decode cX4_admit 95 = .ok (.aload_n 0, 1) := by decide +kernel
theorem dX4_admit_96 : decode cX4_admit 96 = .ok (.dup, 1) := by decide +kernel
theorem dX4_admit_97 : decode cX4_admit 97 = .ok (.getfield 53, 3) := by decide +kernel
theorem dX4_admit_100 : decode cX4_admit 100 = .ok (.iconst 1, 1) := by decide +kernel
theorem dX4_admit_101 : decode cX4_admit 101 = .ok (.iadd, 1) := by decide +kernel
theorem dX4_admit_102 : decode cX4_admit 102 = .ok (.putfield 53, 3) := by decide +kernel
theorem dX4_admit_105 : decode cX4_admit 105 = .ok (.aload_n 0, 1) := by decide +kernel
theorem dX4_admit_106 : decode cX4_admit 106 = .ok (.getfield 39, 3) := by decide +kernel
theorem dX4_admit_109 : decode cX4_admit 109 = .ok (.iload_n 1, 1) := by decide +kernel
theorem dX4_admit_110 : decode cX4_admit 110 = .ok (.invokevirtual 68, 3) := by decide +kernel
theorem dX4_admit_113 : decode cX4_admit 113 = .ok (.ifCond .le 11, 3) := by decide +kernel
theorem dX4_admit_116 : decode cX4_admit 116 = .ok (.aload_n 0, 1) := by decide +kernel
theorem dX4_admit_117 : decode cX4_admit 117 = .ok (.getfield 43, 3) := by decide +kernel
theorem dX4_admit_120 : decode cX4_admit 120 = .ok (.iload_n 1, 1) := by decide +kernel
theorem dX4_admit_121 : decode cX4_admit 121 = .ok (.invokevirtual 93, 3) := by decide +kernel
theorem dX4_admit_124 : decode cX4_admit 124 = .ok (.aload_n 0, 1) := by decide +kernel
theorem dX4_admit_125 : decode cX4_admit 125 = .ok (.iload_n 1, 1) := by decide +kernel
theorem dX4_admit_126 : decode cX4_admit 126 = .ok (.iload_n 1, 1) := by decide +kernel
theorem dX4_admit_127 : decode cX4_admit 127 = .ok (.invokevirtual 99, 3) := by decide +kernel
theorem dX4_admit_130 : decode cX4_admit 130 = .ok (.return_, 1) := by decide +kernel
abbrev rmX4_admit : Room := { frames := 3, cells := 0, slots := 0, locals := 80 }
theorem ywX4_admit : fY yX4_admit "EqualCourt$Partition" cX4_admit 2 none 1 := ⟨tw_359, tw_360, tw_8, tw_361, by decide +kernel⟩
set_option maxHeartbeats 4000000 in
set_option maxRecDepth 100000 in
theorem cX4_admit_ok {D : va_G} {ad : Nat → Nat} {cy cz : ClassId} {l : Launch} {z : fS} {pb : Nat} (hpb : isP pb) {v1 : Int32} {τ : fS} (h : fX4_admit pb z v1 = some τ) : fMv D 76 ad (cfX ad cy cz) cy cz l yX4_admit cX4_admit 2 none rmX4_admit [.ref (ad pb), .int v1] z τ := by
  refine f_bodyv (by decide) (Nat.le_of_ble_eq_true rfl) (fun p e s m args below meth c Q hC hret ls hl hI => ?_)
  have hx := hC.1
  have hb := hC.2.1
  have hl : lv_has ls 2 [(0, .ref (ad pb)), (1, .int v1)] := hl
  unfold fX4_admit at h
  have w73 : ∀ (v1 : Int32) (y0 : Int32) (y1 : Int32) (z : fS) (H : Heap) (locs : List Loc) (ls : Array Slot), fI D 76 ad (cfX ad cy cz) z s H locs → lv_has ls 2 [(0, .ref (ad pb)), (1, .int v1)] → jX4_admit_73 pb  v1 y0 y1 z = some τ → W p l e rmX4_admit s m args below meth c H locs 0 0 Q (F0 m 73 ls [.int y0, .int y1, .ref (ad (pb + 6))]) := by
    intro v1 y0 y1 z H locs ls hI hl h
    unfold jX4_admit_73 at h
    have g73 := (gd_at h).1
    replace h := (gd_at h).2
    refine r_iast hC hI (aP_6 hpb) g73 dX4_admit_73 (fun z73 H locs e73 hI => ?_)
    replace h := bnd_at h e73
    refine lv_aload_n hx hb dX4_admit_74 rfl (lv_at hl 0 rfl) ?_
    refine gX4_chain hpb hC hI tw_161 dX4_admit_75 ?_
    refine lv_iload_n hx hb dX4_admit_78 rfl (lv_at hl 1 rfl) ?_
    refine lv_iconst (v := -1) hx hb dX4_admit_79 (by decide) ?_
    have g80 := (gd_at h).1
    replace h := (gd_at h).2
    refine r_iast hC hI (aP_8 hpb) g80 dX4_admit_80 (fun z80 H locs e80 hI => ?_)
    replace h := bnd_at h e80
    refine lv_aload_n hx hb dX4_admit_81 rfl (lv_at hl 0 rfl) ?_
    refine gX4_slot hpb hC hI tw_162 dX4_admit_82 ?_
    refine lv_iload_n hx hb dX4_admit_85 rfl (lv_at hl 1 rfl) ?_
    refine lv_iconst (v := -1) hx hb dX4_admit_86 (by decide) ?_
    have g87 := (gd_at h).1
    replace h := (gd_at h).2
    refine r_iast hC hI (aP_9 hpb) g87 dX4_admit_87 (fun z87 H locs e87 hI => ?_)
    replace h := bnd_at h e87
    refine lv_aload_n hx hb dX4_admit_88 rfl (lv_at hl 0 rfl) ?_
    refine lv_iload_n hx hb dX4_admit_89 rfl (lv_at hl 1 rfl) ?_
    refine lv_iconst (v := 1) hx hb dX4_admit_90 (by decide) ?_
    refine lv_iadd hx hb dX4_admit_91 ?_
    refine pX4_known hpb hC hI tw_163 dX4_admit_92 (fun z92 H locs e92 hI => ?_)
    replace h := bnd_at h e92
    refine lv_aload_n hx hb dX4_admit_95 rfl (lv_at hl 0 rfl) ?_
    refine lv_dup hx hb dX4_admit_96 rfl ?_
    refine gX4_classes hpb hC hI tw_164 dX4_admit_97 ?_
    refine lv_iconst (v := 1) hx hb dX4_admit_100 (by decide) ?_
    refine lv_iadd hx hb dX4_admit_101 ?_
    refine pX4_classes hpb hC hI tw_164 dX4_admit_102 (fun z102 H locs e102 hI => ?_)
    replace h := bnd_at h e102
    refine lv_aload_n hx hb dX4_admit_105 rfl (lv_at hl 0 rfl) ?_
    refine gX4_terms hpb hC hI tw_152 dX4_admit_106 ?_
    refine lv_iload_n hx hb dX4_admit_109 rfl (lv_at hl 1 rfl) ?_
    replace h := bp_at h
    obtain ⟨r110, e110, h⟩ := h
    refine r_calli (rest := []) hC hI oX_1 (C := "EqualCourt$Terms") rfl ywX7_sizeOf tw_366 (cX7_sizeOf_ok  e110) ⟨Nat.le_of_ble_eq_true rfl, Nat.le_of_ble_eq_true rfl⟩ ⟨rfl, rfl⟩ rfl hl.1 rfl (Nat.le_of_ble_eq_true rfl) dX4_admit_110 (fun H locs hI => ?_)
    refine lv_if_le (tgt := 124) hx hb dX4_admit_113 (by decide) (fun c113 => ?_) (fun c113 => ?_)
    · replace h := if_t h c113
      refine lv_aload_n hx hb dX4_admit_124 rfl (lv_at hl 0 rfl) ?_
      refine lv_iload_n hx hb dX4_admit_125 rfl (lv_at hl 1 rfl) ?_
      refine lv_iload_n hx hb dX4_admit_126 rfl (lv_at hl 1 rfl) ?_
      replace h := bp_at h
      obtain ⟨z127, e127, h⟩ := h
      refine r_callv (rest := []) hC hI (oP hpb) (C := "EqualCourt$Partition") rfl ywX4_join tw_374 (cX4_join_ok hpb e127) ⟨Nat.le_of_ble_eq_true rfl, Nat.le_of_ble_eq_true rfl⟩ ⟨rfl, rfl⟩ rfl hl.1 rfl (Nat.le_of_ble_eq_true rfl) dX4_admit_127 (fun H locs hI => ?_)
      exact hret h dX4_admit_130 hI
    · replace h := if_f h c113
      refine lv_aload_n hx hb dX4_admit_116 rfl (lv_at hl 0 rfl) ?_
      refine gX4_agenda hpb hC hI tw_153 dX4_admit_117 ?_
      refine lv_iload_n hx hb dX4_admit_120 rfl (lv_at hl 1 rfl) ?_
      replace h := bp_at h
      obtain ⟨z121, e121, h⟩ := h
      refine r_callv (rest := []) hC hI oX_23 (C := "EqualCourt$Agenda") rfl ywX0_putChanged tw_370 (cX0_putChanged_ok  e121) ⟨Nat.le_of_ble_eq_true rfl, Nat.le_of_ble_eq_true rfl⟩ ⟨rfl, rfl⟩ rfl hl.1 rfl (Nat.le_of_ble_eq_true rfl) dX4_admit_121 (fun H locs hI => ?_)
      refine lv_aload_n hx hb dX4_admit_124 rfl (lv_at hl 0 rfl) ?_
      refine lv_iload_n hx hb dX4_admit_125 rfl (lv_at hl 1 rfl) ?_
      refine lv_iload_n hx hb dX4_admit_126 rfl (lv_at hl 1 rfl) ?_
      replace h := bp_at h
      obtain ⟨z127, e127, h⟩ := h
      refine r_callv (rest := []) hC hI (oP hpb) (C := "EqualCourt$Partition") rfl ywX4_join tw_374 (cX4_join_ok hpb e127) ⟨Nat.le_of_ble_eq_true rfl, Nat.le_of_ble_eq_true rfl⟩ ⟨rfl, rfl⟩ rfl hl.1 rfl (Nat.le_of_ble_eq_true rfl) dX4_admit_127 (fun H locs hI => ?_)
      exact hret h dX4_admit_130 hI
  have w50 : ∀ (v1 : Int32) (y0 : Int32) (y1 : Int32) (z : fS) (H : Heap) (locs : List Loc) (ls : Array Slot), fI D 76 ad (cfX ad cy cz) z s H locs → lv_has ls 2 [(0, .ref (ad pb)), (1, .int v1)] → jX4_admit_50 pb  v1 y0 y1 z = some τ → W p l e rmX4_admit s m args below meth c H locs 0 0 Q (F0 m 50 ls [.int y0, .int y1, .ref (ad (pb + 5))]) := by
    intro v1 y0 y1 z H locs ls hI hl h
    unfold jX4_admit_50 at h
    have g50 := (gd_at h).1
    replace h := (gd_at h).2
    refine r_iast hC hI (aP_5 hpb) g50 dX4_admit_50 (fun z50 H locs e50 hI => ?_)
    replace h := bnd_at h e50
    refine lv_aload_n hx hb dX4_admit_51 rfl (lv_at hl 0 rfl) ?_
    refine gX4_aRow hpb hC hI tw_159 dX4_admit_52 ?_
    refine lv_iload_n hx hb dX4_admit_55 rfl (lv_at hl 1 rfl) ?_
    refine lv_aload_n hx hb dX4_admit_56 rfl (lv_at hl 0 rfl) ?_
    refine gX4_terms hpb hC hI tw_152 dX4_admit_57 ?_
    refine lv_iload_n hx hb dX4_admit_60 rfl (lv_at hl 1 rfl) ?_
    replace h := bp_at h
    obtain ⟨r61, e61, h⟩ := h
    refine r_calli (rest := [.int v1, .ref (ad (pb + 6))]) hC hI oX_1 (C := "EqualCourt$Terms") rfl ywX7_kindOf tw_362 (cX7_kindOf_ok  e61) ⟨Nat.le_of_ble_eq_true rfl, Nat.le_of_ble_eq_true rfl⟩ ⟨rfl, rfl⟩ rfl hl.1 rfl (Nat.le_of_ble_eq_true rfl) dX4_admit_61 (fun H locs hI => ?_)
    refine lv_iconst (v := 3) hx hb dX4_admit_64 (by decide) ?_
    refine lv_icmp_ne (tgt := 72) hx hb dX4_admit_65 (by decide) (fun c65 => ?_) (fun c65 => ?_)
    · replace h := if_f h c65
      refine lv_iconst (v := -1) hx hb dX4_admit_72 (by decide) ?_
      exact w73 v1 (-1 : Int32) v1 z50 _ _ _ hI hl h
    · replace h := if_t h c65
      refine lv_iload_n hx hb dX4_admit_68 rfl (lv_at hl 1 rfl) ?_
      refine lv_goto (tgt := 73) hx hb dX4_admit_69 (by decide) ?_
      exact w73 v1 v1 v1 z50 _ _ _ hI hl h
  refine lv_aload_n hx hb dX4_admit_0 rfl (lv_at hl 0 rfl) ?_
  refine gX4_root hpb hC hI tw_154 dX4_admit_1 ?_
  refine lv_iload_n hx hb dX4_admit_4 rfl (lv_at hl 1 rfl) ?_
  refine lv_iload_n hx hb dX4_admit_5 rfl (lv_at hl 1 rfl) ?_
  have g6 := (gd_at h).1
  replace h := (gd_at h).2
  refine r_iast hC hI (aP_1 hpb) g6 dX4_admit_6 (fun z6 H locs e6 hI => ?_)
  replace h := bnd_at h e6
  refine lv_aload_n hx hb dX4_admit_7 rfl (lv_at hl 0 rfl) ?_
  refine gX4_next hpb hC hI tw_155 dX4_admit_8 ?_
  refine lv_iload_n hx hb dX4_admit_11 rfl (lv_at hl 1 rfl) ?_
  refine lv_iload_n hx hb dX4_admit_12 rfl (lv_at hl 1 rfl) ?_
  have g13 := (gd_at h).1
  replace h := (gd_at h).2
  refine r_iast hC hI (aP_2 hpb) g13 dX4_admit_13 (fun z13 H locs e13 hI => ?_)
  replace h := bnd_at h e13
  refine lv_aload_n hx hb dX4_admit_14 rfl (lv_at hl 0 rfl) ?_
  refine gX4_size hpb hC hI tw_156 dX4_admit_15 ?_
  refine lv_iload_n hx hb dX4_admit_18 rfl (lv_at hl 1 rfl) ?_
  refine lv_iconst (v := 1) hx hb dX4_admit_19 (by decide) ?_
  have g20 := (gd_at h).1
  replace h := (gd_at h).2
  refine r_iast hC hI (aP_3 hpb) g20 dX4_admit_20 (fun z20 H locs e20 hI => ?_)
  replace h := bnd_at h e20
  refine lv_aload_n hx hb dX4_admit_21 rfl (lv_at hl 0 rfl) ?_
  refine gX4_least hpb hC hI tw_157 dX4_admit_22 ?_
  refine lv_iload_n hx hb dX4_admit_25 rfl (lv_at hl 1 rfl) ?_
  refine lv_iload_n hx hb dX4_admit_26 rfl (lv_at hl 1 rfl) ?_
  have g27 := (gd_at h).1
  replace h := (gd_at h).2
  refine r_iast hC hI (aP_4 hpb) g27 dX4_admit_27 (fun z27 H locs e27 hI => ?_)
  replace h := bnd_at h e27
  refine lv_aload_n hx hb dX4_admit_28 rfl (lv_at hl 0 rfl) ?_
  refine gX4_number hpb hC hI tw_158 dX4_admit_29 ?_
  refine lv_iload_n hx hb dX4_admit_32 rfl (lv_at hl 1 rfl) ?_
  refine lv_aload_n hx hb dX4_admit_33 rfl (lv_at hl 0 rfl) ?_
  refine gX4_terms hpb hC hI tw_152 dX4_admit_34 ?_
  refine lv_iload_n hx hb dX4_admit_37 rfl (lv_at hl 1 rfl) ?_
  replace h := bp_at h
  obtain ⟨r38, e38, h⟩ := h
  refine r_calli (rest := [.int v1, .ref (ad (pb + 5))]) hC hI oX_1 (C := "EqualCourt$Terms") rfl ywX7_kindOf tw_362 (cX7_kindOf_ok  e38) ⟨Nat.le_of_ble_eq_true rfl, Nat.le_of_ble_eq_true rfl⟩ ⟨rfl, rfl⟩ rfl hl.1 rfl (Nat.le_of_ble_eq_true rfl) dX4_admit_38 (fun H locs hI => ?_)
  refine lv_iconst (v := 1) hx hb dX4_admit_41 (by decide) ?_
  refine lv_icmp_ne (tgt := 49) hx hb dX4_admit_42 (by decide) (fun c42 => ?_) (fun c42 => ?_)
  · replace h := if_f h c42
    refine lv_iconst (v := -1) hx hb dX4_admit_49 (by decide) ?_
    exact w50 v1 (-1 : Int32) v1 z27 _ _ _ hI hl h
  · replace h := if_t h c42
    refine lv_iload_n hx hb dX4_admit_45 rfl (lv_at hl 1 rfl) ?_
    refine lv_goto (tgt := 50) hx hb dX4_admit_46 (by decide) ?_
    exact w50 v1 v1 v1 z27 _ _ _ hI hl h
