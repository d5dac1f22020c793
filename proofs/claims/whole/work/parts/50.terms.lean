theorem dX7_count_0 : decode cX7_count 0 = .ok (.aload_n 0, 1) := by decide +kernel
theorem dX7_count_1 : decode cX7_count 1 = .ok (.getfield 45, 3) := by decide +kernel
theorem dX7_count_4 : decode cX7_count 4 = .ok (.ireturn, 1) := by decide +kernel
abbrev rmX7_count : Room := { frames := 0, cells := 0, slots := 0, locals := 0 }
theorem ywX7_count : fY yX7_count "EqualCourt$Terms" cX7_count 1 (some .int) 0 := ⟨tw_334, tw_335, tw_2, tw_336, by decide +kernel⟩
set_option maxHeartbeats 4000000 in
set_option maxRecDepth 100000 in
theorem cX7_count_ok {D : va_G} {ad : Nat → Nat} {cy cz : ClassId} {l : Launch} {z : fS}  {r : Int32} (h : fX7_count z = some r) : fMi D 76 ad (cfX ad cy cz) cy cz l yX7_count cX7_count 1 (some .int) rmX7_count [.ref (ad 1)] z r z := by
  refine f_bodyi (by decide) (Nat.le_of_ble_eq_true rfl) (fun p e s m args below meth c Q hC hret ls hl hI => ?_)
  have hx := hC.1
  have hb := hC.2.1
  have hl : lv_has ls 1 [(0, .ref (ad 1))] := hl
  unfold fX7_count at h
  refine lv_aload_n hx hb dX7_count_0 rfl (lv_at hl 0 rfl) ?_
  refine gX7_count hC hI tw_46 dX7_count_1 ?_
  exact hret (ret_p _ h) dX7_count_4 hI
theorem dX7_has_0 : decode cX7_has 0 = .ok (.iload_n 1, 1) := by decide +kernel
theorem dX7_has_1 : decode cX7_has 1 = .ok (.ifCond .lt 15, 3) := by decide +kernel
theorem dX7_has_4 : decode cX7_has 4 = .ok (.iload_n 1, 1) := by decide +kernel
theorem dX7_has_5 : decode cX7_has 5 = .ok (.aload_n 0, 1) := by decide +kernel
theorem dX7_has_6 : decode cX7_has 6 = .ok (.getfield 45, 3) := by decide +kernel
theorem dX7_has_9 : decode cX7_has 9 = .ok (.if_icmp .ge 7, 3) := by decide +kernel
theorem dX7_has_12 : decode cX7_has 12 = .ok (.iconst 1, 1) := by decide +kernel
theorem dX7_has_13 : decode cX7_has 13 = .ok (.goto 4, 3) := by decide +kernel
theorem dX7_has_16 : decode cX7_has 16 = .ok (.iconst 0, 1) := by decide +kernel
theorem dX7_has_17 : decode cX7_has 17 = .ok (.ireturn, 1) := by decide +kernel
abbrev rmX7_has : Room := { frames := 0, cells := 0, slots := 0, locals := 0 }
theorem ywX7_has : fY yX7_has "EqualCourt$Terms" cX7_has 2 (some .boolean) 1 := ⟨tw_452, tw_453, tw_2, tw_454, by decide +kernel⟩
set_option maxHeartbeats 4000000 in
set_option maxRecDepth 100000 in
theorem cX7_has_ok {D : va_G} {ad : Nat → Nat} {cy cz : ClassId} {l : Launch} {z : fS} {v1 : Int32} {r : Int32} (h : fX7_has z v1 = some r) : fMi D 76 ad (cfX ad cy cz) cy cz l yX7_has cX7_has 2 (some .boolean) rmX7_has [.ref (ad 1), .int v1] z r z := by
  refine f_bodyz (by decide) (Nat.le_of_ble_eq_true rfl) (fun p e s m args below meth c Q hC hret ls hl hI => ?_)
  have hx := hC.1
  have hb := hC.2.1
  have hl : lv_has ls 2 [(0, .ref (ad 1)), (1, .int v1)] := hl
  unfold fX7_has at h
  refine lv_iload_n hx hb dX7_has_0 rfl (lv_at hl 1 rfl) ?_
  refine lv_if_lt (tgt := 16) hx hb dX7_has_1 (by decide) (fun c1 => ?_) (fun c1 => ?_)
  · replace h := if_t h c1
    refine lv_iconst (v := 0) hx hb dX7_has_16 (by decide) ?_
    exact hret (ret_p _ h) (by decide) dX7_has_17 hI
  · replace h := if_f h c1
    refine lv_iload_n hx hb dX7_has_4 rfl (lv_at hl 1 rfl) ?_
    refine lv_aload_n hx hb dX7_has_5 rfl (lv_at hl 0 rfl) ?_
    refine gX7_count hC hI tw_46 dX7_has_6 ?_
    refine lv_icmp_ge (tgt := 16) hx hb dX7_has_9 (by decide) (fun c9 => ?_) (fun c9 => ?_)
    · replace h := if_t h c9
      refine lv_iconst (v := 0) hx hb dX7_has_16 (by decide) ?_
      exact hret (ret_p _ h) (by decide) dX7_has_17 hI
    · replace h := if_f h c9
      refine lv_iconst (v := 1) hx hb dX7_has_12 (by decide) ?_
      refine lv_goto (tgt := 17) hx hb dX7_has_13 (by decide) ?_
      exact hret (ret_p _ h) (by decide) dX7_has_17 hI
theorem dX7_kindOf_0 : decode cX7_kindOf 0 = .ok (.aload_n 0, 1) := by decide +kernel
theorem dX7_kindOf_1 : decode cX7_kindOf 1 = .ok (.getfield 9, 3) := by decide +kernel
theorem dX7_kindOf_4 : decode cX7_kindOf 4 = .ok (.iload_n 1, 1) := by decide +kernel
theorem dX7_kindOf_5 : decode cX7_kindOf 5 = .ok (.iaload, 1) := by decide +kernel
theorem dX7_kindOf_6 : decode cX7_kindOf 6 = .ok (.ireturn, 1) := by decide +kernel
abbrev rmX7_kindOf : Room := { frames := 0, cells := 0, slots := 0, locals := 0 }
theorem ywX7_kindOf : fY yX7_kindOf "EqualCourt$Terms" cX7_kindOf 2 (some .int) 1 := ⟨tw_363, tw_364, tw_2, tw_365, by decide +kernel⟩
set_option maxHeartbeats 4000000 in
set_option maxRecDepth 100000 in
theorem cX7_kindOf_ok {D : va_G} {ad : Nat → Nat} {cy cz : ClassId} {l : Launch} {z : fS} {v1 : Int32} {r : Int32} (h : fX7_kindOf z v1 = some r) : fMi D 76 ad (cfX ad cy cz) cy cz l yX7_kindOf cX7_kindOf 2 (some .int) rmX7_kindOf [.ref (ad 1), .int v1] z r z := by
  refine f_bodyi (by decide) (Nat.le_of_ble_eq_true rfl) (fun p e s m args below meth c Q hC hret ls hl hI => ?_)
  have hx := hC.1
  have hb := hC.2.1
  have hl : lv_has ls 2 [(0, .ref (ad 1)), (1, .int v1)] := hl
  unfold fX7_kindOf at h
  refine lv_aload_n hx hb dX7_kindOf_0 rfl (lv_at hl 0 rfl) ?_
  refine gX7_kinds hC hI tw_31 dX7_kindOf_1 ?_
  refine lv_iload_n hx hb dX7_kindOf_4 rfl (lv_at hl 1 rfl) ?_
  have g5 := (gd_at h).1
  replace h := (gd_at h).2
  refine r_iald hC hI aX_2 g5 dX7_kindOf_5 ?_
  exact hret (ret_p _ h) dX7_kindOf_6 hI
theorem dX7_shownBy_0 : decode cX7_shownBy 0 = .ok (.aload_n 0, 1) := by decide +kernel
theorem dX7_shownBy_1 : decode cX7_shownBy 1 = .ok (.getfield 15, 3) := by decide +kernel
theorem dX7_shownBy_4 : decode cX7_shownBy 4 = .ok (.iload_n 1, 1) := by decide +kernel
theorem dX7_shownBy_5 : decode cX7_shownBy 5 = .ok (.iaload, 1) := by decide +kernel
theorem dX7_shownBy_6 : decode cX7_shownBy 6 = .ok (.ireturn, 1) := by decide +kernel
abbrev rmX7_shownBy : Room := { frames := 0, cells := 0, slots := 0, locals := 0 }
theorem ywX7_shownBy : fY yX7_shownBy "EqualCourt$Terms" cX7_shownBy 2 (some .int) 1 := ⟨tw_482, tw_483, tw_2, tw_484, by decide +kernel⟩
set_option maxHeartbeats 4000000 in
set_option maxRecDepth 100000 in
theorem cX7_shownBy_ok {D : va_G} {ad : Nat → Nat} {cy cz : ClassId} {l : Launch} {z : fS} {v1 : Int32} {r : Int32} (h : fX7_shownBy z v1 = some r) : fMi D 76 ad (cfX ad cy cz) cy cz l yX7_shownBy cX7_shownBy 2 (some .int) rmX7_shownBy [.ref (ad 1), .int v1] z r z := by
  refine f_bodyi (by decide) (Nat.le_of_ble_eq_true rfl) (fun p e s m args below meth c Q hC hret ls hl hI => ?_)
  have hx := hC.1
  have hb := hC.2.1
  have hl : lv_has ls 2 [(0, .ref (ad 1)), (1, .int v1)] := hl
  unfold fX7_shownBy at h
  refine lv_aload_n hx hb dX7_shownBy_0 rfl (lv_at hl 0 rfl) ?_
  refine gX7_shown hC hI tw_33 dX7_shownBy_1 ?_
  refine lv_iload_n hx hb dX7_shownBy_4 rfl (lv_at hl 1 rfl) ?_
  have g5 := (gd_at h).1
  replace h := (gd_at h).2
  refine r_iald hC hI aX_3 g5 dX7_shownBy_5 ?_
  exact hret (ret_p _ h) dX7_shownBy_6 hI
theorem dX7_sizeOf_0 : decode cX7_sizeOf 0 = .ok (.aload_n 0, 1) := by decide +kernel
theorem dX7_sizeOf_1 : decode cX7_sizeOf 1 = .ok (.getfield 18, 3) := by decide +kernel
theorem dX7_sizeOf_4 : decode cX7_sizeOf 4 = .ok (.iload_n 1, 1) := by decide +kernel
theorem dX7_sizeOf_5 : decode cX7_sizeOf 5 = .ok (.iaload, 1) := by decide +kernel
theorem dX7_sizeOf_6 : decode cX7_sizeOf 6 = .ok (.ireturn, 1) := by decide +kernel
abbrev rmX7_sizeOf : Room := { frames := 0, cells := 0, slots := 0, locals := 0 }
theorem ywX7_sizeOf : fY yX7_sizeOf "EqualCourt$Terms" cX7_sizeOf 2 (some .int) 1 := ⟨tw_367, tw_368, tw_2, tw_369, by decide +kernel⟩
set_option maxHeartbeats 4000000 in
set_option maxRecDepth 100000 in
theorem cX7_sizeOf_ok {D : va_G} {ad : Nat → Nat} {cy cz : ClassId} {l : Launch} {z : fS} {v1 : Int32} {r : Int32} (h : fX7_sizeOf z v1 = some r) : fMi D 76 ad (cfX ad cy cz) cy cz l yX7_sizeOf cX7_sizeOf 2 (some .int) rmX7_sizeOf [.ref (ad 1), .int v1] z r z := by
  refine f_bodyi (by decide) (Nat.le_of_ble_eq_true rfl) (fun p e s m args below meth c Q hC hret ls hl hI => ?_)
  have hx := hC.1
  have hb := hC.2.1
  have hl : lv_has ls 2 [(0, .ref (ad 1)), (1, .int v1)] := hl
  unfold fX7_sizeOf at h
  refine lv_aload_n hx hb dX7_sizeOf_0 rfl (lv_at hl 0 rfl) ?_
  refine gX7_sizes hC hI tw_35 dX7_sizeOf_1 ?_
  refine lv_iload_n hx hb dX7_sizeOf_4 rfl (lv_at hl 1 rfl) ?_
  have g5 := (gd_at h).1
  replace h := (gd_at h).2
  refine r_iald hC hI aX_4 g5 dX7_sizeOf_5 ?_
  exact hret (ret_p _ h) dX7_sizeOf_6 hI
theorem dX7_partOf_0 : decode cX7_partOf 0 = .ok (.aload_n 0, 1) := by decide +kernel
theorem dX7_partOf_1 : decode cX7_partOf 1 = .ok (.getfield 21, 3) := by decide +kernel
theorem dX7_partOf_4 : decode cX7_partOf 4 = .ok (.iconst 3, 1) := by decide +kernel
theorem dX7_partOf_5 : decode cX7_partOf 5 = .ok (.iload_n 1, 1) := by decide +kernel
theorem dX7_partOf_6 : decode cX7_partOf 6 = .ok (.imul, 1) := by decide +kernel
theorem dX7_partOf_7 : decode cX7_partOf 7 = .ok (.iload_n 2, 1) := by decide +kernel
theorem dX7_partOf_8 : decode cX7_partOf 8 = .ok (.iadd, 1) := by decide +kernel
theorem dX7_partOf_9 : decode cX7_partOf 9 = .ok (.iaload, 1) := by decide +kernel
theorem dX7_partOf_10 : decode cX7_partOf 10 = .ok (.ireturn, 1) := by decide +kernel
abbrev rmX7_partOf : Room := { frames := 0, cells := 0, slots := 0, locals := 0 }
theorem ywX7_partOf : fY yX7_partOf "EqualCourt$Terms" cX7_partOf 3 (some .int) 2 := ⟨tw_474, tw_475, tw_2, tw_476, by decide +kernel⟩
set_option maxHeartbeats 4000000 in
set_option maxRecDepth 100000 in
theorem cX7_partOf_ok {D : va_G} {ad : Nat → Nat} {cy cz : ClassId} {l : Launch} {z : fS} {v1 : Int32} {v2 : Int32} {r : Int32} (h : fX7_partOf z v1 v2 = some r) : fMi D 76 ad (cfX ad cy cz) cy cz l yX7_partOf cX7_partOf 3 (some .int) rmX7_partOf [.ref (ad 1), .int v1, .int v2] z r z := by
  refine f_bodyi (by decide) (Nat.le_of_ble_eq_true rfl) (fun p e s m args below meth c Q hC hret ls hl hI => ?_)
  have hx := hC.1
  have hb := hC.2.1
  have hl : lv_has ls 3 [(0, .ref (ad 1)), (1, .int v1), (2, .int v2)] := hl
  unfold fX7_partOf at h
  refine lv_aload_n hx hb dX7_partOf_0 rfl (lv_at hl 0 rfl) ?_
  refine gX7_parts hC hI tw_37 dX7_partOf_1 ?_
  refine lv_iconst (v := 3) hx hb dX7_partOf_4 (by decide) ?_
  refine lv_iload_n hx hb dX7_partOf_5 rfl (lv_at hl 1 rfl) ?_
  refine lv_imul hx hb dX7_partOf_6 ?_
  refine lv_iload_n hx hb dX7_partOf_7 rfl (lv_at hl 2 rfl) ?_
  refine lv_iadd hx hb dX7_partOf_8 ?_
  have g9 := (gd_at h).1
  replace h := (gd_at h).2
  refine r_iald hC hI aX_5 g9 dX7_partOf_9 ?_
  exact hret (ret_p _ h) dX7_partOf_10 hI
theorem dX7_holesOf_0 : decode cX7_holesOf 0 = .ok (.aload_n 0, 1) := by decide +kernel
theorem dX7_holesOf_1 : decode cX7_holesOf 1 = .ok (.getfield 24, 3) := by decide +kernel
theorem dX7_holesOf_4 : decode cX7_holesOf 4 = .ok (.iload_n 1, 1) := by decide +kernel
theorem dX7_holesOf_5 : decode cX7_holesOf 5 = .ok (.iaload, 1) := by decide +kernel
theorem dX7_holesOf_6 : decode cX7_holesOf 6 = .ok (.ireturn, 1) := by decide +kernel
abbrev rmX7_holesOf : Room := { frames := 0, cells := 0, slots := 0, locals := 0 }
theorem ywX7_holesOf : fY yX7_holesOf "EqualCourt$Terms" cX7_holesOf 2 (some .int) 1 := ⟨tw_743, tw_744, tw_2, tw_745, by decide +kernel⟩
set_option maxHeartbeats 4000000 in
set_option maxRecDepth 100000 in
theorem cX7_holesOf_ok {D : va_G} {ad : Nat → Nat} {cy cz : ClassId} {l : Launch} {z : fS} {v1 : Int32} {r : Int32} (h : fX7_holesOf z v1 = some r) : fMi D 76 ad (cfX ad cy cz) cy cz l yX7_holesOf cX7_holesOf 2 (some .int) rmX7_holesOf [.ref (ad 1), .int v1] z r z := by
  refine f_bodyi (by decide) (Nat.le_of_ble_eq_true rfl) (fun p e s m args below meth c Q hC hret ls hl hI => ?_)
  have hx := hC.1
  have hb := hC.2.1
  have hl : lv_has ls 2 [(0, .ref (ad 1)), (1, .int v1)] := hl
  unfold fX7_holesOf at h
  refine lv_aload_n hx hb dX7_holesOf_0 rfl (lv_at hl 0 rfl) ?_
  refine gX7_holes hC hI tw_39 dX7_holesOf_1 ?_
  refine lv_iload_n hx hb dX7_holesOf_4 rfl (lv_at hl 1 rfl) ?_
  have g5 := (gd_at h).1
  replace h := (gd_at h).2
  refine r_iald hC hI aX_6 g5 dX7_holesOf_5 ?_
  exact hret (ret_p _ h) dX7_holesOf_6 hI
theorem dX7_isHole_0 : decode cX7_isHole 0 = .ok (.aload_n 0, 1) := by decide +kernel
theorem dX7_isHole_1 : decode cX7_isHole 1 = .ok (.getfield 9, 3) := by decide +kernel
theorem dX7_isHole_4 : decode cX7_isHole 4 = .ok (.iload_n 1, 1) := by decide +kernel
theorem dX7_isHole_5 : decode cX7_isHole 5 = .ok (.iaload, 1) := by decide +kernel
theorem dX7_isHole_6 : decode cX7_isHole 6 = .ok (.ifCond .ne 29, 3) := by decide +kernel
theorem dX7_isHole_9 : decode cX7_isHole 9 = .ok (.aload_n 0, 1) := by decide +kernel
theorem dX7_isHole_10 : decode cX7_isHole 10 = .ok (.getfield 15, 3) := by decide +kernel
theorem dX7_isHole_13 : decode cX7_isHole 13 = .ok (.iload_n 1, 1) := by decide +kernel
theorem dX7_isHole_14 : decode cX7_isHole 14 = .ok (.iaload, 1) := by decide +kernel
theorem dX7_isHole_15 : decode cX7_isHole 15 = .ok (.bipush 90, 2) := by decide +kernel
theorem dX7_isHole_17 : decode cX7_isHole 17 = .ok (.if_icmp .lt 18, 3) := by decide +kernel
theorem dX7_isHole_20 : decode cX7_isHole 20 = .ok (.aload_n 0, 1) := by decide +kernel
theorem dX7_isHole_21 : decode cX7_isHole 21 = .ok (.getfield 15, 3) := by decide +kernel
theorem dX7_isHole_24 : decode cX7_isHole 24 = .ok (.iload_n 1, 1) := by decide +kernel
theorem dX7_isHole_25 : decode cX7_isHole 25 = .ok (.iaload, 1) := by decide +kernel
theorem dX7_isHole_26 : decode cX7_isHole 26 = .ok (.bipush 93, 2) := by decide +kernel
theorem dX7_isHole_28 : decode cX7_isHole 28 = .ok (.if_icmp .ge 7, 3) := by decide +kernel
theorem dX7_isHole_31 : decode cX7_isHole 31 = .ok (.iconst 1, 1) := by decide +kernel
theorem dX7_isHole_32 : decode cX7_isHole 32 = .ok (.goto 4, 3) := by decide +kernel
theorem dX7_isHole_35 : decode cX7_isHole 35 = .ok (.iconst 0, 1) := by decide +kernel
theorem dX7_isHole_36 : decode cX7_isHole 36 = .ok (.ireturn, 1) := by decide +kernel
abbrev rmX7_isHole : Room := { frames := 0, cells := 0, slots := 0, locals := 0 }
theorem ywX7_isHole : fY yX7_isHole "EqualCourt$Terms" cX7_isHole 2 (some .boolean) 1 := ⟨tw_350, tw_351, tw_2, tw_352, by decide +kernel⟩
set_option maxHeartbeats 4000000 in
set_option maxRecDepth 100000 in
theorem cX7_isHole_ok {D : va_G} {ad : Nat → Nat} {cy cz : ClassId} {l : Launch} {z : fS} {v1 : Int32} {r : Int32} (h : fX7_isHole z v1 = some r) : fMi D 76 ad (cfX ad cy cz) cy cz l yX7_isHole cX7_isHole 2 (some .boolean) rmX7_isHole [.ref (ad 1), .int v1] z r z := by
  refine f_bodyz (by decide) (Nat.le_of_ble_eq_true rfl) (fun p e s m args below meth c Q hC hret ls hl hI => ?_)
  have hx := hC.1
  have hb := hC.2.1
  have hl : lv_has ls 2 [(0, .ref (ad 1)), (1, .int v1)] := hl
  unfold fX7_isHole at h
  refine lv_aload_n hx hb dX7_isHole_0 rfl (lv_at hl 0 rfl) ?_
  refine gX7_kinds hC hI tw_31 dX7_isHole_1 ?_
  refine lv_iload_n hx hb dX7_isHole_4 rfl (lv_at hl 1 rfl) ?_
  have g5 := (gd_at h).1
  replace h := (gd_at h).2
  refine r_iald hC hI aX_2 g5 dX7_isHole_5 ?_
  refine lv_if_ne (tgt := 35) hx hb dX7_isHole_6 (by decide) (fun c6 => ?_) (fun c6 => ?_)
  · replace h := if_f h c6
    refine lv_iconst (v := 0) hx hb dX7_isHole_35 (by decide) ?_
    exact hret (ret_p _ h) (by decide) dX7_isHole_36 hI
  · replace h := if_t h c6
    refine lv_aload_n hx hb dX7_isHole_9 rfl (lv_at hl 0 rfl) ?_
    refine gX7_shown hC hI tw_33 dX7_isHole_10 ?_
    refine lv_iload_n hx hb dX7_isHole_13 rfl (lv_at hl 1 rfl) ?_
    have g14 := (gd_at h).1
    replace h := (gd_at h).2
    refine r_iald hC hI aX_3 g14 dX7_isHole_14 ?_
    refine lv_bipush (v := 90) hx hb dX7_isHole_15 (by decide) ?_
    refine lv_icmp_lt (tgt := 35) hx hb dX7_isHole_17 (by decide) (fun c17 => ?_) (fun c17 => ?_)
    · replace h := if_t h c17
      refine lv_iconst (v := 0) hx hb dX7_isHole_35 (by decide) ?_
      exact hret (ret_p _ h) (by decide) dX7_isHole_36 hI
    · replace h := if_f h c17
      refine lv_aload_n hx hb dX7_isHole_20 rfl (lv_at hl 0 rfl) ?_
      refine gX7_shown hC hI tw_33 dX7_isHole_21 ?_
      refine lv_iload_n hx hb dX7_isHole_24 rfl (lv_at hl 1 rfl) ?_
      have g25 := (gd_at h).1
      replace h := (gd_at h).2
      refine r_iald hC hI aX_3 g25 dX7_isHole_25 ?_
      refine lv_bipush (v := 93) hx hb dX7_isHole_26 (by decide) ?_
      refine lv_icmp_ge (tgt := 35) hx hb dX7_isHole_28 (by decide) (fun c28 => ?_) (fun c28 => ?_)
      · replace h := if_t h c28
        refine lv_iconst (v := 0) hx hb dX7_isHole_35 (by decide) ?_
        exact hret (ret_p _ h) (by decide) dX7_isHole_36 hI
      · replace h := if_f h c28
        refine lv_iconst (v := 1) hx hb dX7_isHole_31 (by decide) ?_
        refine lv_goto (tgt := 36) hx hb dX7_isHole_32 (by decide) ?_
        exact hret (ret_p _ h) (by decide) dX7_isHole_36 hI
theorem dX8_slotFor_0 : decode cX8_slotFor 0 = .ok (.iload_n 0, 1) := by decide +kernel
theorem dX8_slotFor_1 : decode cX8_slotFor 1 = .ok (.bipush 31, 2) := by decide +kernel
theorem dX8_slotFor_3 : decode cX8_slotFor 3 = .ok (.imul, 1) := by decide +kernel
theorem dX8_slotFor_4 : decode cX8_slotFor 4 = .ok (.iload_n 1, 1) := by decide +kernel
theorem dX8_slotFor_5 : decode cX8_slotFor 5 = .ok (.iadd, 1) := by decide +kernel
theorem dX8_slotFor_6 : decode cX8_slotFor 6 = .ok (.bipush 127, 2) := by decide +kernel
theorem dX8_slotFor_8 : decode cX8_slotFor 8 = .ok (.imul, 1) := by decide +kernel
theorem dX8_slotFor_9 : decode cX8_slotFor 9 = .ok (.iload_n 2, 1) := by decide +kernel
theorem dX8_slotFor_10 : decode cX8_slotFor 10 = .ok (.iadd, 1) := by decide +kernel
theorem dX8_slotFor_11 : decode cX8_slotFor 11 = .ok (.bipush 127, 2) := by decide +kernel
theorem dX8_slotFor_13 : decode cX8_slotFor 13 = .ok (.imul, 1) := by decide +kernel
theorem dX8_slotFor_14 : decode cX8_slotFor 14 = .ok (.iload_n 3, 1) := by decide +kernel
theorem dX8_slotFor_15 : decode cX8_slotFor 15 = .ok (.iadd, 1) := by decide +kernel
theorem dX8_slotFor_16 : decode cX8_slotFor 16 = .ok (.bipush 127, 2) := by decide +kernel
theorem dX8_slotFor_18 : decode cX8_slotFor 18 = .ok (.imul, 1) := by decide +kernel
theorem dX8_slotFor_19 : decode cX8_slotFor 19 = .ok (.iload 4, 2) := by decide +kernel
theorem dX8_slotFor_21 : decode cX8_slotFor 21 = .ok (.iadd, 1) := by decide +kernel
theorem dX8_slotFor_22 : decode cX8_slotFor 22 = .ok (.istore 5, 2) := by decide +kernel
theorem dX8_slotFor_24 : decode cX8_slotFor 24 = .ok (.iload 5, 2) := by decide +kernel
theorem dX8_slotFor_26 : decode cX8_slotFor 26 = .ok (.ldc 240, 2) := by decide +kernel
theorem dX8_slotFor_28 : decode cX8_slotFor 28 = .ok (.imul, 1) := by decide +kernel
theorem dX8_slotFor_29 : decode cX8_slotFor 29 = .ok (.bipush 25, 2) := by decide +kernel
theorem dX8_slotFor_31 : decode cX8_slotFor 31 = .ok (.iushr, 1) := by decide +kernel
theorem dX8_slotFor_32 : decode cX8_slotFor 32 = .ok (.ireturn, 1) := by decide +kernel
abbrev rmX8_slotFor : Room := { frames := 0, cells := 0, slots := 0, locals := 0 }
set_option maxHeartbeats 4000000 in
set_option maxRecDepth 100000 in
theorem cX8_slotFor_ok {D : va_G} {ad : Nat → Nat} {cy cz : ClassId} {l : Launch} {z : fS} {v0 : Int32} {v1 : Int32} {v2 : Int32} {v3 : Int32} {v4 : Int32} {r : Int32} (h : fX8_slotFor z v0 v1 v2 v3 v4 = some r) : fMi D 76 ad (cfX ad cy cz) cy cz l yX8_slotFor cX8_slotFor 6 (some .int) rmX8_slotFor [.int v0, .int v1, .int v2, .int v3, .int v4] z r z := by
  refine f_bodyi (by decide) (Nat.le_of_ble_eq_true rfl) (fun p e s m args below meth c Q hC hret ls hl hI => ?_)
  have hx := hC.1
  have hb := hC.2.1
  have hl : lv_has ls 6 [(0, .int v0), (1, .int v1), (2, .int v2), (3, .int v3), (4, .int v4)] := hl
  unfold fX8_slotFor at h
  refine lv_iload_n hx hb dX8_slotFor_0 rfl (lv_at hl 0 rfl) ?_
  refine lv_bipush (v := 31) hx hb dX8_slotFor_1 (by decide) ?_
  refine lv_imul hx hb dX8_slotFor_3 ?_
  refine lv_iload_n hx hb dX8_slotFor_4 rfl (lv_at hl 1 rfl) ?_
  refine lv_iadd hx hb dX8_slotFor_5 ?_
  refine lv_bipush (v := 127) hx hb dX8_slotFor_6 (by decide) ?_
  refine lv_imul hx hb dX8_slotFor_8 ?_
  refine lv_iload_n hx hb dX8_slotFor_9 rfl (lv_at hl 2 rfl) ?_
  refine lv_iadd hx hb dX8_slotFor_10 ?_
  refine lv_bipush (v := 127) hx hb dX8_slotFor_11 (by decide) ?_
  refine lv_imul hx hb dX8_slotFor_13 ?_
  refine lv_iload_n hx hb dX8_slotFor_14 rfl (lv_at hl 3 rfl) ?_
  refine lv_iadd hx hb dX8_slotFor_15 ?_
  refine lv_bipush (v := 127) hx hb dX8_slotFor_16 (by decide) ?_
  refine lv_imul hx hb dX8_slotFor_18 ?_
  refine lv_iload hx hb dX8_slotFor_19 (lv_at hl 4 rfl) ?_
  refine lv_iadd hx hb dX8_slotFor_21 ?_
  refine lv_topi (fun x22 e22 => ?_)
  replace h := bnd_at h e22
  refine lv_istore (lv' := [(5, .int x22), (0, .int v0), (1, .int v1), (2, .int v2), (3, .int v3), (4, .int v4)]) hx hb dX8_slotFor_22 hl (by decide) rfl (fun ls hl => ?_)
  refine lv_iload hx hb dX8_slotFor_24 (lv_at hl 0 rfl) ?_
  refine lv_ldc (v := -1640531535) hx hb hC.2.2.2.1 (hC.2.2.2.2.1 _ tw_348) dX8_slotFor_26 ?_
  refine lv_imul hx hb dX8_slotFor_28 ?_
  refine lv_bipush (v := 25) hx hb dX8_slotFor_29 (by decide) ?_
  refine lv_iushr hx hb dX8_slotFor_31 rfl ?_
  exact hret (ret_p _ h) dX8_slotFor_32 hI
theorem dX7_find_0 : decode cX7_find 0 = .ok (.aload_n 0, 1) := by decide +kernel
theorem dX7_find_1 : decode cX7_find 1 = .ok (.getfield 27, 3) := by decide +kernel
theorem dX7_find_4 : decode cX7_find 4 = .ok (.iload_n 1, 1) := by decide +kernel
theorem dX7_find_5 : decode cX7_find 5 = .ok (.iload_n 2, 1) := by decide +kernel
theorem dX7_find_6 : decode cX7_find 6 = .ok (.iload_n 3, 1) := by decide +kernel
theorem dX7_find_7 : decode cX7_find 7 = .ok (.iload 4, 2) := by decide +kernel
theorem dX7_find_9 : decode cX7_find 9 = .ok (.iload 5, 2) := by decide +kernel
theorem dX7_find_11 : decode cX7_find 11 = .ok (.invokestatic 49, 3) := by decide +kernel
theorem dX7_find_14 : decode cX7_find 14 = .ok (.iaload, 1) := by decide +kernel
theorem dX7_find_15 : decode cX7_find 15 = .ok (.istore 6, 2) := by decide +kernel
theorem dX7_find_17 : decode cX7_find 17 = .ok (.iconst 0, 1) := by decide +kernel
theorem dX7_find_18 : decode cX7_find 18 = .ok (.istore 7, 2) := by decide +kernel
theorem dX7_find_20 : decode cX7_find 20 = .ok (.iload 7, 2) := by decide +kernel
theorem dX7_find_22 : decode cX7_find 22 = .ok (.bipush 120, 2) := by decide +kernel
theorem dX7_find_24 : decode cX7_find 24 = .ok (.if_icmp .ge 94, 3) := by decide +kernel
theorem dX7_find_27 : decode cX7_find 27 = .ok (.iload 6, 2) := by decide +kernel
theorem dX7_find_29 : decode cX7_find 29 = .ok (.iconst (-1), 1) := by decide +kernel
theorem dX7_find_30 : decode cX7_find 30 = .ok (.if_icmp .eq 88, 3) := by decide +kernel
theorem dX7_find_33 : decode cX7_find 33 = .ok (.iconst 3, 1) := by decide +kernel
theorem dX7_find_34 : decode cX7_find 34 = .ok (.iload 6, 2) := by decide +kernel
theorem dX7_find_36 : decode cX7_find 36 = .ok (.imul, 1) := by decide +kernel
theorem dX7_find_37 : decode cX7_find 37 = .ok (.istore 8, 2) := by decide +kernel
theorem dX7_find_39 : decode cX7_find 39 = .ok (.aload_n 0, 1) := by decide +kernel
theorem dX7_find_40 : decode cX7_find 40 = .ok (.getfield 9, 3) := by decide +kernel
theorem dX7_find_43 : decode cX7_find 43 = .ok (.iload 6, 2) := by decide +kernel
theorem dX7_find_45 : decode cX7_find 45 = .ok (.iaload, 1) := by decide +kernel
theorem dX7_find_46 : decode cX7_find 46 = .ok (.iload_n 1, 1) := by decide +kernel
theorem dX7_find_47 : decode cX7_find 47 = .ok (.if_icmp .ne 56, 3) := by decide +kernel
theorem dX7_find_50 : decode cX7_find 50 = .ok (.aload_n 0, 1) := by decide +kernel
theorem dX7_find_51 : decode cX7_find 51 = .ok (.getfield 15, 3) := by decide +kernel
theorem dX7_find_54 : decode cX7_find 54 = .ok (.iload 6, 2) := by decide +kernel
theorem dX7_find_56 : decode cX7_find 56 = .ok (.iaload, 1) := by decide +kernel
theorem dX7_find_57 : decode cX7_find 57 = .ok (.iload_n 2, 1) := by decide +kernel
theorem dX7_find_58 : decode cX7_find 58 = .ok (.if_icmp .ne 45, 3) := by decide +kernel
theorem dX7_find_61 : decode cX7_find 61 = .ok (.aload_n 0, 1) := by decide +kernel
theorem dX7_find_62 : decode cX7_find 62 = .ok (.getfield 21, 3) := by decide +kernel
theorem dX7_find_65 : decode cX7_find 65 = .ok (.iload 8, 2) := by decide +kernel
theorem dX7_find_67 : decode cX7_find 67 = .ok (.iaload, 1) := by decide +kernel
theorem dX7_find_68 : decode cX7_find 68 = .ok (.iload_n 3, 1) := by decide +kernel
theorem dX7_find_69 : decode cX7_find 69 = .ok (.if_icmp .ne 34, 3) := by decide +kernel
theorem dX7_find_72 : decode cX7_find 72 = .ok (.aload_n 0, 1) := by decide +kernel
theorem dX7_find_73 : decode cX7_find 73 = .ok (.getfield 21, 3) := by decide +kernel
theorem dX7_find_76 : decode cX7_find 76 = .ok (.iload 8, 2) := by decide +kernel
theorem dX7_find_78 : decode cX7_find 78 = .ok (.iconst 1, 1) := by decide +kernel
theorem dX7_find_79 : decode cX7_find 79 = .ok (.iadd, 1) := by decide +kernel
theorem dX7_find_80 : decode cX7_find 80 = .ok (.iaload, 1) := by decide +kernel
theorem dX7_find_81 : decode cX7_find 81 = .ok (.iload 4, 2) := by decide +kernel
theorem dX7_find_83 : decode cX7_find 83 = .ok (.if_icmp .ne 20, 3) := by decide +kernel
theorem dX7_find_86 : decode cX7_find 86 = .ok (.aload_n 0, 1) := by decide +kernel
theorem dX7_find_87 : decode cX7_find 87 = .ok (.getfield 21, 3) := by decide +kernel
theorem dX7_find_90 : decode cX7_find 90 = .ok (.iload 8, 2) := by decide +kernel
theorem dX7_find_92 : decode cX7_find 92 = .ok (.iconst 2, 1) := by decide +kernel
theorem dX7_find_93 : decode cX7_find 93 = .ok (.iadd, 1) := by decide +kernel
theorem dX7_find_94 : decode cX7_find 94 = .ok (.iaload, 1) := by decide +kernel
theorem dX7_find_95 : decode cX7_find 95 = .ok (.iload 5, 2) := by decide +kernel
theorem dX7_find_97 : decode cX7_find 97 = .ok (.if_icmp .ne 6, 3) := by decide +kernel
theorem dX7_find_100 : decode cX7_find 100 = .ok (.iload 6, 2) := by decide +kernel
theorem dX7_find_102 : decode cX7_find 102 = .ok (.ireturn, 1) := by decide +kernel
theorem dX7_find_103 : decode cX7_find 103 = .ok (.aload_n 0, 1) := by decide +kernel
theorem dX7_find_104 : decode cX7_find 104 = .ok (.getfield 30, 3) := by decide +kernel
theorem dX7_find_107 : decode cX7_find 107 = .ok (.iload 6, 2) := by decide +kernel
theorem dX7_find_109 : decode cX7_find 109 = .ok (.iaload, 1) := by decide +kernel
theorem dX7_find_110 : decode cX7_find 110 = .ok (.istore 6, 2) := by decide +kernel
theorem dX7_find_112 : decode cX7_find 112 = .ok (.iinc 7 1, 3) := by decide +kernel
theorem dX7_find_115 : decode cX7_find 115 = .ok (.goto (-95), 3) := by decide +kernel
theorem dX7_find_118 : decode cX7_find 118 = .ok (.iconst (-1), 1) := by decide +kernel
theorem dX7_find_119 : decode cX7_find 119 = .ok (.ireturn, 1) := by decide +kernel
abbrev rmX7_find : Room := { frames := 1, cells := 0, slots := 0, locals := 25 }
theorem ywX7_find : fY yX7_find "EqualCourt$Terms" cX7_find 9 (some .int) 5 := ⟨tw_342, tw_343, tw_2, tw_344, by decide +kernel⟩
set_option maxHeartbeats 4000000 in
set_option maxRecDepth 100000 in
theorem cX7_find_ok {D : va_G} {ad : Nat → Nat} {cy cz : ClassId} {l : Launch} {z : fS} {v1 : Int32} {v2 : Int32} {v3 : Int32} {v4 : Int32} {v5 : Int32} {r : Int32} (h : fX7_find z v1 v2 v3 v4 v5 = some r) : fMi D 76 ad (cfX ad cy cz) cy cz l yX7_find cX7_find 9 (some .int) rmX7_find [.ref (ad 1), .int v1, .int v2, .int v3, .int v4, .int v5] z r z := by
  refine f_bodyi (by decide) (Nat.le_of_ble_eq_true rfl) (fun p e s m args below meth c Q hC hret ls hl hI => ?_)
  have hx := hC.1
  have hb := hC.2.1
  have hl : lv_has ls 9 [(0, .ref (ad 1)), (1, .int v1), (2, .int v2), (3, .int v3), (4, .int v4), (5, .int v5)] := hl
  unfold fX7_find at h
  refine lv_aload_n hx hb dX7_find_0 rfl (lv_at hl 0 rfl) ?_
  refine gX7_buckets hC hI tw_40 dX7_find_1 ?_
  refine lv_iload_n hx hb dX7_find_4 rfl (lv_at hl 1 rfl) ?_
  refine lv_iload_n hx hb dX7_find_5 rfl (lv_at hl 2 rfl) ?_
  refine lv_iload_n hx hb dX7_find_6 rfl (lv_at hl 3 rfl) ?_
  refine lv_iload hx hb dX7_find_7 (lv_at hl 4 rfl) ?_
  refine lv_iload hx hb dX7_find_9 (lv_at hl 5 rfl) ?_
  replace h := bp_at h
  obtain ⟨r11, e11, h⟩ := h
  refine r_callsn (rest := [.ref (ad 7)]) hC hI tw_347 tw_1 tw_346 (by decide +kernel) (host := "EqualCourt") (index := 49) (np := 5) (by decide) (cX8_slotFor_ok  e11) ⟨Nat.le_of_ble_eq_true rfl, Nat.le_of_ble_eq_true rfl⟩ ⟨rfl, rfl⟩ rfl hl.1 rfl (Nat.le_of_ble_eq_true rfl) dX7_find_11 (fun H locs hI => ?_)
  have g14 := (gd_at h).1
  replace h := (gd_at h).2
  refine r_iald hC hI aX_7 g14 dX7_find_14 ?_
  refine lv_topi (fun x15 e15 => ?_)
  replace h := bnd_at h e15
  refine lv_istore (lv' := [(6, .int x15), (0, .ref (ad 1)), (1, .int v1), (2, .int v2), (3, .int v3), (4, .int v4), (5, .int v5)]) hx hb dX7_find_15 hl (by decide) rfl (fun ls hl => ?_)
  refine lv_iconst (v := 0) hx hb dX7_find_17 (by decide) ?_
  refine lv_istore (lv' := [(7, .int (0 : Int32)), (6, .int x15), (0, .ref (ad 1)), (1, .int v1), (2, .int v2), (3, .int v3), (4, .int v4), (5, .int v5)]) hx hb dX7_find_18 hl (by decide) rfl (fun ls hl => ?_)
  have w20 : ∀ (N20 : Nat) (v1 : Int32) (v2 : Int32) (v3 : Int32) (v4 : Int32) (v5 : Int32) (v6 : Int32) (v7 : Int32) (H : Heap) (locs : List Loc) (ls : Array Slot), fI D 76 ad (cfX ad cy cz) z s H locs → lv_has ls 9 [(0, .ref (ad 1)), (1, .int v1), (2, .int v2), (3, .int v3), (4, .int v4), (5, .int v5), (6, .int v6), (7, .int v7)] → lX7_find_20   z v1 v2 v3 v4 v5 N20 v6 v7 = some r → W p l e rmX7_find s m args below meth c H locs 0 0 Q (F0 m 20 ls []) := by
    intro N20
    induction N20 with
    | zero =>
      intro v1 v2 v3 v4 v5 v6 v7 H locs ls hI hl h
      exact none_no h
    | succ N20 ih20 =>
      intro v1 v2 v3 v4 v5 v6 v7 H locs ls hI hl h
      rw [lX7_find_20.eq_2] at h
      refine lv_iload hx hb dX7_find_20 (lv_at hl 7 rfl) ?_
      refine lv_bipush (v := 120) hx hb dX7_find_22 (by decide) ?_
      refine lv_icmp_ge (tgt := 118) hx hb dX7_find_24 (by decide) (fun c24 => ?_) (fun c24 => ?_)
      · replace h := if_t h c24
        refine lv_iconst (v := -1) hx hb dX7_find_118 (by decide) ?_
        exact hret (ret_p _ h) dX7_find_119 hI
      · replace h := if_f h c24
        refine lv_iload hx hb dX7_find_27 (lv_at hl 6 rfl) ?_
        refine lv_iconst (v := -1) hx hb dX7_find_29 (by decide) ?_
        refine lv_icmp_eq (tgt := 118) hx hb dX7_find_30 (by decide) (fun c30 => ?_) (fun c30 => ?_)
        · replace h := if_t h c30
          refine lv_iconst (v := -1) hx hb dX7_find_118 (by decide) ?_
          exact hret (ret_p _ h) dX7_find_119 hI
        · replace h := if_f h c30
          refine lv_iconst (v := 3) hx hb dX7_find_33 (by decide) ?_
          refine lv_iload hx hb dX7_find_34 (lv_at hl 6 rfl) ?_
          refine lv_imul hx hb dX7_find_36 ?_
          refine lv_topi (fun x37 e37 => ?_)
          replace h := bnd_at h e37
          refine lv_istore (lv' := [(8, .int x37), (0, .ref (ad 1)), (1, .int v1), (2, .int v2), (3, .int v3), (4, .int v4), (5, .int v5), (6, .int v6), (7, .int v7)]) hx hb dX7_find_37 hl (by decide) rfl (fun ls hl => ?_)
          refine lv_aload_n hx hb dX7_find_39 rfl (lv_at hl 1 rfl) ?_
          refine gX7_kinds hC hI tw_31 dX7_find_40 ?_
          refine lv_iload hx hb dX7_find_43 (lv_at hl 7 rfl) ?_
          have g45 := (gd_at h).1
          replace h := (gd_at h).2
          refine r_iald hC hI aX_2 g45 dX7_find_45 ?_
          refine lv_iload_n hx hb dX7_find_46 rfl (lv_at hl 2 rfl) ?_
          refine lv_icmp_ne (tgt := 103) hx hb dX7_find_47 (by decide) (fun c47 => ?_) (fun c47 => ?_)
          · replace h := if_f h c47
            refine lv_aload_n hx hb dX7_find_103 rfl (lv_at hl 1 rfl) ?_
            refine gX7_chain hC hI tw_41 dX7_find_104 ?_
            refine lv_iload hx hb dX7_find_107 (lv_at hl 7 rfl) ?_
            have g109 := (gd_at h).1
            replace h := (gd_at h).2
            refine r_iald hC hI aX_8 g109 dX7_find_109 ?_
            refine lv_topi (fun x110 e110 => ?_)
            replace h := bnd_at h e110
            refine lv_istore (lv' := [(6, .int x110), (8, .int x37), (0, .ref (ad 1)), (1, .int v1), (2, .int v2), (3, .int v3), (4, .int v4), (5, .int v5), (7, .int v7)]) hx hb dX7_find_110 hl (by decide) rfl (fun ls hl => ?_)
            obtain ⟨x112, e112⟩ : ∃ y : Int32, y = (v7 + (1 : Int32)) := ⟨_, rfl⟩
            replace h := bnd_at h e112
            refine lv_iinc (v := x112) (lv' := [(7, .int x112), (6, .int x110), (8, .int x37), (0, .ref (ad 1)), (1, .int v1), (2, .int v2), (3, .int v3), (4, .int v4), (5, .int v5)]) hx hb dX7_find_112 hl (k := 8) rfl (by rw [e112]; rfl) (by decide) rfl (fun ls hl => ?_)
            refine lv_goto (tgt := 20) hx hb dX7_find_115 (by decide) ?_
            exact ih20 v1 v2 v3 v4 v5 x110 x112 _ _ _ hI (lv_sub hl [3, 4, 5, 6, 7, 8, 1, 0] rfl) h
          · replace h := if_t h c47
            refine lv_aload_n hx hb dX7_find_50 rfl (lv_at hl 1 rfl) ?_
            refine gX7_shown hC hI tw_33 dX7_find_51 ?_
            refine lv_iload hx hb dX7_find_54 (lv_at hl 7 rfl) ?_
            have g56 := (gd_at h).1
            replace h := (gd_at h).2
            refine r_iald hC hI aX_3 g56 dX7_find_56 ?_
            refine lv_iload_n hx hb dX7_find_57 rfl (lv_at hl 3 rfl) ?_
            refine lv_icmp_ne (tgt := 103) hx hb dX7_find_58 (by decide) (fun c58 => ?_) (fun c58 => ?_)
            · replace h := if_f h c58
              refine lv_aload_n hx hb dX7_find_103 rfl (lv_at hl 1 rfl) ?_
              refine gX7_chain hC hI tw_41 dX7_find_104 ?_
              refine lv_iload hx hb dX7_find_107 (lv_at hl 7 rfl) ?_
              have g109 := (gd_at h).1
              replace h := (gd_at h).2
              refine r_iald hC hI aX_8 g109 dX7_find_109 ?_
              refine lv_topi (fun x110 e110 => ?_)
              replace h := bnd_at h e110
              refine lv_istore (lv' := [(6, .int x110), (8, .int x37), (0, .ref (ad 1)), (1, .int v1), (2, .int v2), (3, .int v3), (4, .int v4), (5, .int v5), (7, .int v7)]) hx hb dX7_find_110 hl (by decide) rfl (fun ls hl => ?_)
              obtain ⟨x112, e112⟩ : ∃ y : Int32, y = (v7 + (1 : Int32)) := ⟨_, rfl⟩
              replace h := bnd_at h e112
              refine lv_iinc (v := x112) (lv' := [(7, .int x112), (6, .int x110), (8, .int x37), (0, .ref (ad 1)), (1, .int v1), (2, .int v2), (3, .int v3), (4, .int v4), (5, .int v5)]) hx hb dX7_find_112 hl (k := 8) rfl (by rw [e112]; rfl) (by decide) rfl (fun ls hl => ?_)
              refine lv_goto (tgt := 20) hx hb dX7_find_115 (by decide) ?_
              exact ih20 v1 v2 v3 v4 v5 x110 x112 _ _ _ hI (lv_sub hl [3, 4, 5, 6, 7, 8, 1, 0] rfl) h
            · replace h := if_t h c58
              refine lv_aload_n hx hb dX7_find_61 rfl (lv_at hl 1 rfl) ?_
              refine gX7_parts hC hI tw_37 dX7_find_62 ?_
              refine lv_iload hx hb dX7_find_65 (lv_at hl 0 rfl) ?_
              have g67 := (gd_at h).1
              replace h := (gd_at h).2
              refine r_iald hC hI aX_5 g67 dX7_find_67 ?_
              refine lv_iload_n hx hb dX7_find_68 rfl (lv_at hl 4 rfl) ?_
              refine lv_icmp_ne (tgt := 103) hx hb dX7_find_69 (by decide) (fun c69 => ?_) (fun c69 => ?_)
              · replace h := if_f h c69
                refine lv_aload_n hx hb dX7_find_103 rfl (lv_at hl 1 rfl) ?_
                refine gX7_chain hC hI tw_41 dX7_find_104 ?_
                refine lv_iload hx hb dX7_find_107 (lv_at hl 7 rfl) ?_
                have g109 := (gd_at h).1
                replace h := (gd_at h).2
                refine r_iald hC hI aX_8 g109 dX7_find_109 ?_
                refine lv_topi (fun x110 e110 => ?_)
                replace h := bnd_at h e110
                refine lv_istore (lv' := [(6, .int x110), (8, .int x37), (0, .ref (ad 1)), (1, .int v1), (2, .int v2), (3, .int v3), (4, .int v4), (5, .int v5), (7, .int v7)]) hx hb dX7_find_110 hl (by decide) rfl (fun ls hl => ?_)
                obtain ⟨x112, e112⟩ : ∃ y : Int32, y = (v7 + (1 : Int32)) := ⟨_, rfl⟩
                replace h := bnd_at h e112
                refine lv_iinc (v := x112) (lv' := [(7, .int x112), (6, .int x110), (8, .int x37), (0, .ref (ad 1)), (1, .int v1), (2, .int v2), (3, .int v3), (4, .int v4), (5, .int v5)]) hx hb dX7_find_112 hl (k := 8) rfl (by rw [e112]; rfl) (by decide) rfl (fun ls hl => ?_)
                refine lv_goto (tgt := 20) hx hb dX7_find_115 (by decide) ?_
                exact ih20 v1 v2 v3 v4 v5 x110 x112 _ _ _ hI (lv_sub hl [3, 4, 5, 6, 7, 8, 1, 0] rfl) h
              · replace h := if_t h c69
                refine lv_aload_n hx hb dX7_find_72 rfl (lv_at hl 1 rfl) ?_
                refine gX7_parts hC hI tw_37 dX7_find_73 ?_
                refine lv_iload hx hb dX7_find_76 (lv_at hl 0 rfl) ?_
                refine lv_iconst (v := 1) hx hb dX7_find_78 (by decide) ?_
                refine lv_iadd hx hb dX7_find_79 ?_
                have g80 := (gd_at h).1
                replace h := (gd_at h).2
                refine r_iald hC hI aX_5 g80 dX7_find_80 ?_
                refine lv_iload hx hb dX7_find_81 (lv_at hl 5 rfl) ?_
                refine lv_icmp_ne (tgt := 103) hx hb dX7_find_83 (by decide) (fun c83 => ?_) (fun c83 => ?_)
                · replace h := if_f h c83
                  refine lv_aload_n hx hb dX7_find_103 rfl (lv_at hl 1 rfl) ?_
                  refine gX7_chain hC hI tw_41 dX7_find_104 ?_
                  refine lv_iload hx hb dX7_find_107 (lv_at hl 7 rfl) ?_
                  have g109 := (gd_at h).1
                  replace h := (gd_at h).2
                  refine r_iald hC hI aX_8 g109 dX7_find_109 ?_
                  refine lv_topi (fun x110 e110 => ?_)
                  replace h := bnd_at h e110
                  refine lv_istore (lv' := [(6, .int x110), (8, .int x37), (0, .ref (ad 1)), (1, .int v1), (2, .int v2), (3, .int v3), (4, .int v4), (5, .int v5), (7, .int v7)]) hx hb dX7_find_110 hl (by decide) rfl (fun ls hl => ?_)
                  obtain ⟨x112, e112⟩ : ∃ y : Int32, y = (v7 + (1 : Int32)) := ⟨_, rfl⟩
                  replace h := bnd_at h e112
                  refine lv_iinc (v := x112) (lv' := [(7, .int x112), (6, .int x110), (8, .int x37), (0, .ref (ad 1)), (1, .int v1), (2, .int v2), (3, .int v3), (4, .int v4), (5, .int v5)]) hx hb dX7_find_112 hl (k := 8) rfl (by rw [e112]; rfl) (by decide) rfl (fun ls hl => ?_)
                  refine lv_goto (tgt := 20) hx hb dX7_find_115 (by decide) ?_
                  exact ih20 v1 v2 v3 v4 v5 x110 x112 _ _ _ hI (lv_sub hl [3, 4, 5, 6, 7, 8, 1, 0] rfl) h
                · replace h := if_t h c83
                  refine lv_aload_n hx hb dX7_find_86 rfl (lv_at hl 1 rfl) ?_
                  refine gX7_parts hC hI tw_37 dX7_find_87 ?_
                  refine lv_iload hx hb dX7_find_90 (lv_at hl 0 rfl) ?_
                  refine lv_iconst (v := 2) hx hb dX7_find_92 (by decide) ?_
                  refine lv_iadd hx hb dX7_find_93 ?_
                  have g94 := (gd_at h).1
                  replace h := (gd_at h).2
                  refine r_iald hC hI aX_5 g94 dX7_find_94 ?_
                  refine lv_iload hx hb dX7_find_95 (lv_at hl 6 rfl) ?_
                  refine lv_icmp_ne (tgt := 103) hx hb dX7_find_97 (by decide) (fun c97 => ?_) (fun c97 => ?_)
                  · replace h := if_f h c97
                    refine lv_aload_n hx hb dX7_find_103 rfl (lv_at hl 1 rfl) ?_
                    refine gX7_chain hC hI tw_41 dX7_find_104 ?_
                    refine lv_iload hx hb dX7_find_107 (lv_at hl 7 rfl) ?_
                    have g109 := (gd_at h).1
                    replace h := (gd_at h).2
                    refine r_iald hC hI aX_8 g109 dX7_find_109 ?_
                    refine lv_topi (fun x110 e110 => ?_)
                    replace h := bnd_at h e110
                    refine lv_istore (lv' := [(6, .int x110), (8, .int x37), (0, .ref (ad 1)), (1, .int v1), (2, .int v2), (3, .int v3), (4, .int v4), (5, .int v5), (7, .int v7)]) hx hb dX7_find_110 hl (by decide) rfl (fun ls hl => ?_)
                    obtain ⟨x112, e112⟩ : ∃ y : Int32, y = (v7 + (1 : Int32)) := ⟨_, rfl⟩
                    replace h := bnd_at h e112
                    refine lv_iinc (v := x112) (lv' := [(7, .int x112), (6, .int x110), (8, .int x37), (0, .ref (ad 1)), (1, .int v1), (2, .int v2), (3, .int v3), (4, .int v4), (5, .int v5)]) hx hb dX7_find_112 hl (k := 8) rfl (by rw [e112]; rfl) (by decide) rfl (fun ls hl => ?_)
                    refine lv_goto (tgt := 20) hx hb dX7_find_115 (by decide) ?_
                    exact ih20 v1 v2 v3 v4 v5 x110 x112 _ _ _ hI (lv_sub hl [3, 4, 5, 6, 7, 8, 1, 0] rfl) h
                  · replace h := if_t h c97
                    refine lv_iload hx hb dX7_find_100 (lv_at hl 7 rfl) ?_
                    exact hret (ret_p _ h) dX7_find_102 hI
  exact w20 FU v1 v2 v3 v4 v5 x15 (0 : Int32) _ _ _ hI (lv_sub hl [2, 3, 4, 5, 6, 7, 1, 0] rfl) h
theorem dX7_findOrMake_0 : decode cX7_findOrMake 0 = .ok (.aload_n 0, 1) := by decide +kernel
theorem dX7_findOrMake_1 : decode cX7_findOrMake 1 = .ok (.iload_n 1, 1) := by decide +kernel
theorem dX7_findOrMake_2 : decode cX7_findOrMake 2 = .ok (.iload_n 2, 1) := by decide +kernel
theorem dX7_findOrMake_3 : decode cX7_findOrMake 3 = .ok (.iload_n 3, 1) := by decide +kernel
theorem dX7_findOrMake_4 : decode cX7_findOrMake 4 = .ok (.iload 4, 2) := by decide +kernel
theorem dX7_findOrMake_6 : decode cX7_findOrMake 6 = .ok (.iload 5, 2) := by decide +kernel
theorem dX7_findOrMake_8 : decode cX7_findOrMake 8 = .ok (.invokevirtual 53, 3) := by decide +kernel
theorem dX7_findOrMake_11 : decode cX7_findOrMake 11 = .ok (.istore 6, 2) := by decide +kernel
theorem dX7_findOrMake_13 : decode cX7_findOrMake 13 = .ok (.iload 6, 2) := by decide +kernel
theorem dX7_findOrMake_15 : decode cX7_findOrMake 15 = .ok (.iconst (-1), 1) := by decide +kernel
theorem dX7_findOrMake_16 : decode cX7_findOrMake 16 = .ok (.if_icmp .ne 12, 3) := by decide +kernel
theorem dX7_findOrMake_19 : decode cX7_findOrMake 19 = .ok (.aload_n 0, 1) := by decide +kernel
theorem dX7_findOrMake_20 : decode cX7_findOrMake 20 = .ok (.getfield 45, 3) := by decide +kernel
theorem dX7_findOrMake_23 : decode cX7_findOrMake 23 = .ok (.bipush 120, 2) := by decide +kernel
theorem dX7_findOrMake_25 : decode cX7_findOrMake 25 = .ok (.if_icmp .lt 6, 3) := by decide +kernel
theorem dX7_findOrMake_28 : decode cX7_findOrMake 28 = .ok (.iload 6, 2) := by decide +kernel
theorem dX7_findOrMake_30 : decode cX7_findOrMake 30 = .ok (.ireturn, 1) := by decide +kernel
theorem dX7_findOrMake_31 : decode cX7_findOrMake 31 = .ok (.aload_n 0, 1) := by decide +kernel
theorem dX7_findOrMake_32 : decode cX7_findOrMake 32 = .ok (.getfield 45, 3) := by decide +kernel
theorem dX7_findOrMake_35 : decode cX7_findOrMake 35 = .ok (.istore 7, 2) := by decide +kernel
theorem dX7_findOrMake_37 : decode cX7_findOrMake 37 = .ok (.aload_n 0, 1) := by decide +kernel
theorem dX7_findOrMake_38 : decode cX7_findOrMake 38 = .ok (.dup, 1) := by decide +kernel
theorem dX7_findOrMake_39 : decode cX7_findOrMake 39 = .ok (.getfield 45, 3) := by decide +kernel
theorem dX7_findOrMake_42 : decode cX7_findOrMake 42 = .ok (.iconst 1, 1) := by decide +kernel
theorem dX7_findOrMake_43 : decode cX7_findOrMake 43 = .ok (.iadd, 1) := by decide +kernel
theorem dX7_findOrMake_44 : decode cX7_findOrMake 44 = .ok (.putfield 45, 3) := by decide +kernel
theorem dX7_findOrMake_47 : decode cX7_findOrMake 47 = .ok (.aload_n 0, 1) := by decide +kernel
theorem dX7_findOrMake_48 : decode cX7_findOrMake 48 = .ok (.getfield 9, 3) := by decide +kernel
theorem dX7_findOrMake_51 : decode cX7_findOrMake 51 = .ok (.iload 7, 2) := by decide +kernel
theorem dX7_findOrMake_53 : decode cX7_findOrMake 53 = .ok (.iload_n 1, 1) := by decide +kernel
theorem dX7_findOrMake_54 : decode cX7_findOrMake 54 = .ok (.iastore, 1) := by decide +kernel
theorem dX7_findOrMake_55 : decode cX7_findOrMake 55 = .ok (.aload_n 0, 1) := by decide +kernel
theorem dX7_findOrMake_56 : decode cX7_findOrMake 56 = .ok (.getfield 15, 3) := by decide +kernel
theorem dX7_findOrMake_59 : decode cX7_findOrMake 59 = .ok (.iload 7, 2) := by decide +kernel
theorem dX7_findOrMake_61 : decode cX7_findOrMake 61 = .ok (.iload_n 2, 1) := by decide +kernel
theorem dX7_findOrMake_62 : decode cX7_findOrMake 62 = .ok (.iastore, 1) := by decide +kernel
theorem dX7_findOrMake_63 : decode cX7_findOrMake 63 = .ok (.aload_n 0, 1) := by decide +kernel
theorem dX7_findOrMake_64 : decode cX7_findOrMake 64 = .ok (.getfield 18, 3) := by decide +kernel
theorem dX7_findOrMake_67 : decode cX7_findOrMake 67 = .ok (.iload 7, 2) := by decide +kernel
theorem dX7_findOrMake_69 : decode cX7_findOrMake 69 = .ok (.iload_n 3, 1) := by decide +kernel
theorem dX7_findOrMake_70 : decode cX7_findOrMake 70 = .ok (.iconst (-1), 1) := by decide +kernel
theorem dX7_findOrMake_71 : decode cX7_findOrMake 71 = .ok (.if_icmp .ne 7, 3) := by decide +kernel
theorem dX7_findOrMake_74 : decode cX7_findOrMake 74 = .ok (.iconst 0, 1) := by decide +kernel
theorem dX7_findOrMake_75 : decode cX7_findOrMake 75 = .ok (.goto 24, 3) := by decide +kernel
theorem dX7_findOrMake_78 : decode cX7_findOrMake 78 = .ok (.iload 4, 2) := by decide +kernel
theorem dX7_findOrMake_80 : decode cX7_findOrMake 80 = .ok (.iconst (-1), 1) := by decide +kernel
theorem dX7_findOrMake_81 : decode cX7_findOrMake 81 = .ok (.if_icmp .ne 7, 3) := by decide +kernel
theorem dX7_findOrMake_84 : decode cX7_findOrMake 84 = .ok (.iconst 1, 1) := by decide +kernel
theorem dX7_findOrMake_85 : decode cX7_findOrMake 85 = .ok (.goto 14, 3) := by decide +kernel
theorem dX7_findOrMake_88 : decode cX7_findOrMake 88 = .ok (.iload 5, 2) := by decide +kernel
theorem dX7_findOrMake_90 : decode cX7_findOrMake 90 = .ok (.iconst (-1), 1) := by decide +kernel
theorem dX7_findOrMake_91 : decode cX7_findOrMake 91 = .ok (.if_icmp .ne 7, 3) := by decide +kernel
theorem dX7_findOrMake_94 : decode cX7_findOrMake 94 = .ok (.iconst 2, 1) := by decide +kernel
theorem dX7_findOrMake_95 : decode cX7_findOrMake 95 = .ok (.goto 4, 3) := by decide +kernel
theorem dX7_findOrMake_98 : decode cX7_findOrMake 98 = .ok (.iconst 3, 1) := by decide +kernel
theorem dX7_findOrMake_99 : decode cX7_findOrMake 99 = .ok (.iastore, 1) := by decide +kernel
theorem dX7_findOrMake_100 : decode cX7_findOrMake 100 = .ok (.aload_n 0, 1) := by decide +kernel
theorem dX7_findOrMake_101 : decode cX7_findOrMake 101 = .ok (.getfield 21, 3) := by decide +kernel
theorem dX7_findOrMake_104 : decode cX7_findOrMake 104 = .ok (.iconst 3, 1) := by decide +kernel
theorem dX7_findOrMake_105 : decode cX7_findOrMake 105 = .ok (.iload 7, 2) := by decide +kernel
theorem dX7_findOrMake_107 : decode cX7_findOrMake 107 = .ok (.imul, 1) := by decide +kernel
theorem dX7_findOrMake_108 : decode cX7_findOrMake 108 = .ok (.iload_n 3, 1) := by decide +kernel
theorem dX7_findOrMake_109 : decode cX7_findOrMake 109 = .ok (.iastore, 1) := by decide +kernel
theorem dX7_findOrMake_110 : decode cX7_findOrMake 110 = .ok (.aload_n 0, 1) := by decide +kernel
theorem dX7_findOrMake_111 : decode cX7_findOrMake 111 = .ok (.getfield 21, 3) := by decide +kernel
theorem dX7_findOrMake_114 : decode cX7_findOrMake 114 = .ok (.iconst 3, 1) := by decide +kernel
theorem dX7_findOrMake_115 : decode cX7_findOrMake 115 = .ok (.iload 7, 2) := by decide +kernel
theorem dX7_findOrMake_117 : decode cX7_findOrMake 117 = .ok (.imul, 1) := by decide +kernel
theorem dX7_findOrMake_118 : decode cX7_findOrMake 118 = .ok (.iconst 1, 1) := by decide +kernel
theorem dX7_findOrMake_119 : decode cX7_findOrMake 119 = .ok (.iadd, 1) := by decide +kernel
theorem dX7_findOrMake_120 : decode cX7_findOrMake 120 = .ok (.iload 4, 2) := by decide +kernel
theorem dX7_findOrMake_122 : decode cX7_findOrMake 122 = .ok (.iastore, 1) := by decide +kernel
theorem dX7_findOrMake_123 : decode cX7_findOrMake 123 = .ok (.aload_n 0, 1) := by decide +kernel
theorem dX7_findOrMake_124 : decode cX7_findOrMake 124 = .ok (.getfield 21, 3) := by decide +kernel
theorem dX7_findOrMake_127 : decode cX7_findOrMake 127 = .ok (.iconst 3, 1) := by decide +kernel
theorem dX7_findOrMake_128 : decode cX7_findOrMake 128 = .ok (.iload 7, 2) := by decide +kernel
theorem dX7_findOrMake_130 : decode cX7_findOrMake 130 = .ok (.imul, 1) := by decide +kernel
theorem dX7_findOrMake_131 : decode cX7_findOrMake 131 = .ok (.iconst 2, 1) := by decide +kernel
theorem dX7_findOrMake_132 : decode cX7_findOrMake 132 = .ok (.iadd, 1) := by decide +kernel
theorem dX7_findOrMake_133 : decode cX7_findOrMake 133 = .ok (.iload 5, 2) := by decide +kernel
theorem dX7_findOrMake_135 : decode cX7_findOrMake 135 = .ok (.iastore, 1) := by decide +kernel
theorem dX7_findOrMake_136 : decode cX7_findOrMake 136 = .ok (.aload_n 0, 1) := by decide +kernel
theorem dX7_findOrMake_137 : decode cX7_findOrMake 137 = .ok (.getfield 33, 3) := by decide +kernel
theorem dX7_findOrMake_140 : decode cX7_findOrMake 140 = .ok (.iload 7, 2) := by decide +kernel
theorem dX7_findOrMake_142 : decode cX7_findOrMake 142 = .ok (.iconst (-1), 1) := by decide +kernel
theorem dX7_findOrMake_143 : decode cX7_findOrMake 143 = .ok (.iastore, 1) := by decide +kernel
theorem dX7_findOrMake_144 : decode cX7_findOrMake 144 = .ok (.aload_n 0, 1) := by decide +kernel
theorem dX7_findOrMake_145 : decode cX7_findOrMake 145 = .ok (.getfield 24, 3) := by decide +kernel
theorem dX7_findOrMake_148 : decode cX7_findOrMake 148 = .ok (.iload 7, 2) := by decide +kernel
theorem dX7_findOrMake_150 : decode cX7_findOrMake 150 = .ok (.aload_n 0, 1) := by decide +kernel
theorem dX7_findOrMake_151 : decode cX7_findOrMake 151 = .ok (.iload 7, 2) := by decide +kernel
theorem dX7_findOrMake_153 : decode cX7_findOrMake 153 = .ok (.invokevirtual 56, 3) := by decide +kernel
theorem dX7_findOrMake_156 : decode cX7_findOrMake 156 = .ok (.ifCond .eq 12, 3) := by decide +kernel
theorem dX7_findOrMake_159 : decode cX7_findOrMake 159 = .ok (.iconst 1, 1) := by decide +kernel
theorem dX7_findOrMake_160 : decode cX7_findOrMake 160 = .ok (.iload_n 2, 1) := by decide +kernel
theorem dX7_findOrMake_161 : decode cX7_findOrMake 161 = .ok (.bipush 90, 2) := by decide +kernel
theorem dX7_findOrMake_163 : decode cX7_findOrMake 163 = .ok (.isub, 1) := by decide +kernel
theorem dX7_findOrMake_164 : decode cX7_findOrMake 164 = .ok (.ishl, 1) := by decide +kernel
theorem dX7_findOrMake_165 : decode cX7_findOrMake 165 = .ok (.goto 4, 3) := by decide +kernel
theorem dX7_findOrMake_168 : decode cX7_findOrMake 168 = .ok (.iconst 0, 1) := by decide +kernel
theorem dX7_findOrMake_169 : decode cX7_findOrMake 169 = .ok (.iastore, 1) := by decide +kernel
theorem dX7_findOrMake_170 : decode cX7_findOrMake 170 = .ok (.iconst 3, 1) := by decide +kernel
theorem dX7_findOrMake_171 : decode cX7_findOrMake 171 = .ok (.iload 7, 2) := by decide +kernel
theorem dX7_findOrMake_173 : decode cX7_findOrMake 173 = .ok (.imul, 1) := by decide +kernel
theorem dX7_findOrMake_174 : decode cX7_findOrMake 174 = .ok (.istore 8, 2) := by decide +kernel
theorem dX7_findOrMake_176 : decode cX7_findOrMake 176 = .ok (.iload 8, 2) := by decide +kernel
theorem dX7_findOrMake_178 : decode cX7_findOrMake 178 = .ok (.iconst 3, 1) := by decide +kernel
theorem dX7_findOrMake_179 : decode cX7_findOrMake 179 = .ok (.iload 7, 2) := by decide +kernel
theorem dX7_findOrMake_181 : decode cX7_findOrMake 181 = .ok (.imul, 1) := by decide +kernel
theorem dX7_findOrMake_182 : decode cX7_findOrMake 182 = .ok (.aload_n 0, 1) := by decide +kernel
theorem dX7_findOrMake_183 : decode cX7_findOrMake 183 = .ok (.getfield 18, 3) := by decide +kernel
theorem dX7_findOrMake_186 : decode cX7_findOrMake 186 = .ok (.iload 7, 2) := by decide +kernel
theorem dX7_findOrMake_188 : decode cX7_findOrMake 188 = .ok (.iaload, 1) := by decide +kernel
theorem dX7_findOrMake_189 : decode cX7_findOrMake 189 = .ok (.iadd, 1) := by decide +kernel
theorem dX7_findOrMake_190 : decode cX7_findOrMake 190 = .ok (.if_icmp .ge 58, 3) := by decide +kernel
theorem dX7_findOrMake_193 : decode cX7_findOrMake 193 = .ok (.aload_n 0, 1) := by decide +kernel
theorem dX7_findOrMake_194 : decode cX7_findOrMake 194 = .ok (.getfield 21, 3) := by decide +kernel
theorem dX7_findOrMake_197 : decode cX7_findOrMake 197 = .ok (.iload 8, 2) := by decide +kernel
theorem dX7_findOrMake_199 : decode cX7_findOrMake 199 = .ok (.iaload, 1) := by decide +kernel
theorem dX7_findOrMake_200 : decode cX7_findOrMake 200 = .ok (.istore 9, 2) := by decide +kernel
theorem dX7_findOrMake_202 : decode cX7_findOrMake 202 = .ok (.aload_n 0, 1) := by decide +kernel
theorem dX7_findOrMake_203 : decode cX7_findOrMake 203 = .ok (.getfield 24, 3) := by decide +kernel
theorem dX7_findOrMake_206 : decode cX7_findOrMake 206 = .ok (.iload 7, 2) := by decide +kernel
theorem dX7_findOrMake_208 : decode cX7_findOrMake 208 = .ok (.dup2, 1) := by decide +kernel
theorem dX7_findOrMake_209 : decode cX7_findOrMake 209 = .ok (.iaload, 1) := by decide +kernel
theorem dX7_findOrMake_210 : decode cX7_findOrMake 210 = .ok (.aload_n 0, 1) := by decide +kernel
theorem dX7_findOrMake_211 : decode cX7_findOrMake 211 = .ok (.getfield 24, 3) := by decide +kernel
theorem dX7_findOrMake_214 : decode cX7_findOrMake 214 = .ok (.iload 9, 2) := by decide +kernel
theorem dX7_findOrMake_216 : decode cX7_findOrMake 216 = .ok (.iaload, 1) := by decide +kernel
theorem dX7_findOrMake_217 : decode cX7_findOrMake 217 = .ok (.ior, 1) := by decide +kernel
theorem dX7_findOrMake_218 : decode cX7_findOrMake 218 = .ok (.iastore, 1) := by decide +kernel
theorem dX7_findOrMake_219 : decode cX7_findOrMake 219 = .ok (.aload_n 0, 1) := by decide +kernel
theorem dX7_findOrMake_220 : decode cX7_findOrMake 220 = .ok (.getfield 36, 3) := by decide +kernel
theorem dX7_findOrMake_223 : decode cX7_findOrMake 223 = .ok (.iload 8, 2) := by decide +kernel
theorem dX7_findOrMake_225 : decode cX7_findOrMake 225 = .ok (.aload_n 0, 1) := by decide +kernel
theorem dX7_findOrMake_226 : decode cX7_findOrMake 226 = .ok (.getfield 33, 3) := by decide +kernel
theorem dX7_findOrMake_229 : decode cX7_findOrMake 229 = .ok (.iload 9, 2) := by decide +kernel
theorem dX7_findOrMake_231 : decode cX7_findOrMake 231 = .ok (.iaload, 1) := by decide +kernel
theorem dX7_findOrMake_232 : decode cX7_findOrMake 232 = .ok (.iastore, 1) := by decide +kernel
theorem dX7_findOrMake_233 : decode cX7_findOrMake 233 = .ok (.aload_n 0, 1) := by decide +kernel
theorem dX7_findOrMake_234 : decode cX7_findOrMake 234 = .ok (.getfield 33, 3) := by decide +kernel
theorem dX7_findOrMake_237 : decode cX7_findOrMake 237 = .ok (.iload 9, 2) := by decide +kernel
theorem dX7_findOrMake_239 : decode cX7_findOrMake 239 = .ok (.iload 8, 2) := by decide +kernel
theorem dX7_findOrMake_241 : decode cX7_findOrMake 241 = .ok (.iastore, 1) := by decide +kernel
theorem dX7_findOrMake_242 : decode cX7_findOrMake 242 = .ok (.iinc 8 1, 3) := by decide +kernel
theorem dX7_findOrMake_245 : decode cX7_findOrMake 245 = .ok (.goto (-69), 3) := by decide +kernel
theorem dX7_findOrMake_248 : decode cX7_findOrMake 248 = .ok (.iload_n 1, 1) := by decide +kernel
theorem dX7_findOrMake_249 : decode cX7_findOrMake 249 = .ok (.iload_n 2, 1) := by decide +kernel
theorem dX7_findOrMake_250 : decode cX7_findOrMake 250 = .ok (.iload_n 3, 1) := by decide +kernel
theorem dX7_findOrMake_251 : decode cX7_findOrMake 251 = .ok (.iload 4, 2) := by decide +kernel
theorem dX7_findOrMake_253 : decode cX7_findOrMake 253 = .ok (.iload 5, 2) := by decide +kernel
theorem dX7_findOrMake_255 : decode cX7_findOrMake 255 = .ok (.invokestatic 49, 3) := by decide +kernel
theorem dX7_findOrMake_258 : decode cX7_findOrMake 258 = .ok (.istore 8, 2) := by decide +kernel
theorem dX7_findOrMake_260 : decode cX7_findOrMake 260 = .ok (.aload_n 0, 1) := by decide +kernel
theorem dX7_findOrMake_261 : decode cX7_findOrMake 261 = .ok (.getfield 30, 3) := by decide +kernel
theorem dX7_findOrMake_264 : decode cX7_findOrMake 264 = .ok (.iload 7, 2) := by decide +kernel
theorem dX7_findOrMake_266 : decode cX7_findOrMake 266 = .ok (.aload_n 0, 1) := by decide +kernel
theorem dX7_findOrMake_267 : decode cX7_findOrMake 267 = .ok (.getfield 27, 3) := by decide +kernel
theorem dX7_findOrMake_270 : decode cX7_findOrMake 270 = .ok (.iload 8, 2) := by decide +kernel
theorem dX7_findOrMake_272 : decode cX7_findOrMake 272 = .ok (.iaload, 1) := by decide +kernel
theorem dX7_findOrMake_273 : decode cX7_findOrMake 273 = .ok (.iastore, 1) := by decide +kernel
theorem dX7_findOrMake_274 : decode cX7_findOrMake 274 = .ok (.aload_n 0, 1) := by decide +kernel
theorem dX7_findOrMake_275 : decode cX7_findOrMake 275 = .ok (.getfield 27, 3) := by decide +kernel
theorem dX7_findOrMake_278 : decode cX7_findOrMake 278 = .ok (.iload 8, 2) := by decide +kernel
theorem dX7_findOrMake_280 : decode cX7_findOrMake 280 = .ok (.iload 7, 2) := by decide +kernel
theorem dX7_findOrMake_282 : decode cX7_findOrMake 282 = .ok (.iastore, 1) := by decide +kernel
theorem dX7_findOrMake_283 : decode cX7_findOrMake 283 = .ok (.iload 7, 2) := by decide +kernel
theorem dX7_findOrMake_285 : decode cX7_findOrMake 285 = .ok (.ireturn, 1) := by decide +kernel
abbrev rmX7_findOrMake : Room := { frames := 2, cells := 0, slots := 0, locals := 53 }
theorem ywX7_findOrMake : fY yX7_findOrMake "EqualCourt$Terms" cX7_findOrMake 10 (some .int) 5 := ⟨tw_338, tw_339, tw_2, tw_340, by decide +kernel⟩
set_option maxHeartbeats 4000000 in
set_option maxRecDepth 100000 in
theorem cX7_findOrMake_ok {D : va_G} {ad : Nat → Nat} {cy cz : ClassId} {l : Launch} {z : fS} {v1 : Int32} {v2 : Int32} {v3 : Int32} {v4 : Int32} {v5 : Int32} {r : Int32} {τ : fS} (h : fX7_findOrMake z v1 v2 v3 v4 v5 = some (r, τ)) : fMi D 76 ad (cfX ad cy cz) cy cz l yX7_findOrMake cX7_findOrMake 10 (some .int) rmX7_findOrMake [.ref (ad 1), .int v1, .int v2, .int v3, .int v4, .int v5] z r τ := by
  refine f_bodyi (by decide) (Nat.le_of_ble_eq_true rfl) (fun p e s m args below meth c Q hC hret ls hl hI => ?_)
  have hx := hC.1
  have hb := hC.2.1
  have hl : lv_has ls 10 [(0, .ref (ad 1)), (1, .int v1), (2, .int v2), (3, .int v3), (4, .int v4), (5, .int v5)] := hl
  unfold fX7_findOrMake at h
  have w248 : ∀ (v1 : Int32) (v2 : Int32) (v3 : Int32) (v4 : Int32) (v5 : Int32) (v7 : Int32) (z : fS) (H : Heap) (locs : List Loc) (ls : Array Slot), fI D 76 ad (cfX ad cy cz) z s H locs → lv_has ls 10 [(0, .ref (ad 1)), (1, .int v1), (2, .int v2), (3, .int v3), (4, .int v4), (5, .int v5), (7, .int v7)] → jX7_findOrMake_248   v1 v2 v3 v4 v5 v7 z = some (r, τ) → W p l e rmX7_findOrMake s m args below meth c H locs 0 0 Q (F0 m 248 ls []) := by
    intro v1 v2 v3 v4 v5 v7 z H locs ls hI hl h
    unfold jX7_findOrMake_248 at h
    refine lv_iload_n hx hb dX7_findOrMake_248 rfl (lv_at hl 1 rfl) ?_
    refine lv_iload_n hx hb dX7_findOrMake_249 rfl (lv_at hl 2 rfl) ?_
    refine lv_iload_n hx hb dX7_findOrMake_250 rfl (lv_at hl 3 rfl) ?_
    refine lv_iload hx hb dX7_findOrMake_251 (lv_at hl 4 rfl) ?_
    refine lv_iload hx hb dX7_findOrMake_253 (lv_at hl 5 rfl) ?_
    replace h := bp_at h
    obtain ⟨r255, e255, h⟩ := h
    refine r_callsn (rest := []) hC hI tw_347 tw_1 tw_346 (by decide +kernel) (host := "EqualCourt") (index := 49) (np := 5) (by decide) (cX8_slotFor_ok  e255) ⟨Nat.le_of_ble_eq_true rfl, Nat.le_of_ble_eq_true rfl⟩ ⟨rfl, rfl⟩ rfl hl.1 rfl (Nat.le_of_ble_eq_true rfl) dX7_findOrMake_255 (fun H locs hI => ?_)
    refine lv_istore (lv' := [(8, .int r255), (0, .ref (ad 1)), (1, .int v1), (2, .int v2), (3, .int v3), (4, .int v4), (5, .int v5), (7, .int v7)]) hx hb dX7_findOrMake_258 hl (by decide) rfl (fun ls hl => ?_)
    refine lv_aload_n hx hb dX7_findOrMake_260 rfl (lv_at hl 1 rfl) ?_
    refine gX7_chain hC hI tw_41 dX7_findOrMake_261 ?_
    refine lv_iload hx hb dX7_findOrMake_264 (lv_at hl 7 rfl) ?_
    refine lv_aload_n hx hb dX7_findOrMake_266 rfl (lv_at hl 1 rfl) ?_
    refine gX7_buckets hC hI tw_40 dX7_findOrMake_267 ?_
    refine lv_iload hx hb dX7_findOrMake_270 (lv_at hl 0 rfl) ?_
    have g272 := (gd_at h).1
    replace h := (gd_at h).2
    refine r_iald hC hI aX_7 g272 dX7_findOrMake_272 ?_
    have g273 := (gd_at h).1
    replace h := (gd_at h).2
    refine r_iast hC hI aX_8 g273 dX7_findOrMake_273 (fun z273 H locs e273 hI => ?_)
    replace h := bnd_at h e273
    refine lv_aload_n hx hb dX7_findOrMake_274 rfl (lv_at hl 1 rfl) ?_
    refine gX7_buckets hC hI tw_40 dX7_findOrMake_275 ?_
    refine lv_iload hx hb dX7_findOrMake_278 (lv_at hl 0 rfl) ?_
    refine lv_iload hx hb dX7_findOrMake_280 (lv_at hl 7 rfl) ?_
    have g282 := (gd_at h).1
    replace h := (gd_at h).2
    refine r_iast hC hI aX_7 g282 dX7_findOrMake_282 (fun z282 H locs e282 hI => ?_)
    replace h := bnd_at h e282
    refine lv_iload hx hb dX7_findOrMake_283 (lv_at hl 7 rfl) ?_
    exact hret h dX7_findOrMake_285 hI
  have w169 : ∀ (v1 : Int32) (v2 : Int32) (v3 : Int32) (v4 : Int32) (v5 : Int32) (v7 : Int32) (y0 : Int32) (y1 : Int32) (z : fS) (H : Heap) (locs : List Loc) (ls : Array Slot), fI D 76 ad (cfX ad cy cz) z s H locs → lv_has ls 10 [(0, .ref (ad 1)), (1, .int v1), (2, .int v2), (3, .int v3), (4, .int v4), (5, .int v5), (7, .int v7)] → jX7_findOrMake_169   v1 v2 v3 v4 v5 v7 y0 y1 z = some (r, τ) → W p l e rmX7_findOrMake s m args below meth c H locs 0 0 Q (F0 m 169 ls [.int y0, .int y1, .ref (ad 6)]) := by
    intro v1 v2 v3 v4 v5 v7 y0 y1 z H locs ls hI hl h
    unfold jX7_findOrMake_169 at h
    have g169 := (gd_at h).1
    replace h := (gd_at h).2
    refine r_iast hC hI aX_6 g169 dX7_findOrMake_169 (fun z169 H locs e169 hI => ?_)
    replace h := bnd_at h e169
    refine lv_iconst (v := 3) hx hb dX7_findOrMake_170 (by decide) ?_
    refine lv_iload hx hb dX7_findOrMake_171 (lv_at hl 6 rfl) ?_
    refine lv_imul hx hb dX7_findOrMake_173 ?_
    refine lv_topi (fun x174 e174 => ?_)
    replace h := bnd_at h e174
    refine lv_istore (lv' := [(8, .int x174), (0, .ref (ad 1)), (1, .int v1), (2, .int v2), (3, .int v3), (4, .int v4), (5, .int v5), (7, .int v7)]) hx hb dX7_findOrMake_174 hl (by decide) rfl (fun ls hl => ?_)
    have w176 : ∀ (N176 : Nat) (v1 : Int32) (v2 : Int32) (v3 : Int32) (v4 : Int32) (v5 : Int32) (v7 : Int32) (v8 : Int32) (z : fS) (H : Heap) (locs : List Loc) (ls : Array Slot), fI D 76 ad (cfX ad cy cz) z s H locs → lv_has ls 10 [(0, .ref (ad 1)), (1, .int v1), (2, .int v2), (3, .int v3), (4, .int v4), (5, .int v5), (7, .int v7), (8, .int v8)] → lX7_findOrMake_176  (jX7_findOrMake_248   v1 v2 v3 v4 v5 v7) v1 v2 v3 v4 v5 v7 N176 v8 z = some (r, τ) → W p l e rmX7_findOrMake s m args below meth c H locs 0 0 Q (F0 m 176 ls []) := by
      intro N176
      induction N176 with
      | zero =>
        intro v1 v2 v3 v4 v5 v7 v8 z H locs ls hI hl h
        exact none_no h
      | succ N176 ih176 =>
        intro v1 v2 v3 v4 v5 v7 v8 z H locs ls hI hl h
        rw [lX7_findOrMake_176.eq_2] at h
        refine lv_iload hx hb dX7_findOrMake_176 (lv_at hl 7 rfl) ?_
        refine lv_iconst (v := 3) hx hb dX7_findOrMake_178 (by decide) ?_
        refine lv_iload hx hb dX7_findOrMake_179 (lv_at hl 6 rfl) ?_
        refine lv_imul hx hb dX7_findOrMake_181 ?_
        refine lv_aload_n hx hb dX7_findOrMake_182 rfl (lv_at hl 0 rfl) ?_
        refine gX7_sizes hC hI tw_35 dX7_findOrMake_183 ?_
        refine lv_iload hx hb dX7_findOrMake_186 (lv_at hl 6 rfl) ?_
        have g188 := (gd_at h).1
        replace h := (gd_at h).2
        refine r_iald hC hI aX_4 g188 dX7_findOrMake_188 ?_
        refine lv_iadd hx hb dX7_findOrMake_189 ?_
        refine lv_icmp_ge (tgt := 248) hx hb dX7_findOrMake_190 (by decide) (fun c190 => ?_) (fun c190 => ?_)
        · replace h := if_t h c190
          exact w248 v1 v2 v3 v4 v5 v7 z _ _ _ hI (lv_sub hl [0, 1, 2, 3, 4, 5, 6] rfl) h
        · replace h := if_f h c190
          refine lv_aload_n hx hb dX7_findOrMake_193 rfl (lv_at hl 0 rfl) ?_
          refine gX7_parts hC hI tw_37 dX7_findOrMake_194 ?_
          refine lv_iload hx hb dX7_findOrMake_197 (lv_at hl 7 rfl) ?_
          have g199 := (gd_at h).1
          replace h := (gd_at h).2
          refine r_iald hC hI aX_5 g199 dX7_findOrMake_199 ?_
          refine lv_topi (fun x200 e200 => ?_)
          replace h := bnd_at h e200
          refine lv_istore (lv' := [(9, .int x200), (0, .ref (ad 1)), (1, .int v1), (2, .int v2), (3, .int v3), (4, .int v4), (5, .int v5), (7, .int v7), (8, .int v8)]) hx hb dX7_findOrMake_200 hl (by decide) rfl (fun ls hl => ?_)
          refine lv_aload_n hx hb dX7_findOrMake_202 rfl (lv_at hl 1 rfl) ?_
          refine gX7_holes hC hI tw_39 dX7_findOrMake_203 ?_
          refine lv_iload hx hb dX7_findOrMake_206 (lv_at hl 7 rfl) ?_
          refine lv_dup2_11 hx hb dX7_findOrMake_208 rfl rfl ?_
          have g209 := (gd_at h).1
          replace h := (gd_at h).2
          refine r_iald hC hI aX_6 g209 dX7_findOrMake_209 ?_
          refine lv_aload_n hx hb dX7_findOrMake_210 rfl (lv_at hl 1 rfl) ?_
          refine gX7_holes hC hI tw_39 dX7_findOrMake_211 ?_
          refine lv_iload hx hb dX7_findOrMake_214 (lv_at hl 0 rfl) ?_
          have g216 := (gd_at h).1
          replace h := (gd_at h).2
          refine r_iald hC hI aX_6 g216 dX7_findOrMake_216 ?_
          refine lv_ior hx hb dX7_findOrMake_217 ?_
          have g218 := (gd_at h).1
          replace h := (gd_at h).2
          refine r_iast hC hI aX_6 g218 dX7_findOrMake_218 (fun z218 H locs e218 hI => ?_)
          replace h := bnd_at h e218
          refine lv_aload_n hx hb dX7_findOrMake_219 rfl (lv_at hl 1 rfl) ?_
          refine gX7_nextPlace hC hI tw_44 dX7_findOrMake_220 ?_
          refine lv_iload hx hb dX7_findOrMake_223 (lv_at hl 8 rfl) ?_
          refine lv_aload_n hx hb dX7_findOrMake_225 rfl (lv_at hl 1 rfl) ?_
          refine gX7_firstPlace hC hI tw_42 dX7_findOrMake_226 ?_
          refine lv_iload hx hb dX7_findOrMake_229 (lv_at hl 0 rfl) ?_
          have g231 := (gd_at h).1
          replace h := (gd_at h).2
          refine r_iald hC hI aX_9 g231 dX7_findOrMake_231 ?_
          have g232 := (gd_at h).1
          replace h := (gd_at h).2
          refine r_iast hC hI aX_10 g232 dX7_findOrMake_232 (fun z232 H locs e232 hI => ?_)
          replace h := bnd_at h e232
          refine lv_aload_n hx hb dX7_findOrMake_233 rfl (lv_at hl 1 rfl) ?_
          refine gX7_firstPlace hC hI tw_42 dX7_findOrMake_234 ?_
          refine lv_iload hx hb dX7_findOrMake_237 (lv_at hl 0 rfl) ?_
          refine lv_iload hx hb dX7_findOrMake_239 (lv_at hl 8 rfl) ?_
          have g241 := (gd_at h).1
          replace h := (gd_at h).2
          refine r_iast hC hI aX_9 g241 dX7_findOrMake_241 (fun z241 H locs e241 hI => ?_)
          replace h := bnd_at h e241
          obtain ⟨x242, e242⟩ : ∃ y : Int32, y = (v8 + (1 : Int32)) := ⟨_, rfl⟩
          replace h := bnd_at h e242
          refine lv_iinc (v := x242) (lv' := [(8, .int x242), (9, .int x200), (0, .ref (ad 1)), (1, .int v1), (2, .int v2), (3, .int v3), (4, .int v4), (5, .int v5), (7, .int v7)]) hx hb dX7_findOrMake_242 hl (k := 8) rfl (by rw [e242]; rfl) (by decide) rfl (fun ls hl => ?_)
          refine lv_goto (tgt := 176) hx hb dX7_findOrMake_245 (by decide) ?_
          exact ih176 v1 v2 v3 v4 v5 v7 x242 z241 _ _ _ hI (lv_sub hl [2, 3, 4, 5, 6, 7, 8, 0] rfl) h
    exact w176 FU v1 v2 v3 v4 v5 v7 x174 z169 _ _ _ hI (lv_sub hl [1, 2, 3, 4, 5, 6, 7, 0] rfl) h
  have w99 : ∀ (v1 : Int32) (v2 : Int32) (v3 : Int32) (v4 : Int32) (v5 : Int32) (v7 : Int32) (y0 : Int32) (y1 : Int32) (z : fS) (H : Heap) (locs : List Loc) (ls : Array Slot), fI D 76 ad (cfX ad cy cz) z s H locs → lv_has ls 10 [(0, .ref (ad 1)), (1, .int v1), (2, .int v2), (3, .int v3), (4, .int v4), (5, .int v5), (7, .int v7)] → jX7_findOrMake_99   v1 v2 v3 v4 v5 v7 y0 y1 z = some (r, τ) → W p l e rmX7_findOrMake s m args below meth c H locs 0 0 Q (F0 m 99 ls [.int y0, .int y1, .ref (ad 4)]) := by
    intro v1 v2 v3 v4 v5 v7 y0 y1 z H locs ls hI hl h
    unfold jX7_findOrMake_99 at h
    have g99 := (gd_at h).1
    replace h := (gd_at h).2
    refine r_iast hC hI aX_4 g99 dX7_findOrMake_99 (fun z99 H locs e99 hI => ?_)
    replace h := bnd_at h e99
    refine lv_aload_n hx hb dX7_findOrMake_100 rfl (lv_at hl 0 rfl) ?_
    refine gX7_parts hC hI tw_37 dX7_findOrMake_101 ?_
    refine lv_iconst (v := 3) hx hb dX7_findOrMake_104 (by decide) ?_
    refine lv_iload hx hb dX7_findOrMake_105 (lv_at hl 6 rfl) ?_
    refine lv_imul hx hb dX7_findOrMake_107 ?_
    refine lv_iload_n hx hb dX7_findOrMake_108 rfl (lv_at hl 3 rfl) ?_
    have g109 := (gd_at h).1
    replace h := (gd_at h).2
    refine r_iast hC hI aX_5 g109 dX7_findOrMake_109 (fun z109 H locs e109 hI => ?_)
    replace h := bnd_at h e109
    refine lv_aload_n hx hb dX7_findOrMake_110 rfl (lv_at hl 0 rfl) ?_
    refine gX7_parts hC hI tw_37 dX7_findOrMake_111 ?_
    refine lv_iconst (v := 3) hx hb dX7_findOrMake_114 (by decide) ?_
    refine lv_iload hx hb dX7_findOrMake_115 (lv_at hl 6 rfl) ?_
    refine lv_imul hx hb dX7_findOrMake_117 ?_
    refine lv_iconst (v := 1) hx hb dX7_findOrMake_118 (by decide) ?_
    refine lv_iadd hx hb dX7_findOrMake_119 ?_
    refine lv_iload hx hb dX7_findOrMake_120 (lv_at hl 4 rfl) ?_
    have g122 := (gd_at h).1
    replace h := (gd_at h).2
    refine r_iast hC hI aX_5 g122 dX7_findOrMake_122 (fun z122 H locs e122 hI => ?_)
    replace h := bnd_at h e122
    refine lv_aload_n hx hb dX7_findOrMake_123 rfl (lv_at hl 0 rfl) ?_
    refine gX7_parts hC hI tw_37 dX7_findOrMake_124 ?_
    refine lv_iconst (v := 3) hx hb dX7_findOrMake_127 (by decide) ?_
    refine lv_iload hx hb dX7_findOrMake_128 (lv_at hl 6 rfl) ?_
    refine lv_imul hx hb dX7_findOrMake_130 ?_
    refine lv_iconst (v := 2) hx hb dX7_findOrMake_131 (by decide) ?_
    refine lv_iadd hx hb dX7_findOrMake_132 ?_
    refine lv_iload hx hb dX7_findOrMake_133 (lv_at hl 5 rfl) ?_
    have g135 := (gd_at h).1
    replace h := (gd_at h).2
    refine r_iast hC hI aX_5 g135 dX7_findOrMake_135 (fun z135 H locs e135 hI => ?_)
    replace h := bnd_at h e135
    refine lv_aload_n hx hb dX7_findOrMake_136 rfl (lv_at hl 0 rfl) ?_
    refine gX7_firstPlace hC hI tw_42 dX7_findOrMake_137 ?_
    refine lv_iload hx hb dX7_findOrMake_140 (lv_at hl 6 rfl) ?_
    refine lv_iconst (v := -1) hx hb dX7_findOrMake_142 (by decide) ?_
    have g143 := (gd_at h).1
    replace h := (gd_at h).2
    refine r_iast hC hI aX_9 g143 dX7_findOrMake_143 (fun z143 H locs e143 hI => ?_)
    replace h := bnd_at h e143
    refine lv_aload_n hx hb dX7_findOrMake_144 rfl (lv_at hl 0 rfl) ?_
    refine gX7_holes hC hI tw_39 dX7_findOrMake_145 ?_
    refine lv_iload hx hb dX7_findOrMake_148 (lv_at hl 6 rfl) ?_
    refine lv_aload_n hx hb dX7_findOrMake_150 rfl (lv_at hl 0 rfl) ?_
    refine lv_iload hx hb dX7_findOrMake_151 (lv_at hl 6 rfl) ?_
    replace h := bp_at h
    obtain ⟨r153, e153, h⟩ := h
    refine r_calli (rest := [.int v7, .ref (ad 6)]) hC hI oX_1 (C := "EqualCourt$Terms") rfl ywX7_isHole tw_349 (cX7_isHole_ok  e153) ⟨Nat.le_of_ble_eq_true rfl, Nat.le_of_ble_eq_true rfl⟩ ⟨rfl, rfl⟩ rfl hl.1 rfl (Nat.le_of_ble_eq_true rfl) dX7_findOrMake_153 (fun H locs hI => ?_)
    refine lv_if_eq (tgt := 168) hx hb dX7_findOrMake_156 (by decide) (fun c156 => ?_) (fun c156 => ?_)
    · replace h := if_t h c156
      refine lv_iconst (v := 0) hx hb dX7_findOrMake_168 (by decide) ?_
      exact w169 v1 v2 v3 v4 v5 v7 (0 : Int32) v7 z143 _ _ _ hI hl h
    · replace h := if_f h c156
      refine lv_iconst (v := 1) hx hb dX7_findOrMake_159 (by decide) ?_
      refine lv_iload_n hx hb dX7_findOrMake_160 rfl (lv_at hl 2 rfl) ?_
      refine lv_bipush (v := 90) hx hb dX7_findOrMake_161 (by decide) ?_
      refine lv_isub hx hb dX7_findOrMake_163 ?_
      refine lv_ishl hx hb dX7_findOrMake_164 ?_
      refine lv_goto (tgt := 169) hx hb dX7_findOrMake_165 (by decide) ?_
      exact w169 v1 v2 v3 v4 v5 v7 ((1 : Int32) <<< ((v2 - (90 : Int32)) &&& 31)) v7 z143 _ _ _ hI hl h
  refine lv_aload_n hx hb dX7_findOrMake_0 rfl (lv_at hl 0 rfl) ?_
  refine lv_iload_n hx hb dX7_findOrMake_1 rfl (lv_at hl 1 rfl) ?_
  refine lv_iload_n hx hb dX7_findOrMake_2 rfl (lv_at hl 2 rfl) ?_
  refine lv_iload_n hx hb dX7_findOrMake_3 rfl (lv_at hl 3 rfl) ?_
  refine lv_iload hx hb dX7_findOrMake_4 (lv_at hl 4 rfl) ?_
  refine lv_iload hx hb dX7_findOrMake_6 (lv_at hl 5 rfl) ?_
  replace h := bp_at h
  obtain ⟨r8, e8, h⟩ := h
  refine r_calli (rest := []) hC hI oX_1 (C := "EqualCourt$Terms") rfl ywX7_find tw_341 (cX7_find_ok  e8) ⟨Nat.le_of_ble_eq_true rfl, Nat.le_of_ble_eq_true rfl⟩ ⟨rfl, rfl⟩ rfl hl.1 rfl (Nat.le_of_ble_eq_true rfl) dX7_findOrMake_8 (fun H locs hI => ?_)
  refine lv_istore (lv' := [(6, .int r8), (0, .ref (ad 1)), (1, .int v1), (2, .int v2), (3, .int v3), (4, .int v4), (5, .int v5)]) hx hb dX7_findOrMake_11 hl (by decide) rfl (fun ls hl => ?_)
  refine lv_iload hx hb dX7_findOrMake_13 (lv_at hl 0 rfl) ?_
  refine lv_iconst (v := -1) hx hb dX7_findOrMake_15 (by decide) ?_
  refine lv_icmp_ne (tgt := 28) hx hb dX7_findOrMake_16 (by decide) (fun c16 => ?_) (fun c16 => ?_)
  · replace h := if_f h c16
    refine lv_iload hx hb dX7_findOrMake_28 (lv_at hl 0 rfl) ?_
    exact hret h dX7_findOrMake_30 hI
  · replace h := if_t h c16
    refine lv_aload_n hx hb dX7_findOrMake_19 rfl (lv_at hl 1 rfl) ?_
    refine gX7_count hC hI tw_46 dX7_findOrMake_20 ?_
    refine lv_bipush (v := 120) hx hb dX7_findOrMake_23 (by decide) ?_
    refine lv_icmp_lt (tgt := 31) hx hb dX7_findOrMake_25 (by decide) (fun c25 => ?_) (fun c25 => ?_)
    · replace h := if_t h c25
      refine lv_aload_n hx hb dX7_findOrMake_31 rfl (lv_at hl 1 rfl) ?_
      refine gX7_count hC hI tw_46 dX7_findOrMake_32 ?_
      refine lv_topi (fun x35 e35 => ?_)
      replace h := bnd_at h e35
      refine lv_istore (lv' := [(7, .int x35), (6, .int r8), (0, .ref (ad 1)), (1, .int v1), (2, .int v2), (3, .int v3), (4, .int v4), (5, .int v5)]) hx hb dX7_findOrMake_35 hl (by decide) rfl (fun ls hl => ?_)
      refine lv_aload_n hx hb dX7_findOrMake_37 rfl (lv_at hl 2 rfl) ?_
      refine lv_dup hx hb dX7_findOrMake_38 rfl ?_
      refine gX7_count hC hI tw_46 dX7_findOrMake_39 ?_
      refine lv_iconst (v := 1) hx hb dX7_findOrMake_42 (by decide) ?_
      refine lv_iadd hx hb dX7_findOrMake_43 ?_
      refine pX7_count hC hI tw_46 dX7_findOrMake_44 (fun z44 H locs e44 hI => ?_)
      replace h := bnd_at h e44
      refine lv_aload_n hx hb dX7_findOrMake_47 rfl (lv_at hl 2 rfl) ?_
      refine gX7_kinds hC hI tw_31 dX7_findOrMake_48 ?_
      refine lv_iload hx hb dX7_findOrMake_51 (lv_at hl 0 rfl) ?_
      refine lv_iload_n hx hb dX7_findOrMake_53 rfl (lv_at hl 3 rfl) ?_
      have g54 := (gd_at h).1
      replace h := (gd_at h).2
      refine r_iast hC hI aX_2 g54 dX7_findOrMake_54 (fun z54 H locs e54 hI => ?_)
      replace h := bnd_at h e54
      refine lv_aload_n hx hb dX7_findOrMake_55 rfl (lv_at hl 2 rfl) ?_
      refine gX7_shown hC hI tw_33 dX7_findOrMake_56 ?_
      refine lv_iload hx hb dX7_findOrMake_59 (lv_at hl 0 rfl) ?_
      refine lv_iload_n hx hb dX7_findOrMake_61 rfl (lv_at hl 4 rfl) ?_
      have g62 := (gd_at h).1
      replace h := (gd_at h).2
      refine r_iast hC hI aX_3 g62 dX7_findOrMake_62 (fun z62 H locs e62 hI => ?_)
      replace h := bnd_at h e62
      refine lv_aload_n hx hb dX7_findOrMake_63 rfl (lv_at hl 2 rfl) ?_
      refine gX7_sizes hC hI tw_35 dX7_findOrMake_64 ?_
      refine lv_iload hx hb dX7_findOrMake_67 (lv_at hl 0 rfl) ?_
      refine lv_iload_n hx hb dX7_findOrMake_69 rfl (lv_at hl 5 rfl) ?_
      refine lv_iconst (v := -1) hx hb dX7_findOrMake_70 (by decide) ?_
      refine lv_icmp_ne (tgt := 78) hx hb dX7_findOrMake_71 (by decide) (fun c71 => ?_) (fun c71 => ?_)
      · replace h := if_f h c71
        refine lv_iload hx hb dX7_findOrMake_78 (lv_at hl 6 rfl) ?_
        refine lv_iconst (v := -1) hx hb dX7_findOrMake_80 (by decide) ?_
        refine lv_icmp_ne (tgt := 88) hx hb dX7_findOrMake_81 (by decide) (fun c81 => ?_) (fun c81 => ?_)
        · replace h := if_f h c81
          refine lv_iload hx hb dX7_findOrMake_88 (lv_at hl 7 rfl) ?_
          refine lv_iconst (v := -1) hx hb dX7_findOrMake_90 (by decide) ?_
          refine lv_icmp_ne (tgt := 98) hx hb dX7_findOrMake_91 (by decide) (fun c91 => ?_) (fun c91 => ?_)
          · replace h := if_f h c91
            refine lv_iconst (v := 3) hx hb dX7_findOrMake_98 (by decide) ?_
            exact w99 v1 v2 v3 v4 v5 x35 (3 : Int32) x35 z62 _ _ _ hI (lv_sub hl [2, 3, 4, 5, 6, 7, 0] rfl) h
          · replace h := if_t h c91
            refine lv_iconst (v := 2) hx hb dX7_findOrMake_94 (by decide) ?_
            refine lv_goto (tgt := 99) hx hb dX7_findOrMake_95 (by decide) ?_
            exact w99 v1 v2 v3 v4 v5 x35 (2 : Int32) x35 z62 _ _ _ hI (lv_sub hl [2, 3, 4, 5, 6, 7, 0] rfl) h
        · replace h := if_t h c81
          refine lv_iconst (v := 1) hx hb dX7_findOrMake_84 (by decide) ?_
          refine lv_goto (tgt := 99) hx hb dX7_findOrMake_85 (by decide) ?_
          exact w99 v1 v2 v3 v4 v5 x35 (1 : Int32) x35 z62 _ _ _ hI (lv_sub hl [2, 3, 4, 5, 6, 7, 0] rfl) h
      · replace h := if_t h c71
        refine lv_iconst (v := 0) hx hb dX7_findOrMake_74 (by decide) ?_
        refine lv_goto (tgt := 99) hx hb dX7_findOrMake_75 (by decide) ?_
        exact w99 v1 v2 v3 v4 v5 x35 (0 : Int32) x35 z62 _ _ _ hI (lv_sub hl [2, 3, 4, 5, 6, 7, 0] rfl) h
    · replace h := if_f h c25
      refine lv_iload hx hb dX7_findOrMake_28 (lv_at hl 0 rfl) ?_
      exact hret h dX7_findOrMake_30 hI
theorem dX7_unmakeFrom_0 : decode cX7_unmakeFrom 0 = .ok (.aload_n 0, 1) := by decide +kernel
theorem dX7_unmakeFrom_1 : decode cX7_unmakeFrom 1 = .ok (.getfield 45, 3) := by decide +kernel
theorem dX7_unmakeFrom_4 : decode cX7_unmakeFrom 4 = .ok (.iconst 1, 1) := by decide +kernel
theorem dX7_unmakeFrom_5 : decode cX7_unmakeFrom 5 = .ok (.isub, 1) := by decide +kernel
theorem dX7_unmakeFrom_6 : decode cX7_unmakeFrom 6 = .ok (.istore_n 2, 1) := by decide +kernel
theorem dX7_unmakeFrom_7 : decode cX7_unmakeFrom 7 = .ok (.iload_n 2, 1) := by decide +kernel
theorem dX7_unmakeFrom_8 : decode cX7_unmakeFrom 8 = .ok (.iload_n 1, 1) := by decide +kernel
theorem dX7_unmakeFrom_9 : decode cX7_unmakeFrom 9 = .ok (.if_icmp .lt 109, 3) := by decide +kernel
theorem dX7_unmakeFrom_12 : decode cX7_unmakeFrom 12 = .ok (.iconst 3, 1) := by decide +kernel
theorem dX7_unmakeFrom_13 : decode cX7_unmakeFrom 13 = .ok (.iload_n 2, 1) := by decide +kernel
theorem dX7_unmakeFrom_14 : decode cX7_unmakeFrom 14 = .ok (.imul, 1) := by decide +kernel
theorem dX7_unmakeFrom_15 : decode cX7_unmakeFrom 15 = .ok (.istore_n 3, 1) := by decide +kernel
theorem dX7_unmakeFrom_16 : decode cX7_unmakeFrom 16 = .ok (.iload_n 3, 1) := by decide +kernel
theorem dX7_unmakeFrom_17 : decode cX7_unmakeFrom 17 = .ok (.aload_n 0, 1) := by decide +kernel
theorem dX7_unmakeFrom_18 : decode cX7_unmakeFrom 18 = .ok (.getfield 18, 3) := by decide +kernel
theorem dX7_unmakeFrom_21 : decode cX7_unmakeFrom 21 = .ok (.iload_n 2, 1) := by decide +kernel
theorem dX7_unmakeFrom_22 : decode cX7_unmakeFrom 22 = .ok (.iaload, 1) := by decide +kernel
theorem dX7_unmakeFrom_23 : decode cX7_unmakeFrom 23 = .ok (.iadd, 1) := by decide +kernel
theorem dX7_unmakeFrom_24 : decode cX7_unmakeFrom 24 = .ok (.iconst 1, 1) := by decide +kernel
theorem dX7_unmakeFrom_25 : decode cX7_unmakeFrom 25 = .ok (.isub, 1) := by decide +kernel
theorem dX7_unmakeFrom_26 : decode cX7_unmakeFrom 26 = .ok (.istore 4, 2) := by decide +kernel
theorem dX7_unmakeFrom_28 : decode cX7_unmakeFrom 28 = .ok (.iload 4, 2) := by decide +kernel
theorem dX7_unmakeFrom_30 : decode cX7_unmakeFrom 30 = .ok (.iload_n 3, 1) := by decide +kernel
theorem dX7_unmakeFrom_31 : decode cX7_unmakeFrom 31 = .ok (.if_icmp .lt 28, 3) := by decide +kernel
theorem dX7_unmakeFrom_34 : decode cX7_unmakeFrom 34 = .ok (.aload_n 0, 1) := by decide +kernel
theorem dX7_unmakeFrom_35 : decode cX7_unmakeFrom 35 = .ok (.getfield 33, 3) := by decide +kernel
theorem dX7_unmakeFrom_38 : decode cX7_unmakeFrom 38 = .ok (.aload_n 0, 1) := by decide +kernel
theorem dX7_unmakeFrom_39 : decode cX7_unmakeFrom 39 = .ok (.getfield 21, 3) := by decide +kernel
theorem dX7_unmakeFrom_42 : decode cX7_unmakeFrom 42 = .ok (.iload 4, 2) := by decide +kernel
theorem dX7_unmakeFrom_44 : decode cX7_unmakeFrom 44 = .ok (.iaload, 1) := by decide +kernel
theorem dX7_unmakeFrom_45 : decode cX7_unmakeFrom 45 = .ok (.aload_n 0, 1) := by decide +kernel
theorem dX7_unmakeFrom_46 : decode cX7_unmakeFrom 46 = .ok (.getfield 36, 3) := by decide +kernel
theorem dX7_unmakeFrom_49 : decode cX7_unmakeFrom 49 = .ok (.iload 4, 2) := by decide +kernel
theorem dX7_unmakeFrom_51 : decode cX7_unmakeFrom 51 = .ok (.iaload, 1) := by decide +kernel
theorem dX7_unmakeFrom_52 : decode cX7_unmakeFrom 52 = .ok (.iastore, 1) := by decide +kernel
theorem dX7_unmakeFrom_53 : decode cX7_unmakeFrom 53 = .ok (.iinc 4 (-1), 3) := by decide +kernel
theorem dX7_unmakeFrom_56 : decode cX7_unmakeFrom 56 = .ok (.goto (-28), 3) := by decide +kernel
theorem dX7_unmakeFrom_59 : decode cX7_unmakeFrom 59 = .ok (.aload_n 0, 1) := by decide +kernel
theorem dX7_unmakeFrom_60 : decode cX7_unmakeFrom 60 = .ok (.getfield 27, 3) := by decide +kernel
theorem dX7_unmakeFrom_63 : decode cX7_unmakeFrom 63 = .ok (.aload_n 0, 1) := by decide +kernel
theorem dX7_unmakeFrom_64 : decode cX7_unmakeFrom 64 = .ok (.getfield 9, 3) := by decide +kernel
theorem dX7_unmakeFrom_67 : decode cX7_unmakeFrom 67 = .ok (.iload_n 2, 1) := by decide +kernel
theorem dX7_unmakeFrom_68 : decode cX7_unmakeFrom 68 = .ok (.iaload, 1) := by decide +kernel
theorem dX7_unmakeFrom_69 : decode cX7_unmakeFrom 69 = .ok (.aload_n 0, 1) := by decide +kernel
theorem dX7_unmakeFrom_70 : decode cX7_unmakeFrom 70 = .ok (.getfield 15, 3) := by decide +kernel
theorem dX7_unmakeFrom_73 : decode cX7_unmakeFrom 73 = .ok (.iload_n 2, 1) := by decide +kernel
theorem dX7_unmakeFrom_74 : decode cX7_unmakeFrom 74 = .ok (.iaload, 1) := by decide +kernel
theorem dX7_unmakeFrom_75 : decode cX7_unmakeFrom 75 = .ok (.aload_n 0, 1) := by decide +kernel
theorem dX7_unmakeFrom_76 : decode cX7_unmakeFrom 76 = .ok (.getfield 21, 3) := by decide +kernel
theorem dX7_unmakeFrom_79 : decode cX7_unmakeFrom 79 = .ok (.iload_n 3, 1) := by decide +kernel
theorem dX7_unmakeFrom_80 : decode cX7_unmakeFrom 80 = .ok (.iaload, 1) := by decide +kernel
theorem dX7_unmakeFrom_81 : decode cX7_unmakeFrom 81 = .ok (.aload_n 0, 1) := by decide +kernel
theorem dX7_unmakeFrom_82 : decode cX7_unmakeFrom 82 = .ok (.getfield 21, 3) := by decide +kernel
theorem dX7_unmakeFrom_85 : decode cX7_unmakeFrom 85 = .ok (.iload_n 3, 1) := by decide +kernel
theorem dX7_unmakeFrom_86 : decode cX7_unmakeFrom 86 = .ok (.iconst 1, 1) := by decide +kernel
theorem dX7_unmakeFrom_87 : decode cX7_unmakeFrom 87 = .ok (.iadd, 1) := by decide +kernel
theorem dX7_unmakeFrom_88 : decode cX7_unmakeFrom 88 = .ok (.iaload, 1) := by decide +kernel
theorem dX7_unmakeFrom_89 : decode cX7_unmakeFrom 89 = .ok (.aload_n 0, 1) := by decide +kernel
theorem dX7_unmakeFrom_90 : decode cX7_unmakeFrom 90 = .ok (.getfield 21, 3) := by decide +kernel
theorem dX7_unmakeFrom_93 : decode cX7_unmakeFrom 93 = .ok (.iload_n 3, 1) := by decide +kernel
theorem dX7_unmakeFrom_94 : decode cX7_unmakeFrom 94 = .ok (.iconst 2, 1) := by decide +kernel
theorem dX7_unmakeFrom_95 : decode cX7_unmakeFrom 95 = .ok (.iadd, 1) := by decide +kernel
theorem dX7_unmakeFrom_96 : decode cX7_unmakeFrom 96 = .ok (.iaload, 1) := by decide +kernel
theorem dX7_unmakeFrom_97 : decode cX7_unmakeFrom 97 = .ok (.invokestatic 49, 3) := by decide +kernel
theorem dX7_unmakeFrom_100 : decode cX7_unmakeFrom 100 = .ok (.aload_n 0, 1) := by decide +kernel
theorem dX7_unmakeFrom_101 : decode cX7_unmakeFrom 101 = .ok (.getfield 30, 3) := by decide +kernel
theorem dX7_unmakeFrom_104 : decode cX7_unmakeFrom 104 = .ok (.iload_n 2, 1) := by decide +kernel
theorem dX7_unmakeFrom_105 : decode cX7_unmakeFrom 105 = .ok (.iaload, 1) := by decide +kernel
theorem dX7_unmakeFrom_106 : decode cX7_unmakeFrom 106 = .ok (.iastore, 1) := by decide +kernel
theorem dX7_unmakeFrom_107 : decode cX7_unmakeFrom 107 = .ok (.aload_n 0, 1) := by decide +kernel
theorem dX7_unmakeFrom_108 : decode cX7_unmakeFrom 108 = .ok (.iload_n 2, 1) := by decide +kernel
theorem dX7_unmakeFrom_109 : decode cX7_unmakeFrom 109 = .ok (.putfield 45, 3) := by decide +kernel
theorem dX7_unmakeFrom_112 : decode cX7_unmakeFrom 112 = .ok (.iinc 2 (-1), 3) := by decide +kernel
theorem dX7_unmakeFrom_115 : decode cX7_unmakeFrom 115 = .ok (.goto (-108), 3) := by decide +kernel
theorem dX7_unmakeFrom_118 : decode cX7_unmakeFrom 118 = .ok (.return_, 1) := by decide +kernel
abbrev rmX7_unmakeFrom : Room := { frames := 1, cells := 0, slots := 0, locals := 25 }
theorem ywX7_unmakeFrom : fY yX7_unmakeFrom "EqualCourt$Terms" cX7_unmakeFrom 5 none 1 := ⟨tw_765, tw_766, tw_2, tw_767, by decide +kernel⟩
set_option maxHeartbeats 4000000 in
set_option maxRecDepth 100000 in
theorem cX7_unmakeFrom_ok {D : va_G} {ad : Nat → Nat} {cy cz : ClassId} {l : Launch} {z : fS} {v1 : Int32} {τ : fS} (h : fX7_unmakeFrom z v1 = some τ) : fMv D 76 ad (cfX ad cy cz) cy cz l yX7_unmakeFrom cX7_unmakeFrom 5 none rmX7_unmakeFrom [.ref (ad 1), .int v1] z τ := by
  refine f_bodyv (by decide) (Nat.le_of_ble_eq_true rfl) (fun p e s m args below meth c Q hC hret ls hl hI => ?_)
  have hx := hC.1
  have hb := hC.2.1
  have hl : lv_has ls 5 [(0, .ref (ad 1)), (1, .int v1)] := hl
  unfold fX7_unmakeFrom at h
  refine lv_aload_n hx hb dX7_unmakeFrom_0 rfl (lv_at hl 0 rfl) ?_
  refine gX7_count hC hI tw_46 dX7_unmakeFrom_1 ?_
  refine lv_iconst (v := 1) hx hb dX7_unmakeFrom_4 (by decide) ?_
  refine lv_isub hx hb dX7_unmakeFrom_5 ?_
  refine lv_topi (fun x6 e6 => ?_)
  replace h := bnd_at h e6
  refine lv_istore_n (lv' := [(2, .int x6), (0, .ref (ad 1)), (1, .int v1)]) hx hb dX7_unmakeFrom_6 rfl hl (by decide) rfl (fun ls hl => ?_)
  have w7 : ∀ (N7 : Nat) (v1 : Int32) (v2 : Int32) (z : fS) (H : Heap) (locs : List Loc) (ls : Array Slot), fI D 76 ad (cfX ad cy cz) z s H locs → lv_has ls 5 [(0, .ref (ad 1)), (1, .int v1), (2, .int v2)] → lX7_unmakeFrom_7   v1 N7 v2 z = some τ → W p l e rmX7_unmakeFrom s m args below meth c H locs 0 0 Q (F0 m 7 ls []) := by
    intro N7
    induction N7 with
    | zero =>
      intro v1 v2 z H locs ls hI hl h
      exact none_no h
    | succ N7 ih7 =>
      have w59 : ∀ (v1 : Int32) (v2 : Int32) (v3 : Int32) (z : fS) (H : Heap) (locs : List Loc) (ls : Array Slot), fI D 76 ad (cfX ad cy cz) z s H locs → lv_has ls 5 [(0, .ref (ad 1)), (1, .int v1), (2, .int v2), (3, .int v3)] → jX7_unmakeFrom_59  (lX7_unmakeFrom_7   v1 N7) v1 v2 v3 z = some τ → W p l e rmX7_unmakeFrom s m args below meth c H locs 0 0 Q (F0 m 59 ls []) := by
        intro v1 v2 v3 z H locs ls hI hl h
        unfold jX7_unmakeFrom_59 at h
        refine lv_aload_n hx hb dX7_unmakeFrom_59 rfl (lv_at hl 0 rfl) ?_
        refine gX7_buckets hC hI tw_40 dX7_unmakeFrom_60 ?_
        refine lv_aload_n hx hb dX7_unmakeFrom_63 rfl (lv_at hl 0 rfl) ?_
        refine gX7_kinds hC hI tw_31 dX7_unmakeFrom_64 ?_
        refine lv_iload_n hx hb dX7_unmakeFrom_67 rfl (lv_at hl 2 rfl) ?_
        have g68 := (gd_at h).1
        replace h := (gd_at h).2
        refine r_iald hC hI aX_2 g68 dX7_unmakeFrom_68 ?_
        refine lv_aload_n hx hb dX7_unmakeFrom_69 rfl (lv_at hl 0 rfl) ?_
        refine gX7_shown hC hI tw_33 dX7_unmakeFrom_70 ?_
        refine lv_iload_n hx hb dX7_unmakeFrom_73 rfl (lv_at hl 2 rfl) ?_
        have g74 := (gd_at h).1
        replace h := (gd_at h).2
        refine r_iald hC hI aX_3 g74 dX7_unmakeFrom_74 ?_
        refine lv_aload_n hx hb dX7_unmakeFrom_75 rfl (lv_at hl 0 rfl) ?_
        refine gX7_parts hC hI tw_37 dX7_unmakeFrom_76 ?_
        refine lv_iload_n hx hb dX7_unmakeFrom_79 rfl (lv_at hl 3 rfl) ?_
        have g80 := (gd_at h).1
        replace h := (gd_at h).2
        refine r_iald hC hI aX_5 g80 dX7_unmakeFrom_80 ?_
        refine lv_aload_n hx hb dX7_unmakeFrom_81 rfl (lv_at hl 0 rfl) ?_
        refine gX7_parts hC hI tw_37 dX7_unmakeFrom_82 ?_
        refine lv_iload_n hx hb dX7_unmakeFrom_85 rfl (lv_at hl 3 rfl) ?_
        refine lv_iconst (v := 1) hx hb dX7_unmakeFrom_86 (by decide) ?_
        refine lv_iadd hx hb dX7_unmakeFrom_87 ?_
        have g88 := (gd_at h).1
        replace h := (gd_at h).2
        refine r_iald hC hI aX_5 g88 dX7_unmakeFrom_88 ?_
        refine lv_aload_n hx hb dX7_unmakeFrom_89 rfl (lv_at hl 0 rfl) ?_
        refine gX7_parts hC hI tw_37 dX7_unmakeFrom_90 ?_
        refine lv_iload_n hx hb dX7_unmakeFrom_93 rfl (lv_at hl 3 rfl) ?_
        refine lv_iconst (v := 2) hx hb dX7_unmakeFrom_94 (by decide) ?_
        refine lv_iadd hx hb dX7_unmakeFrom_95 ?_
        have g96 := (gd_at h).1
        replace h := (gd_at h).2
        refine r_iald hC hI aX_5 g96 dX7_unmakeFrom_96 ?_
        replace h := bp_at h
        obtain ⟨r97, e97, h⟩ := h
        refine r_callsn (rest := [.ref (ad 7)]) hC hI tw_347 tw_1 tw_346 (by decide +kernel) (host := "EqualCourt") (index := 49) (np := 5) (by decide) (cX8_slotFor_ok  e97) ⟨Nat.le_of_ble_eq_true rfl, Nat.le_of_ble_eq_true rfl⟩ ⟨rfl, rfl⟩ rfl hl.1 rfl (Nat.le_of_ble_eq_true rfl) dX7_unmakeFrom_97 (fun H locs hI => ?_)
        refine lv_aload_n hx hb dX7_unmakeFrom_100 rfl (lv_at hl 0 rfl) ?_
        refine gX7_chain hC hI tw_41 dX7_unmakeFrom_101 ?_
        refine lv_iload_n hx hb dX7_unmakeFrom_104 rfl (lv_at hl 2 rfl) ?_
        have g105 := (gd_at h).1
        replace h := (gd_at h).2
        refine r_iald hC hI aX_8 g105 dX7_unmakeFrom_105 ?_
        have g106 := (gd_at h).1
        replace h := (gd_at h).2
        refine r_iast hC hI aX_7 g106 dX7_unmakeFrom_106 (fun z106 H locs e106 hI => ?_)
        replace h := bnd_at h e106
        refine lv_aload_n hx hb dX7_unmakeFrom_107 rfl (lv_at hl 0 rfl) ?_
        refine lv_iload_n hx hb dX7_unmakeFrom_108 rfl (lv_at hl 2 rfl) ?_
        refine pX7_count hC hI tw_46 dX7_unmakeFrom_109 (fun z109 H locs e109 hI => ?_)
        replace h := bnd_at h e109
        obtain ⟨x112, e112⟩ : ∃ y : Int32, y = (v2 + (-1 : Int32)) := ⟨_, rfl⟩
        replace h := bnd_at h e112
        refine lv_iinc (v := x112) (lv' := [(2, .int x112), (0, .ref (ad 1)), (1, .int v1), (3, .int v3)]) hx hb dX7_unmakeFrom_112 hl (k := 2) rfl (by rw [e112]; rfl) (by decide) rfl (fun ls hl => ?_)
        refine lv_goto (tgt := 7) hx hb dX7_unmakeFrom_115 (by decide) ?_
        exact ih7 v1 x112 z109 _ _ _ hI (lv_sub hl [1, 2, 0] rfl) h
      intro v1 v2 z H locs ls hI hl h
      rw [lX7_unmakeFrom_7.eq_2] at h
      refine lv_iload_n hx hb dX7_unmakeFrom_7 rfl (lv_at hl 2 rfl) ?_
      refine lv_iload_n hx hb dX7_unmakeFrom_8 rfl (lv_at hl 1 rfl) ?_
      refine lv_icmp_lt (tgt := 118) hx hb dX7_unmakeFrom_9 (by decide) (fun c9 => ?_) (fun c9 => ?_)
      · replace h := if_t h c9
        exact hret h dX7_unmakeFrom_118 hI
      · replace h := if_f h c9
        refine lv_iconst (v := 3) hx hb dX7_unmakeFrom_12 (by decide) ?_
        refine lv_iload_n hx hb dX7_unmakeFrom_13 rfl (lv_at hl 2 rfl) ?_
        refine lv_imul hx hb dX7_unmakeFrom_14 ?_
        refine lv_topi (fun x15 e15 => ?_)
        replace h := bnd_at h e15
        refine lv_istore_n (lv' := [(3, .int x15), (0, .ref (ad 1)), (1, .int v1), (2, .int v2)]) hx hb dX7_unmakeFrom_15 rfl hl (by decide) rfl (fun ls hl => ?_)
        refine lv_iload_n hx hb dX7_unmakeFrom_16 rfl (lv_at hl 0 rfl) ?_
        refine lv_aload_n hx hb dX7_unmakeFrom_17 rfl (lv_at hl 1 rfl) ?_
        refine gX7_sizes hC hI tw_35 dX7_unmakeFrom_18 ?_
        refine lv_iload_n hx hb dX7_unmakeFrom_21 rfl (lv_at hl 3 rfl) ?_
        have g22 := (gd_at h).1
        replace h := (gd_at h).2
        refine r_iald hC hI aX_4 g22 dX7_unmakeFrom_22 ?_
        refine lv_iadd hx hb dX7_unmakeFrom_23 ?_
        refine lv_iconst (v := 1) hx hb dX7_unmakeFrom_24 (by decide) ?_
        refine lv_isub hx hb dX7_unmakeFrom_25 ?_
        refine lv_topi (fun x26 e26 => ?_)
        replace h := bnd_at h e26
        refine lv_istore (lv' := [(4, .int x26), (3, .int x15), (0, .ref (ad 1)), (1, .int v1), (2, .int v2)]) hx hb dX7_unmakeFrom_26 hl (by decide) rfl (fun ls hl => ?_)
        have w28 : ∀ (N28 : Nat) (v1 : Int32) (v2 : Int32) (v3 : Int32) (v4 : Int32) (z : fS) (H : Heap) (locs : List Loc) (ls : Array Slot), fI D 76 ad (cfX ad cy cz) z s H locs → lv_has ls 5 [(0, .ref (ad 1)), (1, .int v1), (2, .int v2), (3, .int v3), (4, .int v4)] → lX7_unmakeFrom_28  (jX7_unmakeFrom_59  (lX7_unmakeFrom_7   v1 N7) v1 v2 v3) v1 v2 v3 N28 v4 z = some τ → W p l e rmX7_unmakeFrom s m args below meth c H locs 0 0 Q (F0 m 28 ls []) := by
          intro N28
          induction N28 with
          | zero =>
            intro v1 v2 v3 v4 z H locs ls hI hl h
            exact none_no h
          | succ N28 ih28 =>
            intro v1 v2 v3 v4 z H locs ls hI hl h
            rw [lX7_unmakeFrom_28.eq_2] at h
            refine lv_iload hx hb dX7_unmakeFrom_28 (lv_at hl 4 rfl) ?_
            refine lv_iload_n hx hb dX7_unmakeFrom_30 rfl (lv_at hl 3 rfl) ?_
            refine lv_icmp_lt (tgt := 59) hx hb dX7_unmakeFrom_31 (by decide) (fun c31 => ?_) (fun c31 => ?_)
            · replace h := if_t h c31
              exact w59 v1 v2 v3 z _ _ _ hI (lv_sub hl [0, 1, 2, 3] rfl) h
            · replace h := if_f h c31
              refine lv_aload_n hx hb dX7_unmakeFrom_34 rfl (lv_at hl 0 rfl) ?_
              refine gX7_firstPlace hC hI tw_42 dX7_unmakeFrom_35 ?_
              refine lv_aload_n hx hb dX7_unmakeFrom_38 rfl (lv_at hl 0 rfl) ?_
              refine gX7_parts hC hI tw_37 dX7_unmakeFrom_39 ?_
              refine lv_iload hx hb dX7_unmakeFrom_42 (lv_at hl 4 rfl) ?_
              have g44 := (gd_at h).1
              replace h := (gd_at h).2
              refine r_iald hC hI aX_5 g44 dX7_unmakeFrom_44 ?_
              refine lv_aload_n hx hb dX7_unmakeFrom_45 rfl (lv_at hl 0 rfl) ?_
              refine gX7_nextPlace hC hI tw_44 dX7_unmakeFrom_46 ?_
              refine lv_iload hx hb dX7_unmakeFrom_49 (lv_at hl 4 rfl) ?_
              have g51 := (gd_at h).1
              replace h := (gd_at h).2
              refine r_iald hC hI aX_10 g51 dX7_unmakeFrom_51 ?_
              have g52 := (gd_at h).1
              replace h := (gd_at h).2
              refine r_iast hC hI aX_9 g52 dX7_unmakeFrom_52 (fun z52 H locs e52 hI => ?_)
              replace h := bnd_at h e52
              obtain ⟨x53, e53⟩ : ∃ y : Int32, y = (v4 + (-1 : Int32)) := ⟨_, rfl⟩
              replace h := bnd_at h e53
              refine lv_iinc (v := x53) (lv' := [(4, .int x53), (0, .ref (ad 1)), (1, .int v1), (2, .int v2), (3, .int v3)]) hx hb dX7_unmakeFrom_53 hl (k := 4) rfl (by rw [e53]; rfl) (by decide) rfl (fun ls hl => ?_)
              refine lv_goto (tgt := 28) hx hb dX7_unmakeFrom_56 (by decide) ?_
              exact ih28 v1 v2 v3 x53 z52 _ _ _ hI (lv_sub hl [1, 2, 3, 4, 0] rfl) h
        exact w28 FU v1 v2 x15 x26 z _ _ _ hI (lv_sub hl [2, 3, 4, 1, 0] rfl) h
  exact w7 FU v1 x6 z _ _ _ hI (lv_sub hl [1, 2, 0] rfl) h
