theorem dX0_putPair_0 : decode cX0_putPair 0 = .ok (.aload_n 0, 1) := by decide +kernel
theorem dX0_putPair_1 : decode cX0_putPair 1 = .ok (.getfield 25, 3) := by decide +kernel
theorem dX0_putPair_4 : decode cX0_putPair 4 = .ok (.sipush 242, 3) := by decide +kernel
theorem dX0_putPair_7 : decode cX0_putPair 7 = .ok (.if_icmp .ge 33, 3) := by decide +kernel
theorem dX0_putPair_10 : decode cX0_putPair 10 = .ok (.aload_n 0, 1) := by decide +kernel
theorem dX0_putPair_11 : decode cX0_putPair 11 = .ok (.getfield 11, 3) := by decide +kernel
theorem dX0_putPair_14 : decode cX0_putPair 14 = .ok (.aload_n 0, 1) := by decide +kernel
theorem dX0_putPair_15 : decode cX0_putPair 15 = .ok (.getfield 25, 3) := by decide +kernel
theorem dX0_putPair_18 : decode cX0_putPair 18 = .ok (.iload_n 1, 1) := by decide +kernel
theorem dX0_putPair_19 : decode cX0_putPair 19 = .ok (.iastore, 1) := by decide +kernel
theorem dX0_putPair_20 : decode cX0_putPair 20 = .ok (.aload_n 0, 1) := by decide +kernel
theorem dX0_putPair_21 : decode cX0_putPair 21 = .ok (.getfield 15, 3) := by decide +kernel
theorem dX0_putPair_24 : decode cX0_putPair 24 = .ok (.aload_n 0, 1) := by decide +kernel
theorem dX0_putPair_25 : decode cX0_putPair 25 = .ok (.getfield 25, 3) := by decide +kernel
theorem dX0_putPair_28 : decode cX0_putPair 28 = .ok (.iload_n 2, 1) := by decide +kernel
theorem dX0_putPair_29 : decode cX0_putPair 29 = .ok (.iastore, 1) := by decide +kernel
theorem dX0_putPair_30 : decode cX0_putPair 30 = .ok (.aload_n 0, 1) := by decide +kernel
theorem dX0_putPair_31 : decode cX0_putPair 31 = .ok (.dup, 1) := by decide +kernel
theorem dX0_putPair_32 : decode cX0_putPair 32 = .ok (.getfield 25, 3) := by decide +kernel
theorem dX0_putPair_35 : decode cX0_putPair 35 = .ok (.iconst 1, 1) := by decide +kernel
theorem dX0_putPair_36 : decode cX0_putPair 36 = .ok (.iadd, 1) := by decide +kernel
theorem dX0_putPair_37 : decode cX0_putPair 37 = .ok (.putfield 25, 3) := by decide +kernel
theorem dX0_putPair_40 : decode cX0_putPair 40 = .ok (.return_, 1) := by decide +kernel
abbrev rmX0_putPair : Room := { frames := 0, cells := 0, slots := 0, locals := 0 }
theorem ywX0_putPair : fY yX0_putPair "EqualCourt$Agenda" cX0_putPair 3 none 2 := ⟨tw_379, tw_380, tw_7, tw_381, by decide +kernel⟩
set_option maxHeartbeats 4000000 in
set_option maxRecDepth 100000 in
theorem cX0_putPair_ok {D : va_G} {ad : Nat → Nat} {cy cz : ClassId} {l : Launch} {z : fS} {v1 : Int32} {v2 : Int32} {τ : fS} (h : fX0_putPair z v1 v2 = some τ) : fMv D 76 ad (cfX ad cy cz) cy cz l yX0_putPair cX0_putPair 3 none rmX0_putPair [.ref (ad 23), .int v1, .int v2] z τ := by
  refine f_bodyv (by decide) (Nat.le_of_ble_eq_true rfl) (fun p e s m args below meth c Q hC hret ls hl hI => ?_)
  have hx := hC.1
  have hb := hC.2.1
  have hl : lv_has ls 3 [(0, .ref (ad 23)), (1, .int v1), (2, .int v2)] := hl
  unfold fX0_putPair at h
  refine lv_aload_n hx hb dX0_putPair_0 rfl (lv_at hl 0 rfl) ?_
  refine gX0_pairCount hC hI tw_130 dX0_putPair_1 ?_
  refine lv_sipush (v := 242) hx hb dX0_putPair_4 (by decide) ?_
  refine lv_icmp_ge (tgt := 40) hx hb dX0_putPair_7 (by decide) (fun c7 => ?_) (fun c7 => ?_)
  · replace h := if_t h c7
    exact hret h dX0_putPair_40 hI
  · replace h := if_f h c7
    refine lv_aload_n hx hb dX0_putPair_10 rfl (lv_at hl 0 rfl) ?_
    refine gX0_lefts hC hI tw_126 dX0_putPair_11 ?_
    refine lv_aload_n hx hb dX0_putPair_14 rfl (lv_at hl 0 rfl) ?_
    refine gX0_pairCount hC hI tw_130 dX0_putPair_15 ?_
    refine lv_iload_n hx hb dX0_putPair_18 rfl (lv_at hl 1 rfl) ?_
    have g19 := (gd_at h).1
    replace h := (gd_at h).2
    refine r_iast hC hI aX_24 g19 dX0_putPair_19 (fun z19 H locs e19 hI => ?_)
    replace h := bnd_at h e19
    refine lv_aload_n hx hb dX0_putPair_20 rfl (lv_at hl 0 rfl) ?_
    refine gX0_rights hC hI tw_127 dX0_putPair_21 ?_
    refine lv_aload_n hx hb dX0_putPair_24 rfl (lv_at hl 0 rfl) ?_
    refine gX0_pairCount hC hI tw_130 dX0_putPair_25 ?_
    refine lv_iload_n hx hb dX0_putPair_28 rfl (lv_at hl 2 rfl) ?_
    have g29 := (gd_at h).1
    replace h := (gd_at h).2
    refine r_iast hC hI aX_25 g29 dX0_putPair_29 (fun z29 H locs e29 hI => ?_)
    replace h := bnd_at h e29
    refine lv_aload_n hx hb dX0_putPair_30 rfl (lv_at hl 0 rfl) ?_
    refine lv_dup hx hb dX0_putPair_31 rfl ?_
    refine gX0_pairCount hC hI tw_130 dX0_putPair_32 ?_
    refine lv_iconst (v := 1) hx hb dX0_putPair_35 (by decide) ?_
    refine lv_iadd hx hb dX0_putPair_36 ?_
    refine pX0_pairCount hC hI tw_130 dX0_putPair_37 (fun z37 H locs e37 hI => ?_)
    replace h := bnd_at h e37
    exact hret h dX0_putPair_40 hI
theorem dX0_hasPair_0 : decode cX0_hasPair 0 = .ok (.aload_n 0, 1) := by decide +kernel
theorem dX0_hasPair_1 : decode cX0_hasPair 1 = .ok (.getfield 25, 3) := by decide +kernel
theorem dX0_hasPair_4 : decode cX0_hasPair 4 = .ok (.ifCond .le 7, 3) := by decide +kernel
theorem dX0_hasPair_7 : decode cX0_hasPair 7 = .ok (.iconst 1, 1) := by decide +kernel
theorem dX0_hasPair_8 : decode cX0_hasPair 8 = .ok (.goto 4, 3) := by decide +kernel
theorem dX0_hasPair_11 : decode cX0_hasPair 11 = .ok (.iconst 0, 1) := by decide +kernel
theorem dX0_hasPair_12 : decode cX0_hasPair 12 = .ok (.ireturn, 1) := by decide +kernel
abbrev rmX0_hasPair : Room := { frames := 0, cells := 0, slots := 0, locals := 0 }
theorem ywX0_hasPair : fY yX0_hasPair "EqualCourt$Agenda" cX0_hasPair 1 (some .boolean) 0 := ⟨tw_384, tw_385, tw_7, tw_386, by decide +kernel⟩
set_option maxHeartbeats 4000000 in
set_option maxRecDepth 100000 in
theorem cX0_hasPair_ok {D : va_G} {ad : Nat → Nat} {cy cz : ClassId} {l : Launch} {z : fS}  {r : Int32} (h : fX0_hasPair z = some r) : fMi D 76 ad (cfX ad cy cz) cy cz l yX0_hasPair cX0_hasPair 1 (some .boolean) rmX0_hasPair [.ref (ad 23)] z r z := by
  refine f_bodyz (by decide) (Nat.le_of_ble_eq_true rfl) (fun p e s m args below meth c Q hC hret ls hl hI => ?_)
  have hx := hC.1
  have hb := hC.2.1
  have hl : lv_has ls 1 [(0, .ref (ad 23))] := hl
  unfold fX0_hasPair at h
  refine lv_aload_n hx hb dX0_hasPair_0 rfl (lv_at hl 0 rfl) ?_
  refine gX0_pairCount hC hI tw_130 dX0_hasPair_1 ?_
  refine lv_if_le (tgt := 11) hx hb dX0_hasPair_4 (by decide) (fun c4 => ?_) (fun c4 => ?_)
  · replace h := if_t h c4
    refine lv_iconst (v := 0) hx hb dX0_hasPair_11 (by decide) ?_
    exact hret (ret_p _ h) (by decide) dX0_hasPair_12 hI
  · replace h := if_f h c4
    refine lv_iconst (v := 1) hx hb dX0_hasPair_7 (by decide) ?_
    refine lv_goto (tgt := 12) hx hb dX0_hasPair_8 (by decide) ?_
    exact hret (ret_p _ h) (by decide) dX0_hasPair_12 hI
theorem dX0_lastLeft_0 : decode cX0_lastLeft 0 = .ok (.aload_n 0, 1) := by decide +kernel
theorem dX0_lastLeft_1 : decode cX0_lastLeft 1 = .ok (.getfield 11, 3) := by decide +kernel
theorem dX0_lastLeft_4 : decode cX0_lastLeft 4 = .ok (.aload_n 0, 1) := by decide +kernel
theorem dX0_lastLeft_5 : decode cX0_lastLeft 5 = .ok (.getfield 25, 3) := by decide +kernel
theorem dX0_lastLeft_8 : decode cX0_lastLeft 8 = .ok (.iconst 1, 1) := by decide +kernel
theorem dX0_lastLeft_9 : decode cX0_lastLeft 9 = .ok (.isub, 1) := by decide +kernel
theorem dX0_lastLeft_10 : decode cX0_lastLeft 10 = .ok (.iaload, 1) := by decide +kernel
theorem dX0_lastLeft_11 : decode cX0_lastLeft 11 = .ok (.ireturn, 1) := by decide +kernel
abbrev rmX0_lastLeft : Room := { frames := 0, cells := 0, slots := 0, locals := 0 }
theorem ywX0_lastLeft : fY yX0_lastLeft "EqualCourt$Agenda" cX0_lastLeft 1 (some .int) 0 := ⟨tw_388, tw_389, tw_7, tw_390, by decide +kernel⟩
set_option maxHeartbeats 4000000 in
set_option maxRecDepth 100000 in
theorem cX0_lastLeft_ok {D : va_G} {ad : Nat → Nat} {cy cz : ClassId} {l : Launch} {z : fS}  {r : Int32} (h : fX0_lastLeft z = some r) : fMi D 76 ad (cfX ad cy cz) cy cz l yX0_lastLeft cX0_lastLeft 1 (some .int) rmX0_lastLeft [.ref (ad 23)] z r z := by
  refine f_bodyi (by decide) (Nat.le_of_ble_eq_true rfl) (fun p e s m args below meth c Q hC hret ls hl hI => ?_)
  have hx := hC.1
  have hb := hC.2.1
  have hl : lv_has ls 1 [(0, .ref (ad 23))] := hl
  unfold fX0_lastLeft at h
  refine lv_aload_n hx hb dX0_lastLeft_0 rfl (lv_at hl 0 rfl) ?_
  refine gX0_lefts hC hI tw_126 dX0_lastLeft_1 ?_
  refine lv_aload_n hx hb dX0_lastLeft_4 rfl (lv_at hl 0 rfl) ?_
  refine gX0_pairCount hC hI tw_130 dX0_lastLeft_5 ?_
  refine lv_iconst (v := 1) hx hb dX0_lastLeft_8 (by decide) ?_
  refine lv_isub hx hb dX0_lastLeft_9 ?_
  have g10 := (gd_at h).1
  replace h := (gd_at h).2
  refine r_iald hC hI aX_24 g10 dX0_lastLeft_10 ?_
  exact hret (ret_p _ h) dX0_lastLeft_11 hI
theorem dX0_lastRight_0 : decode cX0_lastRight 0 = .ok (.aload_n 0, 1) := by decide +kernel
theorem dX0_lastRight_1 : decode cX0_lastRight 1 = .ok (.getfield 15, 3) := by decide +kernel
theorem dX0_lastRight_4 : decode cX0_lastRight 4 = .ok (.aload_n 0, 1) := by decide +kernel
theorem dX0_lastRight_5 : decode cX0_lastRight 5 = .ok (.getfield 25, 3) := by decide +kernel
theorem dX0_lastRight_8 : decode cX0_lastRight 8 = .ok (.iconst 1, 1) := by decide +kernel
theorem dX0_lastRight_9 : decode cX0_lastRight 9 = .ok (.isub, 1) := by decide +kernel
theorem dX0_lastRight_10 : decode cX0_lastRight 10 = .ok (.iaload, 1) := by decide +kernel
theorem dX0_lastRight_11 : decode cX0_lastRight 11 = .ok (.ireturn, 1) := by decide +kernel
abbrev rmX0_lastRight : Room := { frames := 0, cells := 0, slots := 0, locals := 0 }
theorem ywX0_lastRight : fY yX0_lastRight "EqualCourt$Agenda" cX0_lastRight 1 (some .int) 0 := ⟨tw_392, tw_393, tw_7, tw_394, by decide +kernel⟩
set_option maxHeartbeats 4000000 in
set_option maxRecDepth 100000 in
theorem cX0_lastRight_ok {D : va_G} {ad : Nat → Nat} {cy cz : ClassId} {l : Launch} {z : fS}  {r : Int32} (h : fX0_lastRight z = some r) : fMi D 76 ad (cfX ad cy cz) cy cz l yX0_lastRight cX0_lastRight 1 (some .int) rmX0_lastRight [.ref (ad 23)] z r z := by
  refine f_bodyi (by decide) (Nat.le_of_ble_eq_true rfl) (fun p e s m args below meth c Q hC hret ls hl hI => ?_)
  have hx := hC.1
  have hb := hC.2.1
  have hl : lv_has ls 1 [(0, .ref (ad 23))] := hl
  unfold fX0_lastRight at h
  refine lv_aload_n hx hb dX0_lastRight_0 rfl (lv_at hl 0 rfl) ?_
  refine gX0_rights hC hI tw_127 dX0_lastRight_1 ?_
  refine lv_aload_n hx hb dX0_lastRight_4 rfl (lv_at hl 0 rfl) ?_
  refine gX0_pairCount hC hI tw_130 dX0_lastRight_5 ?_
  refine lv_iconst (v := 1) hx hb dX0_lastRight_8 (by decide) ?_
  refine lv_isub hx hb dX0_lastRight_9 ?_
  have g10 := (gd_at h).1
  replace h := (gd_at h).2
  refine r_iald hC hI aX_25 g10 dX0_lastRight_10 ?_
  exact hret (ret_p _ h) dX0_lastRight_11 hI
theorem dX0_removePair_0 : decode cX0_removePair 0 = .ok (.aload_n 0, 1) := by decide +kernel
theorem dX0_removePair_1 : decode cX0_removePair 1 = .ok (.dup, 1) := by decide +kernel
theorem dX0_removePair_2 : decode cX0_removePair 2 = .ok (.getfield 25, 3) := by decide +kernel
theorem dX0_removePair_5 : decode cX0_removePair 5 = .ok (.iconst 1, 1) := by decide +kernel
theorem dX0_removePair_6 : decode cX0_removePair 6 = .ok (.isub, 1) := by decide +kernel
theorem dX0_removePair_7 : decode cX0_removePair 7 = .ok (.putfield 25, 3) := by decide +kernel
theorem dX0_removePair_10 : decode cX0_removePair 10 = .ok (.return_, 1) := by decide +kernel
abbrev rmX0_removePair : Room := { frames := 0, cells := 0, slots := 0, locals := 0 }
theorem ywX0_removePair : fY yX0_removePair "EqualCourt$Agenda" cX0_removePair 1 none 0 := ⟨tw_396, tw_397, tw_7, tw_398, by decide +kernel⟩
set_option maxHeartbeats 4000000 in
set_option maxRecDepth 100000 in
theorem cX0_removePair_ok {D : va_G} {ad : Nat → Nat} {cy cz : ClassId} {l : Launch} {z : fS}  {τ : fS} (h : fX0_removePair z = some τ) : fMv D 76 ad (cfX ad cy cz) cy cz l yX0_removePair cX0_removePair 1 none rmX0_removePair [.ref (ad 23)] z τ := by
  refine f_bodyv (by decide) (Nat.le_of_ble_eq_true rfl) (fun p e s m args below meth c Q hC hret ls hl hI => ?_)
  have hx := hC.1
  have hb := hC.2.1
  have hl : lv_has ls 1 [(0, .ref (ad 23))] := hl
  unfold fX0_removePair at h
  refine lv_aload_n hx hb dX0_removePair_0 rfl (lv_at hl 0 rfl) ?_
  refine lv_dup hx hb dX0_removePair_1 rfl ?_
  refine gX0_pairCount hC hI tw_130 dX0_removePair_2 ?_
  refine lv_iconst (v := 1) hx hb dX0_removePair_5 (by decide) ?_
  refine lv_isub hx hb dX0_removePair_6 ?_
  refine pX0_pairCount hC hI tw_130 dX0_removePair_7 (fun z7 H locs e7 hI => ?_)
  replace h := bnd_at h e7
  exact hret h dX0_removePair_10 hI
theorem dX0_putChanged_0 : decode cX0_putChanged 0 = .ok (.aload_n 0, 1) := by decide +kernel
theorem dX0_putChanged_1 : decode cX0_putChanged 1 = .ok (.getfield 21, 3) := by decide +kernel
theorem dX0_putChanged_4 : decode cX0_putChanged 4 = .ok (.iload_n 1, 1) := by decide +kernel
theorem dX0_putChanged_5 : decode cX0_putChanged 5 = .ok (.baload, 1) := by decide +kernel
theorem dX0_putChanged_6 : decode cX0_putChanged 6 = .ok (.ifCond .ne 39, 3) := by decide +kernel
theorem dX0_putChanged_9 : decode cX0_putChanged 9 = .ok (.aload_n 0, 1) := by decide +kernel
theorem dX0_putChanged_10 : decode cX0_putChanged 10 = .ok (.getfield 29, 3) := by decide +kernel
theorem dX0_putChanged_13 : decode cX0_putChanged 13 = .ok (.bipush 120, 2) := by decide +kernel
theorem dX0_putChanged_15 : decode cX0_putChanged 15 = .ok (.if_icmp .ge 30, 3) := by decide +kernel
theorem dX0_putChanged_18 : decode cX0_putChanged 18 = .ok (.aload_n 0, 1) := by decide +kernel
theorem dX0_putChanged_19 : decode cX0_putChanged 19 = .ok (.getfield 21, 3) := by decide +kernel
theorem dX0_putChanged_22 : decode cX0_putChanged 22 = .ok (.iload_n 1, 1) := by decide +kernel
theorem dX0_putChanged_23 : decode cX0_putChanged 23 = .ok (.iconst 1, 1) := by decide +kernel
theorem dX0_putChanged_24 : decode cX0_putChanged 24 = .ok (.bastore, 1) := by decide +kernel
theorem dX0_putChanged_25 : decode cX0_putChanged 25 = .ok (.aload_n 0, 1) := by decide +kernel
theorem dX0_putChanged_26 : decode cX0_putChanged 26 = .ok (.getfield 18, 3) := by decide +kernel
theorem dX0_putChanged_29 : decode cX0_putChanged 29 = .ok (.aload_n 0, 1) := by decide +kernel
theorem dX0_putChanged_30 : decode cX0_putChanged 30 = .ok (.getfield 29, 3) := by decide +kernel
theorem dX0_putChanged_33 : decode cX0_putChanged 33 = .ok (.iload_n 1, 1) := by decide +kernel
theorem dX0_putChanged_34 : decode cX0_putChanged 34 = .ok (.iastore, 1) := by decide +kernel
theorem dX0_putChanged_35 : decode cX0_putChanged 35 = .ok (.aload_n 0, 1) := by decide +kernel
theorem dX0_putChanged_36 : decode cX0_putChanged 36 = .ok (.dup, 1) := by decide +kernel
theorem dX0_putChanged_37 : decode cX0_putChanged 37 = .ok (.getfield 29, 3) := by decide +kernel
theorem dX0_putChanged_40 : decode cX0_putChanged 40 = .ok (.iconst 1, 1) := by decide +kernel
theorem dX0_putChanged_41 : decode cX0_putChanged 41 = .ok (.iadd, 1) := by decide +kernel
theorem dX0_putChanged_42 : decode cX0_putChanged 42 = .ok (.putfield 29, 3) := by decide +kernel
theorem dX0_putChanged_45 : decode cX0_putChanged 45 = .ok (.return_, 1) := by decide +kernel
abbrev rmX0_putChanged : Room := { frames := 0, cells := 0, slots := 0, locals := 0 }
theorem ywX0_putChanged : fY yX0_putChanged "EqualCourt$Agenda" cX0_putChanged 2 none 1 := ⟨tw_371, tw_372, tw_7, tw_373, by decide +kernel⟩
set_option maxHeartbeats 4000000 in
set_option maxRecDepth 100000 in
theorem cX0_putChanged_ok {D : va_G} {ad : Nat → Nat} {cy cz : ClassId} {l : Launch} {z : fS} {v1 : Int32} {τ : fS} (h : fX0_putChanged z v1 = some τ) : fMv D 76 ad (cfX ad cy cz) cy cz l yX0_putChanged cX0_putChanged 2 none rmX0_putChanged [.ref (ad 23), .int v1] z τ := by
  refine f_bodyv (by decide) (Nat.le_of_ble_eq_true rfl) (fun p e s m args below meth c Q hC hret ls hl hI => ?_)
  have hx := hC.1
  have hb := hC.2.1
  have hl : lv_has ls 2 [(0, .ref (ad 23)), (1, .int v1)] := hl
  unfold fX0_putChanged at h
  refine lv_aload_n hx hb dX0_putChanged_0 rfl (lv_at hl 0 rfl) ?_
  refine gX0_waits hC hI tw_129 dX0_putChanged_1 ?_
  refine lv_iload_n hx hb dX0_putChanged_4 rfl (lv_at hl 1 rfl) ?_
  have g5 := (gd_at h).1
  replace h := (gd_at h).2
  refine r_zald hC hI aX_27 g5 dX0_putChanged_5 ?_
  refine lv_if_ne (tgt := 45) hx hb dX0_putChanged_6 (by decide) (fun c6 => ?_) (fun c6 => ?_)
  · replace h := if_f h c6
    exact hret h dX0_putChanged_45 hI
  · replace h := if_t h c6
    refine lv_aload_n hx hb dX0_putChanged_9 rfl (lv_at hl 0 rfl) ?_
    refine gX0_changedCount hC hI tw_131 dX0_putChanged_10 ?_
    refine lv_bipush (v := 120) hx hb dX0_putChanged_13 (by decide) ?_
    refine lv_icmp_ge (tgt := 45) hx hb dX0_putChanged_15 (by decide) (fun c15 => ?_) (fun c15 => ?_)
    · replace h := if_t h c15
      exact hret h dX0_putChanged_45 hI
    · replace h := if_f h c15
      refine lv_aload_n hx hb dX0_putChanged_18 rfl (lv_at hl 0 rfl) ?_
      refine gX0_waits hC hI tw_129 dX0_putChanged_19 ?_
      refine lv_iload_n hx hb dX0_putChanged_22 rfl (lv_at hl 1 rfl) ?_
      refine lv_iconst (v := 1) hx hb dX0_putChanged_23 (by decide) ?_
      have g24 := (gd_at h).1
      replace h := (gd_at h).2
      refine r_zast hC hI aX_27 g24 dX0_putChanged_24 (fun z24 H locs e24 hI => ?_)
      replace h := bnd_at h e24
      refine lv_aload_n hx hb dX0_putChanged_25 rfl (lv_at hl 0 rfl) ?_
      refine gX0_changed hC hI tw_128 dX0_putChanged_26 ?_
      refine lv_aload_n hx hb dX0_putChanged_29 rfl (lv_at hl 0 rfl) ?_
      refine gX0_changedCount hC hI tw_131 dX0_putChanged_30 ?_
      refine lv_iload_n hx hb dX0_putChanged_33 rfl (lv_at hl 1 rfl) ?_
      have g34 := (gd_at h).1
      replace h := (gd_at h).2
      refine r_iast hC hI aX_26 g34 dX0_putChanged_34 (fun z34 H locs e34 hI => ?_)
      replace h := bnd_at h e34
      refine lv_aload_n hx hb dX0_putChanged_35 rfl (lv_at hl 0 rfl) ?_
      refine lv_dup hx hb dX0_putChanged_36 rfl ?_
      refine gX0_changedCount hC hI tw_131 dX0_putChanged_37 ?_
      refine lv_iconst (v := 1) hx hb dX0_putChanged_40 (by decide) ?_
      refine lv_iadd hx hb dX0_putChanged_41 ?_
      refine pX0_changedCount hC hI tw_131 dX0_putChanged_42 (fun z42 H locs e42 hI => ?_)
      replace h := bnd_at h e42
      exact hret h dX0_putChanged_45 hI
theorem dX0_hasChanged_0 : decode cX0_hasChanged 0 = .ok (.aload_n 0, 1) := by decide +kernel
theorem dX0_hasChanged_1 : decode cX0_hasChanged 1 = .ok (.getfield 29, 3) := by decide +kernel
theorem dX0_hasChanged_4 : decode cX0_hasChanged 4 = .ok (.ifCond .le 7, 3) := by decide +kernel
theorem dX0_hasChanged_7 : decode cX0_hasChanged 7 = .ok (.iconst 1, 1) := by decide +kernel
theorem dX0_hasChanged_8 : decode cX0_hasChanged 8 = .ok (.goto 4, 3) := by decide +kernel
theorem dX0_hasChanged_11 : decode cX0_hasChanged 11 = .ok (.iconst 0, 1) := by decide +kernel
theorem dX0_hasChanged_12 : decode cX0_hasChanged 12 = .ok (.ireturn, 1) := by decide +kernel
abbrev rmX0_hasChanged : Room := { frames := 0, cells := 0, slots := 0, locals := 0 }
theorem ywX0_hasChanged : fY yX0_hasChanged "EqualCourt$Agenda" cX0_hasChanged 1 (some .boolean) 0 := ⟨tw_411, tw_412, tw_7, tw_413, by decide +kernel⟩
set_option maxHeartbeats 4000000 in
set_option maxRecDepth 100000 in
theorem cX0_hasChanged_ok {D : va_G} {ad : Nat → Nat} {cy cz : ClassId} {l : Launch} {z : fS}  {r : Int32} (h : fX0_hasChanged z = some r) : fMi D 76 ad (cfX ad cy cz) cy cz l yX0_hasChanged cX0_hasChanged 1 (some .boolean) rmX0_hasChanged [.ref (ad 23)] z r z := by
  refine f_bodyz (by decide) (Nat.le_of_ble_eq_true rfl) (fun p e s m args below meth c Q hC hret ls hl hI => ?_)
  have hx := hC.1
  have hb := hC.2.1
  have hl : lv_has ls 1 [(0, .ref (ad 23))] := hl
  unfold fX0_hasChanged at h
  refine lv_aload_n hx hb dX0_hasChanged_0 rfl (lv_at hl 0 rfl) ?_
  refine gX0_changedCount hC hI tw_131 dX0_hasChanged_1 ?_
  refine lv_if_le (tgt := 11) hx hb dX0_hasChanged_4 (by decide) (fun c4 => ?_) (fun c4 => ?_)
  · replace h := if_t h c4
    refine lv_iconst (v := 0) hx hb dX0_hasChanged_11 (by decide) ?_
    exact hret (ret_p _ h) (by decide) dX0_hasChanged_12 hI
  · replace h := if_f h c4
    refine lv_iconst (v := 1) hx hb dX0_hasChanged_7 (by decide) ?_
    refine lv_goto (tgt := 12) hx hb dX0_hasChanged_8 (by decide) ?_
    exact hret (ret_p _ h) (by decide) dX0_hasChanged_12 hI
theorem dX0_takeChanged_0 : decode cX0_takeChanged 0 = .ok (.aload_n 0, 1) := by decide +kernel
theorem dX0_takeChanged_1 : decode cX0_takeChanged 1 = .ok (.dup, 1) := by decide +kernel
theorem dX0_takeChanged_2 : decode cX0_takeChanged 2 = .ok (.getfield 29, 3) := by decide +kernel
theorem dX0_takeChanged_5 : decode cX0_takeChanged 5 = .ok (.iconst 1, 1) := by decide +kernel
theorem dX0_takeChanged_6 : decode cX0_takeChanged 6 = .ok (.isub, 1) := by decide +kernel
theorem dX0_takeChanged_7 : decode cX0_takeChanged 7 = .ok (.putfield 29, 3) := by decide +kernel
theorem dX0_takeChanged_10 : decode cX0_takeChanged 10 = .ok (.aload_n 0, 1) := by decide +kernel
theorem dX0_takeChanged_11 : decode cX0_takeChanged 11 = .ok (.getfield 18, 3) := by decide +kernel
theorem dX0_takeChanged_14 : decode cX0_takeChanged 14 = .ok (.aload_n 0, 1) := by decide +kernel
theorem dX0_takeChanged_15 : decode cX0_takeChanged 15 = .ok (.getfield 29, 3) := by decide +kernel
theorem dX0_takeChanged_18 : decode cX0_takeChanged 18 = .ok (.iaload, 1) := by decide +kernel
theorem dX0_takeChanged_19 : decode cX0_takeChanged 19 = .ok (.istore_n 1, 1) := by decide +kernel
theorem dX0_takeChanged_20 : decode cX0_takeChanged 20 = .ok (.aload_n 0, 1) := by decide +kernel
theorem dX0_takeChanged_21 : decode cX0_takeChanged 21 = .ok (.getfield 21, 3) := by decide +kernel
theorem dX0_takeChanged_24 : decode cX0_takeChanged 24 = .ok (.iload_n 1, 1) := by decide +kernel
theorem dX0_takeChanged_25 : decode cX0_takeChanged 25 = .ok (.iconst 0, 1) := by decide +kernel
theorem dX0_takeChanged_26 : decode cX0_takeChanged 26 = .ok (.bastore, 1) := by decide +kernel
theorem dX0_takeChanged_27 : decode cX0_takeChanged 27 = .ok (.iload_n 1, 1) := by decide +kernel
theorem dX0_takeChanged_28 : decode cX0_takeChanged 28 = .ok (.ireturn, 1) := by decide +kernel
abbrev rmX0_takeChanged : Room := { frames := 0, cells := 0, slots := 0, locals := 0 }
theorem ywX0_takeChanged : fY yX0_takeChanged "EqualCourt$Agenda" cX0_takeChanged 2 (some .int) 0 := ⟨tw_415, tw_416, tw_7, tw_417, by decide +kernel⟩
set_option maxHeartbeats 4000000 in
set_option maxRecDepth 100000 in
theorem cX0_takeChanged_ok {D : va_G} {ad : Nat → Nat} {cy cz : ClassId} {l : Launch} {z : fS}  {r : Int32} {τ : fS} (h : fX0_takeChanged z = some (r, τ)) : fMi D 76 ad (cfX ad cy cz) cy cz l yX0_takeChanged cX0_takeChanged 2 (some .int) rmX0_takeChanged [.ref (ad 23)] z r τ := by
  refine f_bodyi (by decide) (Nat.le_of_ble_eq_true rfl) (fun p e s m args below meth c Q hC hret ls hl hI => ?_)
  have hx := hC.1
  have hb := hC.2.1
  have hl : lv_has ls 2 [(0, .ref (ad 23))] := hl
  unfold fX0_takeChanged at h
  refine lv_aload_n hx hb dX0_takeChanged_0 rfl (lv_at hl 0 rfl) ?_
  refine lv_dup hx hb dX0_takeChanged_1 rfl ?_
  refine gX0_changedCount hC hI tw_131 dX0_takeChanged_2 ?_
  refine lv_iconst (v := 1) hx hb dX0_takeChanged_5 (by decide) ?_
  refine lv_isub hx hb dX0_takeChanged_6 ?_
  refine pX0_changedCount hC hI tw_131 dX0_takeChanged_7 (fun z7 H locs e7 hI => ?_)
  replace h := bnd_at h e7
  refine lv_aload_n hx hb dX0_takeChanged_10 rfl (lv_at hl 0 rfl) ?_
  refine gX0_changed hC hI tw_128 dX0_takeChanged_11 ?_
  refine lv_aload_n hx hb dX0_takeChanged_14 rfl (lv_at hl 0 rfl) ?_
  refine gX0_changedCount hC hI tw_131 dX0_takeChanged_15 ?_
  have g18 := (gd_at h).1
  replace h := (gd_at h).2
  refine r_iald hC hI aX_26 g18 dX0_takeChanged_18 ?_
  refine lv_topi (fun x19 e19 => ?_)
  replace h := bnd_at h e19
  refine lv_istore_n (lv' := [(1, .int x19), (0, .ref (ad 23))]) hx hb dX0_takeChanged_19 rfl hl (by decide) rfl (fun ls hl => ?_)
  refine lv_aload_n hx hb dX0_takeChanged_20 rfl (lv_at hl 1 rfl) ?_
  refine gX0_waits hC hI tw_129 dX0_takeChanged_21 ?_
  refine lv_iload_n hx hb dX0_takeChanged_24 rfl (lv_at hl 0 rfl) ?_
  refine lv_iconst (v := 0) hx hb dX0_takeChanged_25 (by decide) ?_
  have g26 := (gd_at h).1
  replace h := (gd_at h).2
  refine r_zast hC hI aX_27 g26 dX0_takeChanged_26 (fun z26 H locs e26 hI => ?_)
  replace h := bnd_at h e26
  refine lv_iload_n hx hb dX0_takeChanged_27 rfl (lv_at hl 0 rfl) ?_
  exact hret h dX0_takeChanged_28 hI
theorem dX0_clear_0 : decode cX0_clear 0 = .ok (.aload_n 0, 1) := by decide +kernel
theorem dX0_clear_1 : decode cX0_clear 1 = .ok (.iconst 0, 1) := by decide +kernel
theorem dX0_clear_2 : decode cX0_clear 2 = .ok (.putfield 25, 3) := by decide +kernel
theorem dX0_clear_5 : decode cX0_clear 5 = .ok (.iconst 0, 1) := by decide +kernel
theorem dX0_clear_6 : decode cX0_clear 6 = .ok (.istore_n 1, 1) := by decide +kernel
theorem dX0_clear_7 : decode cX0_clear 7 = .ok (.iload_n 1, 1) := by decide +kernel
theorem dX0_clear_8 : decode cX0_clear 8 = .ok (.aload_n 0, 1) := by decide +kernel
theorem dX0_clear_9 : decode cX0_clear 9 = .ok (.getfield 29, 3) := by decide +kernel
theorem dX0_clear_12 : decode cX0_clear 12 = .ok (.if_icmp .ge 21, 3) := by decide +kernel
theorem dX0_clear_15 : decode cX0_clear 15 = .ok (.aload_n 0, 1) := by decide +kernel
theorem dX0_clear_16 : decode cX0_clear 16 = .ok (.getfield 21, 3) := by decide +kernel
theorem dX0_clear_19 : decode cX0_clear 19 = .ok (.aload_n 0, 1) := by decide +kernel
theorem dX0_clear_20 : decode cX0_clear 20 = .ok (.getfield 18, 3) := by decide +kernel
theorem dX0_clear_23 : decode cX0_clear 23 = .ok (.iload_n 1, 1) := by decide +kernel
theorem dX0_clear_24 : decode cX0_clear 24 = .ok (.iaload, 1) := by decide +kernel
theorem dX0_clear_25 : decode cX0_clear 25 = .ok (.iconst 0, 1) := by decide +kernel
theorem dX0_clear_26 : decode cX0_clear 26 = .ok (.bastore, 1) := by decide +kernel
theorem dX0_clear_27 : decode cX0_clear 27 = .ok (.iinc 1 1, 3) := by decide +kernel
theorem dX0_clear_30 : decode cX0_clear 30 = .ok (.goto (-23), 3) := by decide +kernel
theorem dX0_clear_33 : decode cX0_clear 33 = .ok (.aload_n 0, 1) := by decide +kernel
theorem dX0_clear_34 : decode cX0_clear 34 = .ok (.iconst 0, 1) := by decide +kernel
theorem dX0_clear_35 : decode cX0_clear 35 = .ok (.putfield 29, 3) := by decide +kernel
theorem dX0_clear_38 : decode cX0_clear 38 = .ok (.return_, 1) := by decide +kernel
abbrev rmX0_clear : Room := { frames := 0, cells := 0, slots := 0, locals := 0 }
theorem ywX0_clear : fY yX0_clear "EqualCourt$Agenda" cX0_clear 2 none 0 := ⟨tw_436, tw_437, tw_7, tw_438, by decide +kernel⟩
set_option maxHeartbeats 4000000 in
set_option maxRecDepth 100000 in
theorem cX0_clear_ok {D : va_G} {ad : Nat → Nat} {cy cz : ClassId} {l : Launch} {z : fS}  {τ : fS} (h : fX0_clear z = some τ) : fMv D 76 ad (cfX ad cy cz) cy cz l yX0_clear cX0_clear 2 none rmX0_clear [.ref (ad 23)] z τ := by
  refine f_bodyv (by decide) (Nat.le_of_ble_eq_true rfl) (fun p e s m args below meth c Q hC hret ls hl hI => ?_)
  have hx := hC.1
  have hb := hC.2.1
  have hl : lv_has ls 2 [(0, .ref (ad 23))] := hl
  unfold fX0_clear at h
  refine lv_aload_n hx hb dX0_clear_0 rfl (lv_at hl 0 rfl) ?_
  refine lv_iconst (v := 0) hx hb dX0_clear_1 (by decide) ?_
  refine pX0_pairCount hC hI tw_130 dX0_clear_2 (fun z2 H locs e2 hI => ?_)
  replace h := bnd_at h e2
  refine lv_iconst (v := 0) hx hb dX0_clear_5 (by decide) ?_
  refine lv_istore_n (lv' := [(1, .int (0 : Int32)), (0, .ref (ad 23))]) hx hb dX0_clear_6 rfl hl (by decide) rfl (fun ls hl => ?_)
  have w7 : ∀ (N7 : Nat) (v1 : Int32) (z : fS) (H : Heap) (locs : List Loc) (ls : Array Slot), fI D 76 ad (cfX ad cy cz) z s H locs → lv_has ls 2 [(0, .ref (ad 23)), (1, .int v1)] → lX0_clear_7    N7 v1 z = some τ → W p l e rmX0_clear s m args below meth c H locs 0 0 Q (F0 m 7 ls []) := by
    intro N7
    induction N7 with
    | zero =>
      intro v1 z H locs ls hI hl h
      exact none_no h
    | succ N7 ih7 =>
      intro v1 z H locs ls hI hl h
      rw [lX0_clear_7.eq_2] at h
      refine lv_iload_n hx hb dX0_clear_7 rfl (lv_at hl 1 rfl) ?_
      refine lv_aload_n hx hb dX0_clear_8 rfl (lv_at hl 0 rfl) ?_
      refine gX0_changedCount hC hI tw_131 dX0_clear_9 ?_
      refine lv_icmp_ge (tgt := 33) hx hb dX0_clear_12 (by decide) (fun c12 => ?_) (fun c12 => ?_)
      · replace h := if_t h c12
        refine lv_aload_n hx hb dX0_clear_33 rfl (lv_at hl 0 rfl) ?_
        refine lv_iconst (v := 0) hx hb dX0_clear_34 (by decide) ?_
        refine pX0_changedCount hC hI tw_131 dX0_clear_35 (fun z35 H locs e35 hI => ?_)
        replace h := bnd_at h e35
        exact hret h dX0_clear_38 hI
      · replace h := if_f h c12
        refine lv_aload_n hx hb dX0_clear_15 rfl (lv_at hl 0 rfl) ?_
        refine gX0_waits hC hI tw_129 dX0_clear_16 ?_
        refine lv_aload_n hx hb dX0_clear_19 rfl (lv_at hl 0 rfl) ?_
        refine gX0_changed hC hI tw_128 dX0_clear_20 ?_
        refine lv_iload_n hx hb dX0_clear_23 rfl (lv_at hl 1 rfl) ?_
        have g24 := (gd_at h).1
        replace h := (gd_at h).2
        refine r_iald hC hI aX_26 g24 dX0_clear_24 ?_
        refine lv_iconst (v := 0) hx hb dX0_clear_25 (by decide) ?_
        have g26 := (gd_at h).1
        replace h := (gd_at h).2
        refine r_zast hC hI aX_27 g26 dX0_clear_26 (fun z26 H locs e26 hI => ?_)
        replace h := bnd_at h e26
        obtain ⟨x27, e27⟩ : ∃ y : Int32, y = (v1 + (1 : Int32)) := ⟨_, rfl⟩
        replace h := bnd_at h e27
        refine lv_iinc (v := x27) (lv' := [(1, .int x27), (0, .ref (ad 23))]) hx hb dX0_clear_27 hl (k := 1) rfl (by rw [e27]; rfl) (by decide) rfl (fun ls hl => ?_)
        refine lv_goto (tgt := 7) hx hb dX0_clear_30 (by decide) ?_
        exact ih7  x27 z26 _ _ _ hI (lv_sub hl [1, 0] rfl) h
  exact w7 FU  (0 : Int32) z2 _ _ _ hI (lv_sub hl [1, 0] rfl) h
theorem dX1_count_0 : decode cX1_count 0 = .ok (.aload_n 0, 1) := by decide +kernel
theorem dX1_count_1 : decode cX1_count 1 = .ok (.getfield 15, 3) := by decide +kernel
theorem dX1_count_4 : decode cX1_count 4 = .ok (.ireturn, 1) := by decide +kernel
abbrev rmX1_count : Room := { frames := 0, cells := 0, slots := 0, locals := 0 }
theorem ywX1_count : fY yX1_count "EqualCourt$Core" cX1_count 1 (some .int) 0 := ⟨tw_567, tw_568, tw_6, tw_569, by decide +kernel⟩
set_option maxHeartbeats 4000000 in
set_option maxRecDepth 100000 in
theorem cX1_count_ok {D : va_G} {ad : Nat → Nat} {cy cz : ClassId} {l : Launch} {z : fS} {pb : Nat} (hpb : isK pb) {r : Int32} (h : fX1_count pb z = some r) : fMi D 76 ad (cfX ad cy cz) cy cz l yX1_count cX1_count 1 (some .int) rmX1_count [.ref (ad pb)] z r z := by
  refine f_bodyi (by decide) (Nat.le_of_ble_eq_true rfl) (fun p e s m args below meth c Q hC hret ls hl hI => ?_)
  have hx := hC.1
  have hb := hC.2.1
  have hl : lv_has ls 1 [(0, .ref (ad pb))] := hl
  unfold fX1_count at h
  refine lv_aload_n hx hb dX1_count_0 rfl (lv_at hl 0 rfl) ?_
  refine gX1_count hpb hC hI tw_114 dX1_count_1 ?_
  exact hret (ret_p _ h) dX1_count_4 hI
theorem dX1_at_0 : decode cX1_at 0 = .ok (.iload_n 1, 1) := by decide +kernel
theorem dX1_at_1 : decode cX1_at 1 = .ok (.ifCond .lt 20, 3) := by decide +kernel
theorem dX1_at_4 : decode cX1_at 4 = .ok (.iload_n 1, 1) := by decide +kernel
theorem dX1_at_5 : decode cX1_at 5 = .ok (.aload_n 0, 1) := by decide +kernel
theorem dX1_at_6 : decode cX1_at 6 = .ok (.getfield 15, 3) := by decide +kernel
theorem dX1_at_9 : decode cX1_at 9 = .ok (.if_icmp .ge 12, 3) := by decide +kernel
theorem dX1_at_12 : decode cX1_at 12 = .ok (.aload_n 0, 1) := by decide +kernel
theorem dX1_at_13 : decode cX1_at 13 = .ok (.getfield 9, 3) := by decide +kernel
theorem dX1_at_16 : decode cX1_at 16 = .ok (.iload_n 1, 1) := by decide +kernel
theorem dX1_at_17 : decode cX1_at 17 = .ok (.iaload, 1) := by decide +kernel
theorem dX1_at_18 : decode cX1_at 18 = .ok (.goto 4, 3) := by decide +kernel
theorem dX1_at_21 : decode cX1_at 21 = .ok (.iconst (-1), 1) := by decide +kernel
theorem dX1_at_22 : decode cX1_at 22 = .ok (.ireturn, 1) := by decide +kernel
abbrev rmX1_at : Room := { frames := 0, cells := 0, slots := 0, locals := 0 }
theorem ywX1_at : fY yX1_at "EqualCourt$Core" cX1_at 2 (some .int) 1 := ⟨tw_571, tw_572, tw_6, tw_573, by decide +kernel⟩
set_option maxHeartbeats 4000000 in
set_option maxRecDepth 100000 in
theorem cX1_at_ok {D : va_G} {ad : Nat → Nat} {cy cz : ClassId} {l : Launch} {z : fS} {pb : Nat} (hpb : isK pb) {v1 : Int32} {r : Int32} (h : fX1_at pb z v1 = some r) : fMi D 76 ad (cfX ad cy cz) cy cz l yX1_at cX1_at 2 (some .int) rmX1_at [.ref (ad pb), .int v1] z r z := by
  refine f_bodyi (by decide) (Nat.le_of_ble_eq_true rfl) (fun p e s m args below meth c Q hC hret ls hl hI => ?_)
  have hx := hC.1
  have hb := hC.2.1
  have hl : lv_has ls 2 [(0, .ref (ad pb)), (1, .int v1)] := hl
  unfold fX1_at at h
  refine lv_iload_n hx hb dX1_at_0 rfl (lv_at hl 1 rfl) ?_
  refine lv_if_lt (tgt := 21) hx hb dX1_at_1 (by decide) (fun c1 => ?_) (fun c1 => ?_)
  · replace h := if_t h c1
    refine lv_iconst (v := -1) hx hb dX1_at_21 (by decide) ?_
    exact hret (ret_p _ h) dX1_at_22 hI
  · replace h := if_f h c1
    refine lv_iload_n hx hb dX1_at_4 rfl (lv_at hl 1 rfl) ?_
    refine lv_aload_n hx hb dX1_at_5 rfl (lv_at hl 0 rfl) ?_
    refine gX1_count hpb hC hI tw_114 dX1_at_6 ?_
    refine lv_icmp_ge (tgt := 21) hx hb dX1_at_9 (by decide) (fun c9 => ?_) (fun c9 => ?_)
    · replace h := if_t h c9
      refine lv_iconst (v := -1) hx hb dX1_at_21 (by decide) ?_
      exact hret (ret_p _ h) dX1_at_22 hI
    · replace h := if_f h c9
      refine lv_aload_n hx hb dX1_at_12 rfl (lv_at hl 0 rfl) ?_
      refine gX1_items hpb hC hI tw_113 dX1_at_13 ?_
      refine lv_iload_n hx hb dX1_at_16 rfl (lv_at hl 1 rfl) ?_
      have g17 := (gd_at h).1
      replace h := (gd_at h).2
      refine r_iald hC hI (aK_1 hpb) g17 dX1_at_17 ?_
      refine lv_goto (tgt := 22) hx hb dX1_at_18 (by decide) ?_
      exact hret (ret_p _ h) dX1_at_22 hI
theorem dX1_add_0 : decode cX1_add 0 = .ok (.aload_n 0, 1) := by decide +kernel
theorem dX1_add_1 : decode cX1_add 1 = .ok (.getfield 15, 3) := by decide +kernel
theorem dX1_add_4 : decode cX1_add 4 = .ok (.bipush 100, 2) := by decide +kernel
theorem dX1_add_6 : decode cX1_add 6 = .ok (.if_icmp .ge 23, 3) := by decide +kernel
theorem dX1_add_9 : decode cX1_add 9 = .ok (.aload_n 0, 1) := by decide +kernel
theorem dX1_add_10 : decode cX1_add 10 = .ok (.getfield 9, 3) := by decide +kernel
theorem dX1_add_13 : decode cX1_add 13 = .ok (.aload_n 0, 1) := by decide +kernel
theorem dX1_add_14 : decode cX1_add 14 = .ok (.getfield 15, 3) := by decide +kernel
theorem dX1_add_17 : decode cX1_add 17 = .ok (.iload_n 1, 1) := by decide +kernel
theorem dX1_add_18 : decode cX1_add 18 = .ok (.iastore, 1) := by decide +kernel
theorem dX1_add_19 : decode cX1_add 19 = .ok (.aload_n 0, 1) := by decide +kernel
theorem dX1_add_20 : decode cX1_add 20 = .ok (.dup, 1) := by decide +kernel
theorem dX1_add_21 : decode cX1_add 21 = .ok (.getfield 15, 3) := by decide +kernel
theorem dX1_add_24 : decode cX1_add 24 = .ok (.iconst 1, 1) := by decide +kernel
theorem dX1_add_25 : decode cX1_add 25 = .ok (.iadd, 1) := by decide +kernel
theorem dX1_add_26 : decode cX1_add 26 = .ok (.putfield 15, 3) := by decide +kernel
theorem dX1_add_29 : decode cX1_add 29 = .ok (.return_, 1) := by decide +kernel
abbrev rmX1_add : Room := { frames := 0, cells := 0, slots := 0, locals := 0 }
theorem ywX1_add : fY yX1_add "EqualCourt$Core" cX1_add 2 none 1 := ⟨tw_579, tw_580, tw_6, tw_581, by decide +kernel⟩
set_option maxHeartbeats 4000000 in
set_option maxRecDepth 100000 in
theorem cX1_add_ok {D : va_G} {ad : Nat → Nat} {cy cz : ClassId} {l : Launch} {z : fS} {pb : Nat} (hpb : isK pb) {v1 : Int32} {τ : fS} (h : fX1_add pb z v1 = some τ) : fMv D 76 ad (cfX ad cy cz) cy cz l yX1_add cX1_add 2 none rmX1_add [.ref (ad pb), .int v1] z τ := by
  refine f_bodyv (by decide) (Nat.le_of_ble_eq_true rfl) (fun p e s m args below meth c Q hC hret ls hl hI => ?_)
  have hx := hC.1
  have hb := hC.2.1
  have hl : lv_has ls 2 [(0, .ref (ad pb)), (1, .int v1)] := hl
  unfold fX1_add at h
  refine lv_aload_n hx hb dX1_add_0 rfl (lv_at hl 0 rfl) ?_
  refine gX1_count hpb hC hI tw_114 dX1_add_1 ?_
  refine lv_bipush (v := 100) hx hb dX1_add_4 (by decide) ?_
  refine lv_icmp_ge (tgt := 29) hx hb dX1_add_6 (by decide) (fun c6 => ?_) (fun c6 => ?_)
  · replace h := if_t h c6
    exact hret h dX1_add_29 hI
  · replace h := if_f h c6
    refine lv_aload_n hx hb dX1_add_9 rfl (lv_at hl 0 rfl) ?_
    refine gX1_items hpb hC hI tw_113 dX1_add_10 ?_
    refine lv_aload_n hx hb dX1_add_13 rfl (lv_at hl 0 rfl) ?_
    refine gX1_count hpb hC hI tw_114 dX1_add_14 ?_
    refine lv_iload_n hx hb dX1_add_17 rfl (lv_at hl 1 rfl) ?_
    have g18 := (gd_at h).1
    replace h := (gd_at h).2
    refine r_iast hC hI (aK_1 hpb) g18 dX1_add_18 (fun z18 H locs e18 hI => ?_)
    replace h := bnd_at h e18
    refine lv_aload_n hx hb dX1_add_19 rfl (lv_at hl 0 rfl) ?_
    refine lv_dup hx hb dX1_add_20 rfl ?_
    refine gX1_count hpb hC hI tw_114 dX1_add_21 ?_
    refine lv_iconst (v := 1) hx hb dX1_add_24 (by decide) ?_
    refine lv_iadd hx hb dX1_add_25 ?_
    refine pX1_count hpb hC hI tw_114 dX1_add_26 (fun z26 H locs e26 hI => ?_)
    replace h := bnd_at h e26
    exact hret h dX1_add_29 hI
theorem dX1_clear_0 : decode cX1_clear 0 = .ok (.aload_n 0, 1) := by decide +kernel
theorem dX1_clear_1 : decode cX1_clear 1 = .ok (.iconst 0, 1) := by decide +kernel
theorem dX1_clear_2 : decode cX1_clear 2 = .ok (.putfield 15, 3) := by decide +kernel
theorem dX1_clear_5 : decode cX1_clear 5 = .ok (.return_, 1) := by decide +kernel
abbrev rmX1_clear : Room := { frames := 0, cells := 0, slots := 0, locals := 0 }
theorem ywX1_clear : fY yX1_clear "EqualCourt$Core" cX1_clear 1 none 0 := ⟨tw_563, tw_564, tw_6, tw_565, by decide +kernel⟩
set_option maxHeartbeats 4000000 in
set_option maxRecDepth 100000 in
theorem cX1_clear_ok {D : va_G} {ad : Nat → Nat} {cy cz : ClassId} {l : Launch} {z : fS} {pb : Nat} (hpb : isK pb) {τ : fS} (h : fX1_clear pb z = some τ) : fMv D 76 ad (cfX ad cy cz) cy cz l yX1_clear cX1_clear 1 none rmX1_clear [.ref (ad pb)] z τ := by
  refine f_bodyv (by decide) (Nat.le_of_ble_eq_true rfl) (fun p e s m args below meth c Q hC hret ls hl hI => ?_)
  have hx := hC.1
  have hb := hC.2.1
  have hl : lv_has ls 1 [(0, .ref (ad pb))] := hl
  unfold fX1_clear at h
  refine lv_aload_n hx hb dX1_clear_0 rfl (lv_at hl 0 rfl) ?_
  refine lv_iconst (v := 0) hx hb dX1_clear_1 (by decide) ?_
  refine pX1_count hpb hC hI tw_114 dX1_clear_2 (fun z2 H locs e2 hI => ?_)
  replace h := bnd_at h e2
  exact hret h dX1_clear_5 hI
theorem dX5_count_0 : decode cX5_count 0 = .ok (.aload_n 0, 1) := by decide +kernel
theorem dX5_count_1 : decode cX5_count 1 = .ok (.getfield 28, 3) := by decide +kernel
theorem dX5_count_4 : decode cX5_count 4 = .ok (.ireturn, 1) := by decide +kernel
abbrev rmX5_count : Room := { frames := 0, cells := 0, slots := 0, locals := 0 }
theorem ywX5_count : fY yX5_count "EqualCourt$Sayings" cX5_count 1 (some .int) 0 := ⟨tw_490, tw_491, tw_4, tw_492, by decide +kernel⟩
set_option maxHeartbeats 4000000 in
set_option maxRecDepth 100000 in
theorem cX5_count_ok {D : va_G} {ad : Nat → Nat} {cy cz : ClassId} {l : Launch} {z : fS}  {r : Int32} (h : fX5_count z = some r) : fMi D 76 ad (cfX ad cy cz) cy cz l yX5_count cX5_count 1 (some .int) rmX5_count [.ref (ad 11)] z r z := by
  refine f_bodyi (by decide) (Nat.le_of_ble_eq_true rfl) (fun p e s m args below meth c Q hC hret ls hl hI => ?_)
  have hx := hC.1
  have hb := hC.2.1
  have hl : lv_has ls 1 [(0, .ref (ad 11))] := hl
  unfold fX5_count at h
  refine lv_aload_n hx hb dX5_count_0 rfl (lv_at hl 0 rfl) ?_
  refine gX5_count hC hI tw_80 dX5_count_1 ?_
  exact hret (ret_p _ h) dX5_count_4 hI
theorem dX5_takenCount_0 : decode cX5_takenCount 0 = .ok (.aload_n 0, 1) := by decide +kernel
theorem dX5_takenCount_1 : decode cX5_takenCount 1 = .ok (.getfield 32, 3) := by decide +kernel
theorem dX5_takenCount_4 : decode cX5_takenCount 4 = .ok (.ireturn, 1) := by decide +kernel
abbrev rmX5_takenCount : Room := { frames := 0, cells := 0, slots := 0, locals := 0 }
theorem ywX5_takenCount : fY yX5_takenCount "EqualCourt$Sayings" cX5_takenCount 1 (some .int) 0 := ⟨tw_494, tw_495, tw_4, tw_496, by decide +kernel⟩
set_option maxHeartbeats 4000000 in
set_option maxRecDepth 100000 in
theorem cX5_takenCount_ok {D : va_G} {ad : Nat → Nat} {cy cz : ClassId} {l : Launch} {z : fS}  {r : Int32} (h : fX5_takenCount z = some r) : fMi D 76 ad (cfX ad cy cz) cy cz l yX5_takenCount cX5_takenCount 1 (some .int) rmX5_takenCount [.ref (ad 11)] z r z := by
  refine f_bodyi (by decide) (Nat.le_of_ble_eq_true rfl) (fun p e s m args below meth c Q hC hret ls hl hI => ?_)
  have hx := hC.1
  have hb := hC.2.1
  have hl : lv_has ls 1 [(0, .ref (ad 11))] := hl
  unfold fX5_takenCount at h
  refine lv_aload_n hx hb dX5_takenCount_0 rfl (lv_at hl 0 rfl) ?_
  refine gX5_takenCount hC hI tw_81 dX5_takenCount_1 ?_
  exact hret (ret_p _ h) dX5_takenCount_4 hI
theorem dX5_levels_0 : decode cX5_levels 0 = .ok (.aload_n 0, 1) := by decide +kernel
theorem dX5_levels_1 : decode cX5_levels 1 = .ok (.getfield 35, 3) := by decide +kernel
theorem dX5_levels_4 : decode cX5_levels 4 = .ok (.ireturn, 1) := by decide +kernel
abbrev rmX5_levels : Room := { frames := 0, cells := 0, slots := 0, locals := 0 }
theorem ywX5_levels : fY yX5_levels "EqualCourt$Sayings" cX5_levels 1 (some .int) 0 := ⟨tw_502, tw_503, tw_4, tw_504, by decide +kernel⟩
set_option maxHeartbeats 4000000 in
set_option maxRecDepth 100000 in
theorem cX5_levels_ok {D : va_G} {ad : Nat → Nat} {cy cz : ClassId} {l : Launch} {z : fS}  {r : Int32} (h : fX5_levels z = some r) : fMi D 76 ad (cfX ad cy cz) cy cz l yX5_levels cX5_levels 1 (some .int) rmX5_levels [.ref (ad 11)] z r z := by
  refine f_bodyi (by decide) (Nat.le_of_ble_eq_true rfl) (fun p e s m args below meth c Q hC hret ls hl hI => ?_)
  have hx := hC.1
  have hb := hC.2.1
  have hl : lv_has ls 1 [(0, .ref (ad 11))] := hl
  unfold fX5_levels at h
  refine lv_aload_n hx hb dX5_levels_0 rfl (lv_at hl 0 rfl) ?_
  refine gX5_levels hC hI tw_82 dX5_levels_1 ?_
  exact hret (ret_p _ h) dX5_levels_4 hI
theorem dX5_has_0 : decode cX5_has 0 = .ok (.iload_n 1, 1) := by decide +kernel
theorem dX5_has_1 : decode cX5_has 1 = .ok (.ifCond .lt 15, 3) := by decide +kernel
theorem dX5_has_4 : decode cX5_has 4 = .ok (.iload_n 1, 1) := by decide +kernel
theorem dX5_has_5 : decode cX5_has 5 = .ok (.aload_n 0, 1) := by decide +kernel
theorem dX5_has_6 : decode cX5_has 6 = .ok (.getfield 28, 3) := by decide +kernel
theorem dX5_has_9 : decode cX5_has 9 = .ok (.if_icmp .ge 7, 3) := by decide +kernel
theorem dX5_has_12 : decode cX5_has 12 = .ok (.iconst 1, 1) := by decide +kernel
theorem dX5_has_13 : decode cX5_has 13 = .ok (.goto 4, 3) := by decide +kernel
theorem dX5_has_16 : decode cX5_has 16 = .ok (.iconst 0, 1) := by decide +kernel
theorem dX5_has_17 : decode cX5_has 17 = .ok (.ireturn, 1) := by decide +kernel
abbrev rmX5_has : Room := { frames := 0, cells := 0, slots := 0, locals := 0 }
theorem ywX5_has : fY yX5_has "EqualCourt$Sayings" cX5_has 2 (some .boolean) 1 := ⟨tw_604, tw_605, tw_4, tw_606, by decide +kernel⟩
set_option maxHeartbeats 4000000 in
set_option maxRecDepth 100000 in
theorem cX5_has_ok {D : va_G} {ad : Nat → Nat} {cy cz : ClassId} {l : Launch} {z : fS} {v1 : Int32} {r : Int32} (h : fX5_has z v1 = some r) : fMi D 76 ad (cfX ad cy cz) cy cz l yX5_has cX5_has 2 (some .boolean) rmX5_has [.ref (ad 11), .int v1] z r z := by
  refine f_bodyz (by decide) (Nat.le_of_ble_eq_true rfl) (fun p e s m args below meth c Q hC hret ls hl hI => ?_)
  have hx := hC.1
  have hb := hC.2.1
  have hl : lv_has ls 2 [(0, .ref (ad 11)), (1, .int v1)] := hl
  unfold fX5_has at h
  refine lv_iload_n hx hb dX5_has_0 rfl (lv_at hl 1 rfl) ?_
  refine lv_if_lt (tgt := 16) hx hb dX5_has_1 (by decide) (fun c1 => ?_) (fun c1 => ?_)
  · replace h := if_t h c1
    refine lv_iconst (v := 0) hx hb dX5_has_16 (by decide) ?_
    exact hret (ret_p _ h) (by decide) dX5_has_17 hI
  · replace h := if_f h c1
    refine lv_iload_n hx hb dX5_has_4 rfl (lv_at hl 1 rfl) ?_
    refine lv_aload_n hx hb dX5_has_5 rfl (lv_at hl 0 rfl) ?_
    refine gX5_count hC hI tw_80 dX5_has_6 ?_
    refine lv_icmp_ge (tgt := 16) hx hb dX5_has_9 (by decide) (fun c9 => ?_) (fun c9 => ?_)
    · replace h := if_t h c9
      refine lv_iconst (v := 0) hx hb dX5_has_16 (by decide) ?_
      exact hret (ret_p _ h) (by decide) dX5_has_17 hI
    · replace h := if_f h c9
      refine lv_iconst (v := 1) hx hb dX5_has_12 (by decide) ?_
      refine lv_goto (tgt := 17) hx hb dX5_has_13 (by decide) ?_
      exact hret (ret_p _ h) (by decide) dX5_has_17 hI
theorem dX5_isFull_0 : decode cX5_isFull 0 = .ok (.aload_n 0, 1) := by decide +kernel
theorem dX5_isFull_1 : decode cX5_isFull 1 = .ok (.getfield 28, 3) := by decide +kernel
theorem dX5_isFull_4 : decode cX5_isFull 4 = .ok (.bipush 100, 2) := by decide +kernel
theorem dX5_isFull_6 : decode cX5_isFull 6 = .ok (.if_icmp .lt 7, 3) := by decide +kernel
theorem dX5_isFull_9 : decode cX5_isFull 9 = .ok (.iconst 1, 1) := by decide +kernel
theorem dX5_isFull_10 : decode cX5_isFull 10 = .ok (.goto 4, 3) := by decide +kernel
theorem dX5_isFull_13 : decode cX5_isFull 13 = .ok (.iconst 0, 1) := by decide +kernel
theorem dX5_isFull_14 : decode cX5_isFull 14 = .ok (.ireturn, 1) := by decide +kernel
abbrev rmX5_isFull : Room := { frames := 0, cells := 0, slots := 0, locals := 0 }
theorem ywX5_isFull : fY yX5_isFull "EqualCourt$Sayings" cX5_isFull 1 (some .boolean) 0 := ⟨tw_518, tw_519, tw_4, tw_520, by decide +kernel⟩
set_option maxHeartbeats 4000000 in
set_option maxRecDepth 100000 in
theorem cX5_isFull_ok {D : va_G} {ad : Nat → Nat} {cy cz : ClassId} {l : Launch} {z : fS}  {r : Int32} (h : fX5_isFull z = some r) : fMi D 76 ad (cfX ad cy cz) cy cz l yX5_isFull cX5_isFull 1 (some .boolean) rmX5_isFull [.ref (ad 11)] z r z := by
  refine f_bodyz (by decide) (Nat.le_of_ble_eq_true rfl) (fun p e s m args below meth c Q hC hret ls hl hI => ?_)
  have hx := hC.1
  have hb := hC.2.1
  have hl : lv_has ls 1 [(0, .ref (ad 11))] := hl
  unfold fX5_isFull at h
  refine lv_aload_n hx hb dX5_isFull_0 rfl (lv_at hl 0 rfl) ?_
  refine gX5_count hC hI tw_80 dX5_isFull_1 ?_
  refine lv_bipush (v := 100) hx hb dX5_isFull_4 (by decide) ?_
  refine lv_icmp_lt (tgt := 13) hx hb dX5_isFull_6 (by decide) (fun c6 => ?_) (fun c6 => ?_)
  · replace h := if_t h c6
    refine lv_iconst (v := 0) hx hb dX5_isFull_13 (by decide) ?_
    exact hret (ret_p _ h) (by decide) dX5_isFull_14 hI
  · replace h := if_f h c6
    refine lv_iconst (v := 1) hx hb dX5_isFull_9 (by decide) ?_
    refine lv_goto (tgt := 14) hx hb dX5_isFull_10 (by decide) ?_
    exact hret (ret_p _ h) (by decide) dX5_isFull_14 hI
theorem dX5_isSame_0 : decode cX5_isSame 0 = .ok (.aload_n 0, 1) := by decide +kernel
theorem dX5_isSame_1 : decode cX5_isSame 1 = .ok (.getfield 9, 3) := by decide +kernel
theorem dX5_isSame_4 : decode cX5_isSame 4 = .ok (.iload_n 1, 1) := by decide +kernel
theorem dX5_isSame_5 : decode cX5_isSame 5 = .ok (.baload, 1) := by decide +kernel
theorem dX5_isSame_6 : decode cX5_isSame 6 = .ok (.ireturn, 1) := by decide +kernel
abbrev rmX5_isSame : Room := { frames := 0, cells := 0, slots := 0, locals := 0 }
theorem ywX5_isSame : fY yX5_isSame "EqualCourt$Sayings" cX5_isSame 2 (some .boolean) 1 := ⟨tw_543, tw_544, tw_4, tw_545, by decide +kernel⟩
set_option maxHeartbeats 4000000 in
set_option maxRecDepth 100000 in
theorem cX5_isSame_ok {D : va_G} {ad : Nat → Nat} {cy cz : ClassId} {l : Launch} {z : fS} {v1 : Int32} {r : Int32} (h : fX5_isSame z v1 = some r) : fMi D 76 ad (cfX ad cy cz) cy cz l yX5_isSame cX5_isSame 2 (some .boolean) rmX5_isSame [.ref (ad 11), .int v1] z r z := by
  refine f_bodyz (by decide) (Nat.le_of_ble_eq_true rfl) (fun p e s m args below meth c Q hC hret ls hl hI => ?_)
  have hx := hC.1
  have hb := hC.2.1
  have hl : lv_has ls 2 [(0, .ref (ad 11)), (1, .int v1)] := hl
  unfold fX5_isSame at h
  refine lv_aload_n hx hb dX5_isSame_0 rfl (lv_at hl 0 rfl) ?_
  refine gX5_same hC hI tw_75 dX5_isSame_1 ?_
  refine lv_iload_n hx hb dX5_isSame_4 rfl (lv_at hl 1 rfl) ?_
  have g5 := (gd_at h).1
  replace h := (gd_at h).2
  refine r_zald hC hI aX_12 g5 dX5_isSame_5 ?_
  have g6 := (gd_at h).1
  replace h := (gd_at h).2
  exact hret (ret_p _ h) g6 dX5_isSame_6 hI
theorem dX5_left_0 : decode cX5_left 0 = .ok (.aload_n 0, 1) := by decide +kernel
theorem dX5_left_1 : decode cX5_left 1 = .ok (.getfield 15, 3) := by decide +kernel
theorem dX5_left_4 : decode cX5_left 4 = .ok (.iload_n 1, 1) := by decide +kernel
theorem dX5_left_5 : decode cX5_left 5 = .ok (.iaload, 1) := by decide +kernel
theorem dX5_left_6 : decode cX5_left 6 = .ok (.ireturn, 1) := by decide +kernel
abbrev rmX5_left : Room := { frames := 0, cells := 0, slots := 0, locals := 0 }
theorem ywX5_left : fY yX5_left "EqualCourt$Sayings" cX5_left 2 (some .int) 1 := ⟨tw_547, tw_548, tw_4, tw_549, by decide +kernel⟩
set_option maxHeartbeats 4000000 in
set_option maxRecDepth 100000 in
theorem cX5_left_ok {D : va_G} {ad : Nat → Nat} {cy cz : ClassId} {l : Launch} {z : fS} {v1 : Int32} {r : Int32} (h : fX5_left z v1 = some r) : fMi D 76 ad (cfX ad cy cz) cy cz l yX5_left cX5_left 2 (some .int) rmX5_left [.ref (ad 11), .int v1] z r z := by
  refine f_bodyi (by decide) (Nat.le_of_ble_eq_true rfl) (fun p e s m args below meth c Q hC hret ls hl hI => ?_)
  have hx := hC.1
  have hb := hC.2.1
  have hl : lv_has ls 2 [(0, .ref (ad 11)), (1, .int v1)] := hl
  unfold fX5_left at h
  refine lv_aload_n hx hb dX5_left_0 rfl (lv_at hl 0 rfl) ?_
  refine gX5_lefts hC hI tw_76 dX5_left_1 ?_
  refine lv_iload_n hx hb dX5_left_4 rfl (lv_at hl 1 rfl) ?_
  have g5 := (gd_at h).1
  replace h := (gd_at h).2
  refine r_iald hC hI aX_13 g5 dX5_left_5 ?_
  exact hret (ret_p _ h) dX5_left_6 hI
theorem dX5_right_0 : decode cX5_right 0 = .ok (.aload_n 0, 1) := by decide +kernel
theorem dX5_right_1 : decode cX5_right 1 = .ok (.getfield 19, 3) := by decide +kernel
theorem dX5_right_4 : decode cX5_right 4 = .ok (.iload_n 1, 1) := by decide +kernel
theorem dX5_right_5 : decode cX5_right 5 = .ok (.iaload, 1) := by decide +kernel
theorem dX5_right_6 : decode cX5_right 6 = .ok (.ireturn, 1) := by decide +kernel
abbrev rmX5_right : Room := { frames := 0, cells := 0, slots := 0, locals := 0 }
theorem ywX5_right : fY yX5_right "EqualCourt$Sayings" cX5_right 2 (some .int) 1 := ⟨tw_551, tw_552, tw_4, tw_553, by decide +kernel⟩
set_option maxHeartbeats 4000000 in
set_option maxRecDepth 100000 in
theorem cX5_right_ok {D : va_G} {ad : Nat → Nat} {cy cz : ClassId} {l : Launch} {z : fS} {v1 : Int32} {r : Int32} (h : fX5_right z v1 = some r) : fMi D 76 ad (cfX ad cy cz) cy cz l yX5_right cX5_right 2 (some .int) rmX5_right [.ref (ad 11), .int v1] z r z := by
  refine f_bodyi (by decide) (Nat.le_of_ble_eq_true rfl) (fun p e s m args below meth c Q hC hret ls hl hI => ?_)
  have hx := hC.1
  have hb := hC.2.1
  have hl : lv_has ls 2 [(0, .ref (ad 11)), (1, .int v1)] := hl
  unfold fX5_right at h
  refine lv_aload_n hx hb dX5_right_0 rfl (lv_at hl 0 rfl) ?_
  refine gX5_rights hC hI tw_77 dX5_right_1 ?_
  refine lv_iload_n hx hb dX5_right_4 rfl (lv_at hl 1 rfl) ?_
  have g5 := (gd_at h).1
  replace h := (gd_at h).2
  refine r_iald hC hI aX_14 g5 dX5_right_5 ?_
  exact hret (ret_p _ h) dX5_right_6 hI
theorem dX5_isTaken_0 : decode cX5_isTaken 0 = .ok (.aload_n 0, 1) := by decide +kernel
theorem dX5_isTaken_1 : decode cX5_isTaken 1 = .ok (.getfield 22, 3) := by decide +kernel
theorem dX5_isTaken_4 : decode cX5_isTaken 4 = .ok (.iload_n 1, 1) := by decide +kernel
theorem dX5_isTaken_5 : decode cX5_isTaken 5 = .ok (.iaload, 1) := by decide +kernel
theorem dX5_isTaken_6 : decode cX5_isTaken 6 = .ok (.iconst 1, 1) := by decide +kernel
theorem dX5_isTaken_7 : decode cX5_isTaken 7 = .ok (.if_icmp .ne 7, 3) := by decide +kernel
theorem dX5_isTaken_10 : decode cX5_isTaken 10 = .ok (.iconst 1, 1) := by decide +kernel
theorem dX5_isTaken_11 : decode cX5_isTaken 11 = .ok (.goto 4, 3) := by decide +kernel
theorem dX5_isTaken_14 : decode cX5_isTaken 14 = .ok (.iconst 0, 1) := by decide +kernel
theorem dX5_isTaken_15 : decode cX5_isTaken 15 = .ok (.ireturn, 1) := by decide +kernel
abbrev rmX5_isTaken : Room := { frames := 0, cells := 0, slots := 0, locals := 0 }
theorem ywX5_isTaken : fY yX5_isTaken "EqualCourt$Sayings" cX5_isTaken 2 (some .boolean) 1 := ⟨tw_539, tw_540, tw_4, tw_541, by decide +kernel⟩
set_option maxHeartbeats 4000000 in
set_option maxRecDepth 100000 in
theorem cX5_isTaken_ok {D : va_G} {ad : Nat → Nat} {cy cz : ClassId} {l : Launch} {z : fS} {v1 : Int32} {r : Int32} (h : fX5_isTaken z v1 = some r) : fMi D 76 ad (cfX ad cy cz) cy cz l yX5_isTaken cX5_isTaken 2 (some .boolean) rmX5_isTaken [.ref (ad 11), .int v1] z r z := by
  refine f_bodyz (by decide) (Nat.le_of_ble_eq_true rfl) (fun p e s m args below meth c Q hC hret ls hl hI => ?_)
  have hx := hC.1
  have hb := hC.2.1
  have hl : lv_has ls 2 [(0, .ref (ad 11)), (1, .int v1)] := hl
  unfold fX5_isTaken at h
  refine lv_aload_n hx hb dX5_isTaken_0 rfl (lv_at hl 0 rfl) ?_
  refine gX5_taken hC hI tw_78 dX5_isTaken_1 ?_
  refine lv_iload_n hx hb dX5_isTaken_4 rfl (lv_at hl 1 rfl) ?_
  have g5 := (gd_at h).1
  replace h := (gd_at h).2
  refine r_iald hC hI aX_15 g5 dX5_isTaken_5 ?_
  refine lv_iconst (v := 1) hx hb dX5_isTaken_6 (by decide) ?_
  refine lv_icmp_ne (tgt := 14) hx hb dX5_isTaken_7 (by decide) (fun c7 => ?_) (fun c7 => ?_)
  · replace h := if_f h c7
    refine lv_iconst (v := 0) hx hb dX5_isTaken_14 (by decide) ?_
    exact hret (ret_p _ h) (by decide) dX5_isTaken_15 hI
  · replace h := if_t h c7
    refine lv_iconst (v := 1) hx hb dX5_isTaken_10 (by decide) ?_
    refine lv_goto (tgt := 15) hx hb dX5_isTaken_11 (by decide) ?_
    exact hret (ret_p _ h) (by decide) dX5_isTaken_15 hI
theorem dX5_add_0 : decode cX5_add 0 = .ok (.aload_n 0, 1) := by decide +kernel
theorem dX5_add_1 : decode cX5_add 1 = .ok (.getfield 28, 3) := by decide +kernel
theorem dX5_add_4 : decode cX5_add 4 = .ok (.bipush 100, 2) := by decide +kernel
theorem dX5_add_6 : decode cX5_add 6 = .ok (.if_icmp .lt 5, 3) := by decide +kernel
theorem dX5_add_9 : decode cX5_add 9 = .ok (.iconst (-1), 1) := by decide +kernel
theorem dX5_add_10 : decode cX5_add 10 = .ok (.ireturn, 1) := by decide +kernel
theorem dX5_add_11 : decode cX5_add 11 = .ok (.aload_n 0, 1) := by decide +kernel
theorem dX5_add_12 : decode cX5_add 12 = .ok (.getfield 9, 3) := by decide +kernel
theorem dX5_add_15 : decode cX5_add 15 = .ok (.aload_n 0, 1) := by decide +kernel
theorem dX5_add_16 : decode cX5_add 16 = .ok (.getfield 28, 3) := by decide +kernel
theorem dX5_add_19 : decode cX5_add 19 = .ok (.iload_n 1, 1) := by decide +kernel
theorem dX5_add_20 : decode cX5_add 20 = .ok (.bastore, 1) := by decide +kernel
theorem dX5_add_21 : decode cX5_add 21 = .ok (.aload_n 0, 1) := by decide +kernel
theorem dX5_add_22 : decode cX5_add 22 = .ok (.getfield 15, 3) := by decide +kernel
theorem dX5_add_25 : decode cX5_add 25 = .ok (.aload_n 0, 1) := by decide +kernel
theorem dX5_add_26 : decode cX5_add 26 = .ok (.getfield 28, 3) := by decide +kernel
theorem dX5_add_29 : decode cX5_add 29 = .ok (.iload_n 2, 1) := by decide +kernel
theorem dX5_add_30 : decode cX5_add 30 = .ok (.iastore, 1) := by decide +kernel
theorem dX5_add_31 : decode cX5_add 31 = .ok (.aload_n 0, 1) := by decide +kernel
theorem dX5_add_32 : decode cX5_add 32 = .ok (.getfield 19, 3) := by decide +kernel
theorem dX5_add_35 : decode cX5_add 35 = .ok (.aload_n 0, 1) := by decide +kernel
theorem dX5_add_36 : decode cX5_add 36 = .ok (.getfield 28, 3) := by decide +kernel
theorem dX5_add_39 : decode cX5_add 39 = .ok (.iload_n 3, 1) := by decide +kernel
theorem dX5_add_40 : decode cX5_add 40 = .ok (.iastore, 1) := by decide +kernel
theorem dX5_add_41 : decode cX5_add 41 = .ok (.aload_n 0, 1) := by decide +kernel
theorem dX5_add_42 : decode cX5_add 42 = .ok (.getfield 22, 3) := by decide +kernel
theorem dX5_add_45 : decode cX5_add 45 = .ok (.aload_n 0, 1) := by decide +kernel
theorem dX5_add_46 : decode cX5_add 46 = .ok (.getfield 28, 3) := by decide +kernel
theorem dX5_add_49 : decode cX5_add 49 = .ok (.iconst 1, 1) := by decide +kernel
theorem dX5_add_50 : decode cX5_add 50 = .ok (.iastore, 1) := by decide +kernel
theorem dX5_add_51 : decode cX5_add 51 = .ok (.aload_n 0, 1) := by decide +kernel
theorem dX5_add_52 : decode cX5_add 52 = .ok (.dup, 1) := by decide +kernel
theorem dX5_add_53 : decode cX5_add 53 = .ok (.getfield 28, 3) := by decide +kernel
theorem dX5_add_56 : decode cX5_add 56 = .ok (.iconst 1, 1) := by decide +kernel
theorem dX5_add_57 : decode cX5_add 57 = .ok (.iadd, 1) := by decide +kernel
theorem dX5_add_58 : decode cX5_add 58 = .ok (.putfield 28, 3) := by decide +kernel
theorem dX5_add_61 : decode cX5_add 61 = .ok (.aload_n 0, 1) := by decide +kernel
theorem dX5_add_62 : decode cX5_add 62 = .ok (.dup, 1) := by decide +kernel
theorem dX5_add_63 : decode cX5_add 63 = .ok (.getfield 32, 3) := by decide +kernel
theorem dX5_add_66 : decode cX5_add 66 = .ok (.iconst 1, 1) := by decide +kernel
theorem dX5_add_67 : decode cX5_add 67 = .ok (.iadd, 1) := by decide +kernel
theorem dX5_add_68 : decode cX5_add 68 = .ok (.putfield 32, 3) := by decide +kernel
theorem dX5_add_71 : decode cX5_add 71 = .ok (.aload_n 0, 1) := by decide +kernel
theorem dX5_add_72 : decode cX5_add 72 = .ok (.getfield 28, 3) := by decide +kernel
theorem dX5_add_75 : decode cX5_add 75 = .ok (.iconst 1, 1) := by decide +kernel
theorem dX5_add_76 : decode cX5_add 76 = .ok (.isub, 1) := by decide +kernel
theorem dX5_add_77 : decode cX5_add 77 = .ok (.ireturn, 1) := by decide +kernel
abbrev rmX5_add : Room := { frames := 0, cells := 0, slots := 0, locals := 0 }
theorem ywX5_add : fY yX5_add "EqualCourt$Sayings" cX5_add 4 (some .int) 3 := ⟨tw_591, tw_592, tw_4, tw_593, by decide +kernel⟩
set_option maxHeartbeats 4000000 in
set_option maxRecDepth 100000 in
theorem cX5_add_ok {D : va_G} {ad : Nat → Nat} {cy cz : ClassId} {l : Launch} {z : fS} {v1 : Int32} {v2 : Int32} {v3 : Int32} {r : Int32} {τ : fS} (h : fX5_add z v1 v2 v3 = some (r, τ)) : fMi D 76 ad (cfX ad cy cz) cy cz l yX5_add cX5_add 4 (some .int) rmX5_add [.ref (ad 11), .int v1, .int v2, .int v3] z r τ := by
  refine f_bodyi (by decide) (Nat.le_of_ble_eq_true rfl) (fun p e s m args below meth c Q hC hret ls hl hI => ?_)
  have hx := hC.1
  have hb := hC.2.1
  have hl : lv_has ls 4 [(0, .ref (ad 11)), (1, .int v1), (2, .int v2), (3, .int v3)] := hl
  unfold fX5_add at h
  refine lv_aload_n hx hb dX5_add_0 rfl (lv_at hl 0 rfl) ?_
  refine gX5_count hC hI tw_80 dX5_add_1 ?_
  refine lv_bipush (v := 100) hx hb dX5_add_4 (by decide) ?_
  refine lv_icmp_lt (tgt := 11) hx hb dX5_add_6 (by decide) (fun c6 => ?_) (fun c6 => ?_)
  · replace h := if_t h c6
    refine lv_aload_n hx hb dX5_add_11 rfl (lv_at hl 0 rfl) ?_
    refine gX5_same hC hI tw_75 dX5_add_12 ?_
    refine lv_aload_n hx hb dX5_add_15 rfl (lv_at hl 0 rfl) ?_
    refine gX5_count hC hI tw_80 dX5_add_16 ?_
    refine lv_iload_n hx hb dX5_add_19 rfl (lv_at hl 1 rfl) ?_
    have g20 := (gd_at h).1
    replace h := (gd_at h).2
    refine r_zast hC hI aX_12 g20 dX5_add_20 (fun z20 H locs e20 hI => ?_)
    replace h := bnd_at h e20
    refine lv_aload_n hx hb dX5_add_21 rfl (lv_at hl 0 rfl) ?_
    refine gX5_lefts hC hI tw_76 dX5_add_22 ?_
    refine lv_aload_n hx hb dX5_add_25 rfl (lv_at hl 0 rfl) ?_
    refine gX5_count hC hI tw_80 dX5_add_26 ?_
    refine lv_iload_n hx hb dX5_add_29 rfl (lv_at hl 2 rfl) ?_
    have g30 := (gd_at h).1
    replace h := (gd_at h).2
    refine r_iast hC hI aX_13 g30 dX5_add_30 (fun z30 H locs e30 hI => ?_)
    replace h := bnd_at h e30
    refine lv_aload_n hx hb dX5_add_31 rfl (lv_at hl 0 rfl) ?_
    refine gX5_rights hC hI tw_77 dX5_add_32 ?_
    refine lv_aload_n hx hb dX5_add_35 rfl (lv_at hl 0 rfl) ?_
    refine gX5_count hC hI tw_80 dX5_add_36 ?_
    refine lv_iload_n hx hb dX5_add_39 rfl (lv_at hl 3 rfl) ?_
    have g40 := (gd_at h).1
    replace h := (gd_at h).2
    refine r_iast hC hI aX_14 g40 dX5_add_40 (fun z40 H locs e40 hI => ?_)
    replace h := bnd_at h e40
    refine lv_aload_n hx hb dX5_add_41 rfl (lv_at hl 0 rfl) ?_
    refine gX5_taken hC hI tw_78 dX5_add_42 ?_
    refine lv_aload_n hx hb dX5_add_45 rfl (lv_at hl 0 rfl) ?_
    refine gX5_count hC hI tw_80 dX5_add_46 ?_
    refine lv_iconst (v := 1) hx hb dX5_add_49 (by decide) ?_
    have g50 := (gd_at h).1
    replace h := (gd_at h).2
    refine r_iast hC hI aX_15 g50 dX5_add_50 (fun z50 H locs e50 hI => ?_)
    replace h := bnd_at h e50
    refine lv_aload_n hx hb dX5_add_51 rfl (lv_at hl 0 rfl) ?_
    refine lv_dup hx hb dX5_add_52 rfl ?_
    refine gX5_count hC hI tw_80 dX5_add_53 ?_
    refine lv_iconst (v := 1) hx hb dX5_add_56 (by decide) ?_
    refine lv_iadd hx hb dX5_add_57 ?_
    refine pX5_count hC hI tw_80 dX5_add_58 (fun z58 H locs e58 hI => ?_)
    replace h := bnd_at h e58
    refine lv_aload_n hx hb dX5_add_61 rfl (lv_at hl 0 rfl) ?_
    refine lv_dup hx hb dX5_add_62 rfl ?_
    refine gX5_takenCount hC hI tw_81 dX5_add_63 ?_
    refine lv_iconst (v := 1) hx hb dX5_add_66 (by decide) ?_
    refine lv_iadd hx hb dX5_add_67 ?_
    refine pX5_takenCount hC hI tw_81 dX5_add_68 (fun z68 H locs e68 hI => ?_)
    replace h := bnd_at h e68
    refine lv_aload_n hx hb dX5_add_71 rfl (lv_at hl 0 rfl) ?_
    refine gX5_count hC hI tw_80 dX5_add_72 ?_
    refine lv_iconst (v := 1) hx hb dX5_add_75 (by decide) ?_
    refine lv_isub hx hb dX5_add_76 ?_
    exact hret h dX5_add_77 hI
  · replace h := if_f h c6
    refine lv_iconst (v := -1) hx hb dX5_add_9 (by decide) ?_
    exact hret h dX5_add_10 hI
theorem dX5_remove_0 : decode cX5_remove 0 = .ok (.aload_n 0, 1) := by decide +kernel
theorem dX5_remove_1 : decode cX5_remove 1 = .ok (.getfield 22, 3) := by decide +kernel
theorem dX5_remove_4 : decode cX5_remove 4 = .ok (.iload_n 1, 1) := by decide +kernel
theorem dX5_remove_5 : decode cX5_remove 5 = .ok (.iconst 0, 1) := by decide +kernel
theorem dX5_remove_6 : decode cX5_remove 6 = .ok (.iastore, 1) := by decide +kernel
theorem dX5_remove_7 : decode cX5_remove 7 = .ok (.aload_n 0, 1) := by decide +kernel
theorem dX5_remove_8 : decode cX5_remove 8 = .ok (.dup, 1) := by decide +kernel
theorem dX5_remove_9 : decode cX5_remove 9 = .ok (.getfield 32, 3) := by decide +kernel
theorem dX5_remove_12 : decode cX5_remove 12 = .ok (.iconst 1, 1) := by decide +kernel
theorem dX5_remove_13 : decode cX5_remove 13 = .ok (.isub, 1) := by decide +kernel
theorem dX5_remove_14 : decode cX5_remove 14 = .ok (.putfield 32, 3) := by decide +kernel
theorem dX5_remove_17 : decode cX5_remove 17 = .ok (.return_, 1) := by decide +kernel
abbrev rmX5_remove : Room := { frames := 0, cells := 0, slots := 0, locals := 0 }
theorem ywX5_remove : fY yX5_remove "EqualCourt$Sayings" cX5_remove 2 none 1 := ⟨tw_609, tw_610, tw_4, tw_611, by decide +kernel⟩
set_option maxHeartbeats 4000000 in
set_option maxRecDepth 100000 in
theorem cX5_remove_ok {D : va_G} {ad : Nat → Nat} {cy cz : ClassId} {l : Launch} {z : fS} {v1 : Int32} {τ : fS} (h : fX5_remove z v1 = some τ) : fMv D 76 ad (cfX ad cy cz) cy cz l yX5_remove cX5_remove 2 none rmX5_remove [.ref (ad 11), .int v1] z τ := by
  refine f_bodyv (by decide) (Nat.le_of_ble_eq_true rfl) (fun p e s m args below meth c Q hC hret ls hl hI => ?_)
  have hx := hC.1
  have hb := hC.2.1
  have hl : lv_has ls 2 [(0, .ref (ad 11)), (1, .int v1)] := hl
  unfold fX5_remove at h
  refine lv_aload_n hx hb dX5_remove_0 rfl (lv_at hl 0 rfl) ?_
  refine gX5_taken hC hI tw_78 dX5_remove_1 ?_
  refine lv_iload_n hx hb dX5_remove_4 rfl (lv_at hl 1 rfl) ?_
  refine lv_iconst (v := 0) hx hb dX5_remove_5 (by decide) ?_
  have g6 := (gd_at h).1
  replace h := (gd_at h).2
  refine r_iast hC hI aX_15 g6 dX5_remove_6 (fun z6 H locs e6 hI => ?_)
  replace h := bnd_at h e6
  refine lv_aload_n hx hb dX5_remove_7 rfl (lv_at hl 0 rfl) ?_
  refine lv_dup hx hb dX5_remove_8 rfl ?_
  refine gX5_takenCount hC hI tw_81 dX5_remove_9 ?_
  refine lv_iconst (v := 1) hx hb dX5_remove_12 (by decide) ?_
  refine lv_isub hx hb dX5_remove_13 ?_
  refine pX5_takenCount hC hI tw_81 dX5_remove_14 (fun z14 H locs e14 hI => ?_)
  replace h := bnd_at h e14
  exact hret h dX5_remove_17 hI
theorem dX5_beginLevel_0 : decode cX5_beginLevel 0 = .ok (.aload_n 0, 1) := by decide +kernel
theorem dX5_beginLevel_1 : decode cX5_beginLevel 1 = .ok (.getfield 35, 3) := by decide +kernel
theorem dX5_beginLevel_4 : decode cX5_beginLevel 4 = .ok (.bipush 10, 2) := by decide +kernel
theorem dX5_beginLevel_6 : decode cX5_beginLevel 6 = .ok (.if_icmp .ge 34, 3) := by decide +kernel
theorem dX5_beginLevel_9 : decode cX5_beginLevel 9 = .ok (.aload_n 0, 1) := by decide +kernel
theorem dX5_beginLevel_10 : decode cX5_beginLevel 10 = .ok (.getfield 22, 3) := by decide +kernel
theorem dX5_beginLevel_13 : decode cX5_beginLevel 13 = .ok (.iconst 0, 1) := by decide +kernel
theorem dX5_beginLevel_14 : decode cX5_beginLevel 14 = .ok (.aload_n 0, 1) := by decide +kernel
theorem dX5_beginLevel_15 : decode cX5_beginLevel 15 = .ok (.getfield 25, 3) := by decide +kernel
theorem dX5_beginLevel_18 : decode cX5_beginLevel 18 = .ok (.aload_n 0, 1) := by decide +kernel
theorem dX5_beginLevel_19 : decode cX5_beginLevel 19 = .ok (.getfield 35, 3) := by decide +kernel
theorem dX5_beginLevel_22 : decode cX5_beginLevel 22 = .ok (.bipush 100, 2) := by decide +kernel
theorem dX5_beginLevel_24 : decode cX5_beginLevel 24 = .ok (.imul, 1) := by decide +kernel
theorem dX5_beginLevel_25 : decode cX5_beginLevel 25 = .ok (.bipush 100, 2) := by decide +kernel
theorem dX5_beginLevel_27 : decode cX5_beginLevel 27 = .ok (.invokestatic 38, 3) := by decide +kernel
theorem dX5_beginLevel_30 : decode cX5_beginLevel 30 = .ok (.aload_n 0, 1) := by decide +kernel
theorem dX5_beginLevel_31 : decode cX5_beginLevel 31 = .ok (.dup, 1) := by decide +kernel
theorem dX5_beginLevel_32 : decode cX5_beginLevel 32 = .ok (.getfield 35, 3) := by decide +kernel
theorem dX5_beginLevel_35 : decode cX5_beginLevel 35 = .ok (.iconst 1, 1) := by decide +kernel
theorem dX5_beginLevel_36 : decode cX5_beginLevel 36 = .ok (.iadd, 1) := by decide +kernel
theorem dX5_beginLevel_37 : decode cX5_beginLevel 37 = .ok (.putfield 35, 3) := by decide +kernel
theorem dX5_beginLevel_40 : decode cX5_beginLevel 40 = .ok (.aload_n 0, 1) := by decide +kernel
theorem dX5_beginLevel_41 : decode cX5_beginLevel 41 = .ok (.getfield 35, 3) := by decide +kernel
theorem dX5_beginLevel_44 : decode cX5_beginLevel 44 = .ok (.ireturn, 1) := by decide +kernel
abbrev rmX5_beginLevel : Room := { frames := 1, cells := 0, slots := 0, locals := 26 }
theorem ywX5_beginLevel : fY yX5_beginLevel "EqualCourt$Sayings" cX5_beginLevel 1 (some .int) 0 := ⟨tw_708, tw_709, tw_4, tw_710, by decide +kernel⟩
set_option maxHeartbeats 4000000 in
set_option maxRecDepth 100000 in
theorem cX5_beginLevel_ok {D : va_G} {ad : Nat → Nat} {cy cz : ClassId} {l : Launch} {z : fS}  {r : Int32} {τ : fS} (h : fX5_beginLevel z = some (r, τ)) : fMi D 76 ad (cfX ad cy cz) cy cz l yX5_beginLevel cX5_beginLevel 1 (some .int) rmX5_beginLevel [.ref (ad 11)] z r τ := by
  refine f_bodyi (by decide) (Nat.le_of_ble_eq_true rfl) (fun p e s m args below meth c Q hC hret ls hl hI => ?_)
  have hx := hC.1
  have hb := hC.2.1
  have hl : lv_has ls 1 [(0, .ref (ad 11))] := hl
  unfold fX5_beginLevel at h
  refine lv_aload_n hx hb dX5_beginLevel_0 rfl (lv_at hl 0 rfl) ?_
  refine gX5_levels hC hI tw_82 dX5_beginLevel_1 ?_
  refine lv_bipush (v := 10) hx hb dX5_beginLevel_4 (by decide) ?_
  refine lv_icmp_ge (tgt := 40) hx hb dX5_beginLevel_6 (by decide) (fun c6 => ?_) (fun c6 => ?_)
  · replace h := if_t h c6
    refine lv_aload_n hx hb dX5_beginLevel_40 rfl (lv_at hl 0 rfl) ?_
    refine gX5_levels hC hI tw_82 dX5_beginLevel_41 ?_
    exact hret h dX5_beginLevel_44 hI
  · replace h := if_f h c6
    refine lv_aload_n hx hb dX5_beginLevel_9 rfl (lv_at hl 0 rfl) ?_
    refine gX5_taken hC hI tw_78 dX5_beginLevel_10 ?_
    refine lv_iconst (v := 0) hx hb dX5_beginLevel_13 (by decide) ?_
    refine lv_aload_n hx hb dX5_beginLevel_14 rfl (lv_at hl 0 rfl) ?_
    refine gX5_remembered hC hI tw_79 dX5_beginLevel_15 ?_
    refine lv_aload_n hx hb dX5_beginLevel_18 rfl (lv_at hl 0 rfl) ?_
    refine gX5_levels hC hI tw_82 dX5_beginLevel_19 ?_
    refine lv_bipush (v := 100) hx hb dX5_beginLevel_22 (by decide) ?_
    refine lv_imul hx hb dX5_beginLevel_24 ?_
    refine lv_bipush (v := 100) hx hb dX5_beginLevel_25 (by decide) ?_
    have g27 := (gd_at h).1
    replace h := (gd_at h).2
    refine r_copyi hC hI hl.1 tw_711 tw_531 tw_530 tw_13 aX_15 aX_16 g27 (Nat.le_of_ble_eq_true rfl) (Nat.le_of_ble_eq_true rfl) dX5_beginLevel_27 (fun z27 H locs e27 hI => ?_)
    replace h := bnd_at h e27
    refine lv_aload_n hx hb dX5_beginLevel_30 rfl (lv_at hl 0 rfl) ?_
    refine lv_dup hx hb dX5_beginLevel_31 rfl ?_
    refine gX5_levels hC hI tw_82 dX5_beginLevel_32 ?_
    refine lv_iconst (v := 1) hx hb dX5_beginLevel_35 (by decide) ?_
    refine lv_iadd hx hb dX5_beginLevel_36 ?_
    refine pX5_levels hC hI tw_82 dX5_beginLevel_37 (fun z37 H locs e37 hI => ?_)
    replace h := bnd_at h e37
    refine lv_aload_n hx hb dX5_beginLevel_40 rfl (lv_at hl 0 rfl) ?_
    refine gX5_levels hC hI tw_82 dX5_beginLevel_41 ?_
    exact hret h dX5_beginLevel_44 hI
theorem dX5_endLevel_0 : decode cX5_endLevel 0 = .ok (.aload_n 0, 1) := by decide +kernel
theorem dX5_endLevel_1 : decode cX5_endLevel 1 = .ok (.getfield 35, 3) := by decide +kernel
theorem dX5_endLevel_4 : decode cX5_endLevel 4 = .ok (.ifCond .le 34, 3) := by decide +kernel
theorem dX5_endLevel_7 : decode cX5_endLevel 7 = .ok (.aload_n 0, 1) := by decide +kernel
theorem dX5_endLevel_8 : decode cX5_endLevel 8 = .ok (.dup, 1) := by decide +kernel
theorem dX5_endLevel_9 : decode cX5_endLevel 9 = .ok (.getfield 35, 3) := by decide +kernel
theorem dX5_endLevel_12 : decode cX5_endLevel 12 = .ok (.iconst 1, 1) := by decide +kernel
theorem dX5_endLevel_13 : decode cX5_endLevel 13 = .ok (.isub, 1) := by decide +kernel
theorem dX5_endLevel_14 : decode cX5_endLevel 14 = .ok (.putfield 35, 3) := by decide +kernel
theorem dX5_endLevel_17 : decode cX5_endLevel 17 = .ok (.aload_n 0, 1) := by decide +kernel
theorem dX5_endLevel_18 : decode cX5_endLevel 18 = .ok (.getfield 25, 3) := by decide +kernel
theorem dX5_endLevel_21 : decode cX5_endLevel 21 = .ok (.aload_n 0, 1) := by decide +kernel
theorem dX5_endLevel_22 : decode cX5_endLevel 22 = .ok (.getfield 35, 3) := by decide +kernel
theorem dX5_endLevel_25 : decode cX5_endLevel 25 = .ok (.bipush 100, 2) := by decide +kernel
theorem dX5_endLevel_27 : decode cX5_endLevel 27 = .ok (.imul, 1) := by decide +kernel
theorem dX5_endLevel_28 : decode cX5_endLevel 28 = .ok (.aload_n 0, 1) := by decide +kernel
theorem dX5_endLevel_29 : decode cX5_endLevel 29 = .ok (.getfield 22, 3) := by decide +kernel
theorem dX5_endLevel_32 : decode cX5_endLevel 32 = .ok (.iconst 0, 1) := by decide +kernel
theorem dX5_endLevel_33 : decode cX5_endLevel 33 = .ok (.bipush 100, 2) := by decide +kernel
theorem dX5_endLevel_35 : decode cX5_endLevel 35 = .ok (.invokestatic 38, 3) := by decide +kernel
theorem dX5_endLevel_38 : decode cX5_endLevel 38 = .ok (.aload_n 0, 1) := by decide +kernel
theorem dX5_endLevel_39 : decode cX5_endLevel 39 = .ok (.iconst 0, 1) := by decide +kernel
theorem dX5_endLevel_40 : decode cX5_endLevel 40 = .ok (.putfield 32, 3) := by decide +kernel
theorem dX5_endLevel_43 : decode cX5_endLevel 43 = .ok (.iconst 0, 1) := by decide +kernel
theorem dX5_endLevel_44 : decode cX5_endLevel 44 = .ok (.istore_n 1, 1) := by decide +kernel
theorem dX5_endLevel_45 : decode cX5_endLevel 45 = .ok (.iload_n 1, 1) := by decide +kernel
theorem dX5_endLevel_46 : decode cX5_endLevel 46 = .ok (.aload_n 0, 1) := by decide +kernel
theorem dX5_endLevel_47 : decode cX5_endLevel 47 = .ok (.getfield 28, 3) := by decide +kernel
theorem dX5_endLevel_50 : decode cX5_endLevel 50 = .ok (.if_icmp .ge 24, 3) := by decide +kernel
theorem dX5_endLevel_53 : decode cX5_endLevel 53 = .ok (.aload_n 0, 1) := by decide +kernel
theorem dX5_endLevel_54 : decode cX5_endLevel 54 = .ok (.dup, 1) := by decide +kernel
theorem dX5_endLevel_55 : decode cX5_endLevel 55 = .ok (.getfield 32, 3) := by decide +kernel
theorem dX5_endLevel_58 : decode cX5_endLevel 58 = .ok (.aload_n 0, 1) := by decide +kernel
theorem dX5_endLevel_59 : decode cX5_endLevel 59 = .ok (.getfield 22, 3) := by decide +kernel
theorem dX5_endLevel_62 : decode cX5_endLevel 62 = .ok (.iload_n 1, 1) := by decide +kernel
theorem dX5_endLevel_63 : decode cX5_endLevel 63 = .ok (.iaload, 1) := by decide +kernel
theorem dX5_endLevel_64 : decode cX5_endLevel 64 = .ok (.iadd, 1) := by decide +kernel
theorem dX5_endLevel_65 : decode cX5_endLevel 65 = .ok (.putfield 32, 3) := by decide +kernel
theorem dX5_endLevel_68 : decode cX5_endLevel 68 = .ok (.iinc 1 1, 3) := by decide +kernel
theorem dX5_endLevel_71 : decode cX5_endLevel 71 = .ok (.goto (-26), 3) := by decide +kernel
theorem dX5_endLevel_74 : decode cX5_endLevel 74 = .ok (.return_, 1) := by decide +kernel
abbrev rmX5_endLevel : Room := { frames := 1, cells := 0, slots := 0, locals := 26 }
theorem ywX5_endLevel : fY yX5_endLevel "EqualCourt$Sayings" cX5_endLevel 2 none 0 := ⟨tw_717, tw_718, tw_4, tw_719, by decide +kernel⟩
set_option maxHeartbeats 4000000 in
set_option maxRecDepth 100000 in
theorem cX5_endLevel_ok {D : va_G} {ad : Nat → Nat} {cy cz : ClassId} {l : Launch} {z : fS}  {τ : fS} (h : fX5_endLevel z = some τ) : fMv D 76 ad (cfX ad cy cz) cy cz l yX5_endLevel cX5_endLevel 2 none rmX5_endLevel [.ref (ad 11)] z τ := by
  refine f_bodyv (by decide) (Nat.le_of_ble_eq_true rfl) (fun p e s m args below meth c Q hC hret ls hl hI => ?_)
  have hx := hC.1
  have hb := hC.2.1
  have hl : lv_has ls 2 [(0, .ref (ad 11))] := hl
  unfold fX5_endLevel at h
  have w38 : ∀ (z : fS) (H : Heap) (locs : List Loc) (ls : Array Slot), fI D 76 ad (cfX ad cy cz) z s H locs → lv_has ls 2 [(0, .ref (ad 11))] → jX5_endLevel_38   z = some τ → W p l e rmX5_endLevel s m args below meth c H locs 0 0 Q (F0 m 38 ls []) := by
    intro z H locs ls hI hl h
    unfold jX5_endLevel_38 at h
    refine lv_aload_n hx hb dX5_endLevel_38 rfl (lv_at hl 0 rfl) ?_
    refine lv_iconst (v := 0) hx hb dX5_endLevel_39 (by decide) ?_
    refine pX5_takenCount hC hI tw_81 dX5_endLevel_40 (fun z40 H locs e40 hI => ?_)
    replace h := bnd_at h e40
    refine lv_iconst (v := 0) hx hb dX5_endLevel_43 (by decide) ?_
    refine lv_istore_n (lv' := [(1, .int (0 : Int32)), (0, .ref (ad 11))]) hx hb dX5_endLevel_44 rfl hl (by decide) rfl (fun ls hl => ?_)
    have w45 : ∀ (N45 : Nat) (v1 : Int32) (z : fS) (H : Heap) (locs : List Loc) (ls : Array Slot), fI D 76 ad (cfX ad cy cz) z s H locs → lv_has ls 2 [(0, .ref (ad 11)), (1, .int v1)] → lX5_endLevel_45    N45 v1 z = some τ → W p l e rmX5_endLevel s m args below meth c H locs 0 0 Q (F0 m 45 ls []) := by
      intro N45
      induction N45 with
      | zero =>
        intro v1 z H locs ls hI hl h
        exact none_no h
      | succ N45 ih45 =>
        intro v1 z H locs ls hI hl h
        rw [lX5_endLevel_45.eq_2] at h
        refine lv_iload_n hx hb dX5_endLevel_45 rfl (lv_at hl 1 rfl) ?_
        refine lv_aload_n hx hb dX5_endLevel_46 rfl (lv_at hl 0 rfl) ?_
        refine gX5_count hC hI tw_80 dX5_endLevel_47 ?_
        refine lv_icmp_ge (tgt := 74) hx hb dX5_endLevel_50 (by decide) (fun c50 => ?_) (fun c50 => ?_)
        · replace h := if_t h c50
          exact hret h dX5_endLevel_74 hI
        · replace h := if_f h c50
          refine lv_aload_n hx hb dX5_endLevel_53 rfl (lv_at hl 0 rfl) ?_
          refine lv_dup hx hb dX5_endLevel_54 rfl ?_
          refine gX5_takenCount hC hI tw_81 dX5_endLevel_55 ?_
          refine lv_aload_n hx hb dX5_endLevel_58 rfl (lv_at hl 0 rfl) ?_
          refine gX5_taken hC hI tw_78 dX5_endLevel_59 ?_
          refine lv_iload_n hx hb dX5_endLevel_62 rfl (lv_at hl 1 rfl) ?_
          have g63 := (gd_at h).1
          replace h := (gd_at h).2
          refine r_iald hC hI aX_15 g63 dX5_endLevel_63 ?_
          refine lv_iadd hx hb dX5_endLevel_64 ?_
          refine pX5_takenCount hC hI tw_81 dX5_endLevel_65 (fun z65 H locs e65 hI => ?_)
          replace h := bnd_at h e65
          obtain ⟨x68, e68⟩ : ∃ y : Int32, y = (v1 + (1 : Int32)) := ⟨_, rfl⟩
          replace h := bnd_at h e68
          refine lv_iinc (v := x68) (lv' := [(1, .int x68), (0, .ref (ad 11))]) hx hb dX5_endLevel_68 hl (k := 1) rfl (by rw [e68]; rfl) (by decide) rfl (fun ls hl => ?_)
          refine lv_goto (tgt := 45) hx hb dX5_endLevel_71 (by decide) ?_
          exact ih45  x68 z65 _ _ _ hI (lv_sub hl [1, 0] rfl) h
    exact w45 FU  (0 : Int32) z40 _ _ _ hI (lv_sub hl [1, 0] rfl) h
  refine lv_aload_n hx hb dX5_endLevel_0 rfl (lv_at hl 0 rfl) ?_
  refine gX5_levels hC hI tw_82 dX5_endLevel_1 ?_
  refine lv_if_le (tgt := 38) hx hb dX5_endLevel_4 (by decide) (fun c4 => ?_) (fun c4 => ?_)
  · replace h := if_t h c4
    exact w38 z _ _ _ hI hl h
  · replace h := if_f h c4
    refine lv_aload_n hx hb dX5_endLevel_7 rfl (lv_at hl 0 rfl) ?_
    refine lv_dup hx hb dX5_endLevel_8 rfl ?_
    refine gX5_levels hC hI tw_82 dX5_endLevel_9 ?_
    refine lv_iconst (v := 1) hx hb dX5_endLevel_12 (by decide) ?_
    refine lv_isub hx hb dX5_endLevel_13 ?_
    refine pX5_levels hC hI tw_82 dX5_endLevel_14 (fun z14 H locs e14 hI => ?_)
    replace h := bnd_at h e14
    refine lv_aload_n hx hb dX5_endLevel_17 rfl (lv_at hl 0 rfl) ?_
    refine gX5_remembered hC hI tw_79 dX5_endLevel_18 ?_
    refine lv_aload_n hx hb dX5_endLevel_21 rfl (lv_at hl 0 rfl) ?_
    refine gX5_levels hC hI tw_82 dX5_endLevel_22 ?_
    refine lv_bipush (v := 100) hx hb dX5_endLevel_25 (by decide) ?_
    refine lv_imul hx hb dX5_endLevel_27 ?_
    refine lv_aload_n hx hb dX5_endLevel_28 rfl (lv_at hl 0 rfl) ?_
    refine gX5_taken hC hI tw_78 dX5_endLevel_29 ?_
    refine lv_iconst (v := 0) hx hb dX5_endLevel_32 (by decide) ?_
    refine lv_bipush (v := 100) hx hb dX5_endLevel_33 (by decide) ?_
    have g35 := (gd_at h).1
    replace h := (gd_at h).2
    refine r_copyi hC hI hl.1 tw_711 tw_531 tw_530 tw_13 aX_16 aX_15 g35 (Nat.le_of_ble_eq_true rfl) (Nat.le_of_ble_eq_true rfl) dX5_endLevel_35 (fun z35 H locs e35 hI => ?_)
    replace h := bnd_at h e35
    exact w38 z35 _ _ _ hI hl h
