theorem dX8_refused_0 : decode cX8_refused 0 = .ok (.aload_n 0, 1) := by decide +kernel
theorem dX8_refused_1 : decode cX8_refused 1 = .ok (.iload_n 1, 1) := by decide +kernel
theorem dX8_refused_2 : decode cX8_refused 2 = .ok (.putfield 75, 3) := by decide +kernel
theorem dX8_refused_5 : decode cX8_refused 5 = .ok (.iconst (-1), 1) := by decide +kernel
theorem dX8_refused_6 : decode cX8_refused 6 = .ok (.ireturn, 1) := by decide +kernel
abbrev rmX8_refused : Room := { frames := 0, cells := 0, slots := 0, locals := 0 }
theorem ywX8_refused : fY yX8_refused "EqualCourt" cX8_refused 2 (some .int) 1 := ⟨tw_327, tp_0, tw_1, tw_328, by decide +kernel⟩
set_option maxHeartbeats 4000000 in
set_option maxRecDepth 100000 in
theorem cX8_refused_ok {D : va_G} {ad : Nat → Nat} {cy cz : ClassId} {l : Launch} {z : fS} {v1 : Int32} {r : Int32} {τ : fS} (h : fX8_refused z v1 = some (r, τ)) : fMi D 76 ad (cfX ad cy cz) cy cz l yX8_refused cX8_refused 2 (some .int) rmX8_refused [.ref (ad 0), .int v1] z r τ := by
  refine f_bodyi (by decide) (Nat.le_of_ble_eq_true rfl) (fun p e s m args below meth c Q hC hret ls hl hI => ?_)
  have hx := hC.1
  have hb := hC.2.1
  have hl : lv_has ls 2 [(0, .ref (ad 0)), (1, .int v1)] := hl
  unfold fX8_refused at h
  refine lv_aload_n hx hb dX8_refused_0 rfl (lv_at hl 0 rfl) ?_
  refine lv_iload_n hx hb dX8_refused_1 rfl (lv_at hl 1 rfl) ?_
  refine pX8_finding hC hI tw_293 dX8_refused_2 (fun z2 H locs e2 hI => ?_)
  replace h := bnd_at h e2
  refine lv_iconst (v := -1) hx hb dX8_refused_5 (by decide) ?_
  exact hret h dX8_refused_6 hI
theorem dX8_done_0 : decode cX8_done 0 = .ok (.aload_n 0, 1) := by decide +kernel
theorem dX8_done_1 : decode cX8_done 1 = .ok (.iconst 0, 1) := by decide +kernel
theorem dX8_done_2 : decode cX8_done 2 = .ok (.putfield 75, 3) := by decide +kernel
theorem dX8_done_5 : decode cX8_done 5 = .ok (.iload_n 1, 1) := by decide +kernel
theorem dX8_done_6 : decode cX8_done 6 = .ok (.ireturn, 1) := by decide +kernel
abbrev rmX8_done : Room := { frames := 0, cells := 0, slots := 0, locals := 0 }
theorem ywX8_done : fY yX8_done "EqualCourt" cX8_done 2 (some .int) 1 := ⟨tw_441, tp_8, tw_1, tw_442, by decide +kernel⟩
set_option maxHeartbeats 4000000 in
set_option maxRecDepth 100000 in
theorem cX8_done_ok {D : va_G} {ad : Nat → Nat} {cy cz : ClassId} {l : Launch} {z : fS} {v1 : Int32} {r : Int32} {τ : fS} (h : fX8_done z v1 = some (r, τ)) : fMi D 76 ad (cfX ad cy cz) cy cz l yX8_done cX8_done 2 (some .int) rmX8_done [.ref (ad 0), .int v1] z r τ := by
  refine f_bodyi (by decide) (Nat.le_of_ble_eq_true rfl) (fun p e s m args below meth c Q hC hret ls hl hI => ?_)
  have hx := hC.1
  have hb := hC.2.1
  have hl : lv_has ls 2 [(0, .ref (ad 0)), (1, .int v1)] := hl
  unfold fX8_done at h
  refine lv_aload_n hx hb dX8_done_0 rfl (lv_at hl 0 rfl) ?_
  refine lv_iconst (v := 0) hx hb dX8_done_1 (by decide) ?_
  refine pX8_finding hC hI tw_293 dX8_done_2 (fun z2 H locs e2 hI => ?_)
  replace h := bnd_at h e2
  refine lv_iload_n hx hb dX8_done_5 rfl (lv_at hl 1 rfl) ?_
  exact hret h dX8_done_6 hI
theorem dX8_madeTerm_0 : decode cX8_madeTerm 0 = .ok (.aload_n 0, 1) := by decide +kernel
theorem dX8_madeTerm_1 : decode cX8_madeTerm 1 = .ok (.getfield 10, 3) := by decide +kernel
theorem dX8_madeTerm_4 : decode cX8_madeTerm 4 = .ok (.invokevirtual 106, 3) := by decide +kernel
theorem dX8_madeTerm_7 : decode cX8_madeTerm 7 = .ok (.istore 6, 2) := by decide +kernel
theorem dX8_madeTerm_9 : decode cX8_madeTerm 9 = .ok (.aload_n 0, 1) := by decide +kernel
theorem dX8_madeTerm_10 : decode cX8_madeTerm 10 = .ok (.getfield 10, 3) := by decide +kernel
theorem dX8_madeTerm_13 : decode cX8_madeTerm 13 = .ok (.iload_n 1, 1) := by decide +kernel
theorem dX8_madeTerm_14 : decode cX8_madeTerm 14 = .ok (.iload_n 2, 1) := by decide +kernel
theorem dX8_madeTerm_15 : decode cX8_madeTerm 15 = .ok (.iload_n 3, 1) := by decide +kernel
theorem dX8_madeTerm_16 : decode cX8_madeTerm 16 = .ok (.iload 4, 2) := by decide +kernel
theorem dX8_madeTerm_18 : decode cX8_madeTerm 18 = .ok (.iload 5, 2) := by decide +kernel
theorem dX8_madeTerm_20 : decode cX8_madeTerm 20 = .ok (.invokevirtual 225, 3) := by decide +kernel
theorem dX8_madeTerm_23 : decode cX8_madeTerm 23 = .ok (.istore 7, 2) := by decide +kernel
theorem dX8_madeTerm_25 : decode cX8_madeTerm 25 = .ok (.iload 7, 2) := by decide +kernel
theorem dX8_madeTerm_27 : decode cX8_madeTerm 27 = .ok (.iconst (-1), 1) := by decide +kernel
theorem dX8_madeTerm_28 : decode cX8_madeTerm 28 = .ok (.if_icmp .ne 9, 3) := by decide +kernel
theorem dX8_madeTerm_31 : decode cX8_madeTerm 31 = .ok (.aload_n 0, 1) := by decide +kernel
theorem dX8_madeTerm_32 : decode cX8_madeTerm 32 = .ok (.iconst 3, 1) := by decide +kernel
theorem dX8_madeTerm_33 : decode cX8_madeTerm 33 = .ok (.invokevirtual 78, 3) := by decide +kernel
theorem dX8_madeTerm_36 : decode cX8_madeTerm 36 = .ok (.ireturn, 1) := by decide +kernel
theorem dX8_madeTerm_37 : decode cX8_madeTerm 37 = .ok (.aload_n 0, 1) := by decide +kernel
theorem dX8_madeTerm_38 : decode cX8_madeTerm 38 = .ok (.getfield 28, 3) := by decide +kernel
theorem dX8_madeTerm_41 : decode cX8_madeTerm 41 = .ok (.iload 6, 2) := by decide +kernel
theorem dX8_madeTerm_43 : decode cX8_madeTerm 43 = .ok (.invokevirtual 228, 3) := by decide +kernel
theorem dX8_madeTerm_46 : decode cX8_madeTerm 46 = .ok (.aload_n 0, 1) := by decide +kernel
theorem dX8_madeTerm_47 : decode cX8_madeTerm 47 = .ok (.iload 7, 2) := by decide +kernel
theorem dX8_madeTerm_49 : decode cX8_madeTerm 49 = .ok (.invokevirtual 100, 3) := by decide +kernel
theorem dX8_madeTerm_52 : decode cX8_madeTerm 52 = .ok (.ireturn, 1) := by decide +kernel
abbrev rmX8_madeTerm : Room := { frames := 5, cells := 0, slots := 0, locals := 123 }
theorem ywX8_madeTerm : fY yX8_madeTerm "EqualCourt" cX8_madeTerm 8 (some .int) 5 := ⟨tw_331, tp_1, tw_1, tw_332, by decide +kernel⟩
set_option maxHeartbeats 4000000 in
set_option maxRecDepth 100000 in
theorem cX8_madeTerm_ok {D : va_G} {ad : Nat → Nat} {cy cz : ClassId} {l : Launch} {z : fS} {v1 : Int32} {v2 : Int32} {v3 : Int32} {v4 : Int32} {v5 : Int32} {r : Int32} {τ : fS} (h : fX8_madeTerm z v1 v2 v3 v4 v5 = some (r, τ)) : fMi D 76 ad (cfX ad cy cz) cy cz l yX8_madeTerm cX8_madeTerm 8 (some .int) rmX8_madeTerm [.ref (ad 0), .int v1, .int v2, .int v3, .int v4, .int v5] z r τ := by
  refine f_bodyi (by decide) (Nat.le_of_ble_eq_true rfl) (fun p e s m args below meth c Q hC hret ls hl hI => ?_)
  have hx := hC.1
  have hb := hC.2.1
  have hl : lv_has ls 8 [(0, .ref (ad 0)), (1, .int v1), (2, .int v2), (3, .int v3), (4, .int v4), (5, .int v5)] := hl
  unfold fX8_madeTerm at h
  refine lv_aload_n hx hb dX8_madeTerm_0 rfl (lv_at hl 0 rfl) ?_
  refine gX8_terms hC hI tw_281 dX8_madeTerm_1 ?_
  replace h := bp_at h
  obtain ⟨r4, e4, h⟩ := h
  refine r_calli (rest := []) hC hI oX_1 (C := "EqualCourt$Terms") rfl ywX7_count tw_333 (cX7_count_ok  e4) ⟨Nat.le_of_ble_eq_true rfl, Nat.le_of_ble_eq_true rfl⟩ ⟨rfl, rfl⟩ rfl hl.1 rfl (Nat.le_of_ble_eq_true rfl) dX8_madeTerm_4 (fun H locs hI => ?_)
  refine lv_istore (lv' := [(6, .int r4), (0, .ref (ad 0)), (1, .int v1), (2, .int v2), (3, .int v3), (4, .int v4), (5, .int v5)]) hx hb dX8_madeTerm_7 hl (by decide) rfl (fun ls hl => ?_)
  refine lv_aload_n hx hb dX8_madeTerm_9 rfl (lv_at hl 1 rfl) ?_
  refine gX8_terms hC hI tw_281 dX8_madeTerm_10 ?_
  refine lv_iload_n hx hb dX8_madeTerm_13 rfl (lv_at hl 2 rfl) ?_
  refine lv_iload_n hx hb dX8_madeTerm_14 rfl (lv_at hl 3 rfl) ?_
  refine lv_iload_n hx hb dX8_madeTerm_15 rfl (lv_at hl 4 rfl) ?_
  refine lv_iload hx hb dX8_madeTerm_16 (lv_at hl 5 rfl) ?_
  refine lv_iload hx hb dX8_madeTerm_18 (lv_at hl 6 rfl) ?_
  replace h := bd_at h
  obtain ⟨r20, z20, e20, h⟩ := h
  refine r_calli (rest := []) hC hI oX_1 (C := "EqualCourt$Terms") rfl ywX7_findOrMake tw_337 (cX7_findOrMake_ok  e20) ⟨Nat.le_of_ble_eq_true rfl, Nat.le_of_ble_eq_true rfl⟩ ⟨rfl, rfl⟩ rfl hl.1 rfl (Nat.le_of_ble_eq_true rfl) dX8_madeTerm_20 (fun H locs hI => ?_)
  refine lv_istore (lv' := [(7, .int r20), (6, .int r4), (0, .ref (ad 0)), (1, .int v1), (2, .int v2), (3, .int v3), (4, .int v4), (5, .int v5)]) hx hb dX8_madeTerm_23 hl (by decide) rfl (fun ls hl => ?_)
  refine lv_iload hx hb dX8_madeTerm_25 (lv_at hl 0 rfl) ?_
  refine lv_iconst (v := -1) hx hb dX8_madeTerm_27 (by decide) ?_
  refine lv_icmp_ne (tgt := 37) hx hb dX8_madeTerm_28 (by decide) (fun c28 => ?_) (fun c28 => ?_)
  · replace h := if_f h c28
    refine lv_aload_n hx hb dX8_madeTerm_37 rfl (lv_at hl 2 rfl) ?_
    refine gX8_court hC hI tw_283 dX8_madeTerm_38 ?_
    refine lv_iload hx hb dX8_madeTerm_41 (lv_at hl 1 rfl) ?_
    replace h := bp_at h
    obtain ⟨z43, e43, h⟩ := h
    refine r_callv (rest := []) hC hI oX_17 (C := "EqualCourt$Court") rfl ywX2_admitFrom tw_353 (cX2_admitFrom_ok  e43) ⟨Nat.le_of_ble_eq_true rfl, Nat.le_of_ble_eq_true rfl⟩ ⟨rfl, rfl⟩ rfl hl.1 rfl (Nat.le_of_ble_eq_true rfl) dX8_madeTerm_43 (fun H locs hI => ?_)
    refine lv_aload_n hx hb dX8_madeTerm_46 rfl (lv_at hl 2 rfl) ?_
    refine lv_iload hx hb dX8_madeTerm_47 (lv_at hl 0 rfl) ?_
    replace h := bd_at h
    obtain ⟨r49, z49, e49, h⟩ := h
    refine r_calli (rest := []) hC hI oX_0 (C := "EqualCourt") rfl ywX8_done tw_439 (cX8_done_ok  e49) ⟨Nat.le_of_ble_eq_true rfl, Nat.le_of_ble_eq_true rfl⟩ ⟨rfl, rfl⟩ rfl hl.1 rfl (Nat.le_of_ble_eq_true rfl) dX8_madeTerm_49 (fun H locs hI => ?_)
    exact hret h dX8_madeTerm_52 hI
  · replace h := if_t h c28
    refine lv_aload_n hx hb dX8_madeTerm_31 rfl (lv_at hl 2 rfl) ?_
    refine lv_iconst (v := 3) hx hb dX8_madeTerm_32 (by decide) ?_
    replace h := bd_at h
    obtain ⟨r33, z33, e33, h⟩ := h
    refine r_calli (rest := []) hC hI oX_0 (C := "EqualCourt") rfl ywX8_refused tw_325 (cX8_refused_ok  e33) ⟨Nat.le_of_ble_eq_true rfl, Nat.le_of_ble_eq_true rfl⟩ ⟨rfl, rfl⟩ rfl hl.1 rfl (Nat.le_of_ble_eq_true rfl) dX8_madeTerm_33 (fun H locs hI => ?_)
    exact hret h dX8_madeTerm_36 hI
theorem dX8_name_0 : decode cX8_name 0 = .ok (.iload_n 1, 1) := by decide +kernel
theorem dX8_name_1 : decode cX8_name 1 = .ok (.ifCond .lt 9, 3) := by decide +kernel
theorem dX8_name_4 : decode cX8_name 4 = .ok (.iload_n 1, 1) := by decide +kernel
theorem dX8_name_5 : decode cX8_name 5 = .ok (.bipush 100, 2) := by decide +kernel
theorem dX8_name_7 : decode cX8_name 7 = .ok (.if_icmp .lt 9, 3) := by decide +kernel
theorem dX8_name_10 : decode cX8_name 10 = .ok (.aload_n 0, 1) := by decide +kernel
theorem dX8_name_11 : decode cX8_name 11 = .ok (.iconst 1, 1) := by decide +kernel
theorem dX8_name_12 : decode cX8_name 12 = .ok (.invokevirtual 78, 3) := by decide +kernel
theorem dX8_name_15 : decode cX8_name 15 = .ok (.ireturn, 1) := by decide +kernel
theorem dX8_name_16 : decode cX8_name 16 = .ok (.aload_n 0, 1) := by decide +kernel
theorem dX8_name_17 : decode cX8_name 17 = .ok (.iconst 0, 1) := by decide +kernel
theorem dX8_name_18 : decode cX8_name 18 = .ok (.iload_n 1, 1) := by decide +kernel
theorem dX8_name_19 : decode cX8_name 19 = .ok (.iconst (-1), 1) := by decide +kernel
theorem dX8_name_20 : decode cX8_name 20 = .ok (.iconst (-1), 1) := by decide +kernel
theorem dX8_name_21 : decode cX8_name 21 = .ok (.iconst (-1), 1) := by decide +kernel
theorem dX8_name_22 : decode cX8_name 22 = .ok (.invokevirtual 82, 3) := by decide +kernel
theorem dX8_name_25 : decode cX8_name 25 = .ok (.ireturn, 1) := by decide +kernel
abbrev rmX8_name : Room := { frames := 6, cells := 0, slots := 0, locals := 150 }
theorem ywX8_name : fY yX8_name "EqualCourt" cX8_name 2 (some .int) 1 := ⟨tw_322, tw_323, tw_1, tw_324, by decide +kernel⟩
set_option maxHeartbeats 4000000 in
set_option maxRecDepth 100000 in
theorem cX8_name_ok {D : va_G} {ad : Nat → Nat} {cy cz : ClassId} {l : Launch} {z : fS} {v1 : Int32} {r : Int32} {τ : fS} (h : fX8_name z v1 = some (r, τ)) : fMi D 76 ad (cfX ad cy cz) cy cz l yX8_name cX8_name 2 (some .int) rmX8_name [.ref (ad 0), .int v1] z r τ := by
  refine f_bodyi (by decide) (Nat.le_of_ble_eq_true rfl) (fun p e s m args below meth c Q hC hret ls hl hI => ?_)
  have hx := hC.1
  have hb := hC.2.1
  have hl : lv_has ls 2 [(0, .ref (ad 0)), (1, .int v1)] := hl
  unfold fX8_name at h
  refine lv_iload_n hx hb dX8_name_0 rfl (lv_at hl 1 rfl) ?_
  refine lv_if_lt (tgt := 10) hx hb dX8_name_1 (by decide) (fun c1 => ?_) (fun c1 => ?_)
  · replace h := if_t h c1
    refine lv_aload_n hx hb dX8_name_10 rfl (lv_at hl 0 rfl) ?_
    refine lv_iconst (v := 1) hx hb dX8_name_11 (by decide) ?_
    replace h := bd_at h
    obtain ⟨r12, z12, e12, h⟩ := h
    refine r_calli (rest := []) hC hI oX_0 (C := "EqualCourt") rfl ywX8_refused tw_325 (cX8_refused_ok  e12) ⟨Nat.le_of_ble_eq_true rfl, Nat.le_of_ble_eq_true rfl⟩ ⟨rfl, rfl⟩ rfl hl.1 rfl (Nat.le_of_ble_eq_true rfl) dX8_name_12 (fun H locs hI => ?_)
    exact hret h dX8_name_15 hI
  · replace h := if_f h c1
    refine lv_iload_n hx hb dX8_name_4 rfl (lv_at hl 1 rfl) ?_
    refine lv_bipush (v := 100) hx hb dX8_name_5 (by decide) ?_
    refine lv_icmp_lt (tgt := 16) hx hb dX8_name_7 (by decide) (fun c7 => ?_) (fun c7 => ?_)
    · replace h := if_t h c7
      refine lv_aload_n hx hb dX8_name_16 rfl (lv_at hl 0 rfl) ?_
      refine lv_iconst (v := 0) hx hb dX8_name_17 (by decide) ?_
      refine lv_iload_n hx hb dX8_name_18 rfl (lv_at hl 1 rfl) ?_
      refine lv_iconst (v := -1) hx hb dX8_name_19 (by decide) ?_
      refine lv_iconst (v := -1) hx hb dX8_name_20 (by decide) ?_
      refine lv_iconst (v := -1) hx hb dX8_name_21 (by decide) ?_
      replace h := bd_at h
      obtain ⟨r22, z22, e22, h⟩ := h
      refine r_calli (rest := []) hC hI oX_0 (C := "EqualCourt") rfl ywX8_madeTerm tw_329 (cX8_madeTerm_ok  e22) ⟨Nat.le_of_ble_eq_true rfl, Nat.le_of_ble_eq_true rfl⟩ ⟨rfl, rfl⟩ rfl hl.1 rfl (Nat.le_of_ble_eq_true rfl) dX8_name_22 (fun H locs hI => ?_)
      exact hret h dX8_name_25 hI
    · replace h := if_f h c7
      refine lv_aload_n hx hb dX8_name_10 rfl (lv_at hl 0 rfl) ?_
      refine lv_iconst (v := 1) hx hb dX8_name_11 (by decide) ?_
      replace h := bd_at h
      obtain ⟨r12, z12, e12, h⟩ := h
      refine r_calli (rest := []) hC hI oX_0 (C := "EqualCourt") rfl ywX8_refused tw_325 (cX8_refused_ok  e12) ⟨Nat.le_of_ble_eq_true rfl, Nat.le_of_ble_eq_true rfl⟩ ⟨rfl, rfl⟩ rfl hl.1 rfl (Nat.le_of_ble_eq_true rfl) dX8_name_12 (fun H locs hI => ?_)
      exact hret h dX8_name_15 hI
theorem dX8_number_0 : decode cX8_number 0 = .ok (.aload_n 0, 1) := by decide +kernel
theorem dX8_number_1 : decode cX8_number 1 = .ok (.iconst 1, 1) := by decide +kernel
theorem dX8_number_2 : decode cX8_number 2 = .ok (.iload_n 1, 1) := by decide +kernel
theorem dX8_number_3 : decode cX8_number 3 = .ok (.iconst (-1), 1) := by decide +kernel
theorem dX8_number_4 : decode cX8_number 4 = .ok (.iconst (-1), 1) := by decide +kernel
theorem dX8_number_5 : decode cX8_number 5 = .ok (.iconst (-1), 1) := by decide +kernel
theorem dX8_number_6 : decode cX8_number 6 = .ok (.invokevirtual 82, 3) := by decide +kernel
theorem dX8_number_9 : decode cX8_number 9 = .ok (.ireturn, 1) := by decide +kernel
abbrev rmX8_number : Room := { frames := 6, cells := 0, slots := 0, locals := 150 }
theorem ywX8_number : fY yX8_number "EqualCourt" cX8_number 2 (some .int) 1 := ⟨tw_444, tw_445, tw_1, tw_446, by decide +kernel⟩
set_option maxHeartbeats 4000000 in
set_option maxRecDepth 100000 in
theorem cX8_number_ok {D : va_G} {ad : Nat → Nat} {cy cz : ClassId} {l : Launch} {z : fS} {v1 : Int32} {r : Int32} {τ : fS} (h : fX8_number z v1 = some (r, τ)) : fMi D 76 ad (cfX ad cy cz) cy cz l yX8_number cX8_number 2 (some .int) rmX8_number [.ref (ad 0), .int v1] z r τ := by
  refine f_bodyi (by decide) (Nat.le_of_ble_eq_true rfl) (fun p e s m args below meth c Q hC hret ls hl hI => ?_)
  have hx := hC.1
  have hb := hC.2.1
  have hl : lv_has ls 2 [(0, .ref (ad 0)), (1, .int v1)] := hl
  unfold fX8_number at h
  refine lv_aload_n hx hb dX8_number_0 rfl (lv_at hl 0 rfl) ?_
  refine lv_iconst (v := 1) hx hb dX8_number_1 (by decide) ?_
  refine lv_iload_n hx hb dX8_number_2 rfl (lv_at hl 1 rfl) ?_
  refine lv_iconst (v := -1) hx hb dX8_number_3 (by decide) ?_
  refine lv_iconst (v := -1) hx hb dX8_number_4 (by decide) ?_
  refine lv_iconst (v := -1) hx hb dX8_number_5 (by decide) ?_
  replace h := bd_at h
  obtain ⟨r6, z6, e6, h⟩ := h
  refine r_calli (rest := []) hC hI oX_0 (C := "EqualCourt") rfl ywX8_madeTerm tw_329 (cX8_madeTerm_ok  e6) ⟨Nat.le_of_ble_eq_true rfl, Nat.le_of_ble_eq_true rfl⟩ ⟨rfl, rfl⟩ rfl hl.1 rfl (Nat.le_of_ble_eq_true rfl) dX8_number_6 (fun H locs hI => ?_)
  exact hret h dX8_number_9 hI
theorem dX8_built_0 : decode cX8_built 0 = .ok (.iload_n 1, 1) := by decide +kernel
theorem dX8_built_1 : decode cX8_built 1 = .ok (.ifCond .lt 9, 3) := by decide +kernel
theorem dX8_built_4 : decode cX8_built 4 = .ok (.iload_n 1, 1) := by decide +kernel
theorem dX8_built_5 : decode cX8_built 5 = .ok (.bipush 20, 2) := by decide +kernel
theorem dX8_built_7 : decode cX8_built 7 = .ok (.if_icmp .lt 9, 3) := by decide +kernel
theorem dX8_built_10 : decode cX8_built 10 = .ok (.aload_n 0, 1) := by decide +kernel
theorem dX8_built_11 : decode cX8_built 11 = .ok (.iconst 1, 1) := by decide +kernel
theorem dX8_built_12 : decode cX8_built 12 = .ok (.invokevirtual 78, 3) := by decide +kernel
theorem dX8_built_15 : decode cX8_built 15 = .ok (.ireturn, 1) := by decide +kernel
theorem dX8_built_16 : decode cX8_built 16 = .ok (.iload_n 2, 1) := by decide +kernel
theorem dX8_built_17 : decode cX8_built 17 = .ok (.ifCond .ge 10, 3) := by decide +kernel
theorem dX8_built_20 : decode cX8_built 20 = .ok (.aload_n 0, 1) := by decide +kernel
theorem dX8_built_21 : decode cX8_built 21 = .ok (.bipush 8, 2) := by decide +kernel
theorem dX8_built_23 : decode cX8_built 23 = .ok (.invokevirtual 78, 3) := by decide +kernel
theorem dX8_built_26 : decode cX8_built 26 = .ok (.ireturn, 1) := by decide +kernel
theorem dX8_built_27 : decode cX8_built 27 = .ok (.iload_n 2, 1) := by decide +kernel
theorem dX8_built_28 : decode cX8_built 28 = .ok (.iconst 1, 1) := by decide +kernel
theorem dX8_built_29 : decode cX8_built 29 = .ok (.if_icmp .lt 53, 3) := by decide +kernel
theorem dX8_built_32 : decode cX8_built 32 = .ok (.iload_n 2, 1) := by decide +kernel
theorem dX8_built_33 : decode cX8_built 33 = .ok (.iconst 3, 1) := by decide +kernel
theorem dX8_built_34 : decode cX8_built 34 = .ok (.if_icmp .gt 48, 3) := by decide +kernel
theorem dX8_built_37 : decode cX8_built 37 = .ok (.aload_n 0, 1) := by decide +kernel
theorem dX8_built_38 : decode cX8_built 38 = .ok (.getfield 10, 3) := by decide +kernel
theorem dX8_built_41 : decode cX8_built 41 = .ok (.iload_n 3, 1) := by decide +kernel
theorem dX8_built_42 : decode cX8_built 42 = .ok (.invokevirtual 86, 3) := by decide +kernel
theorem dX8_built_45 : decode cX8_built 45 = .ok (.ifCond .eq 37, 3) := by decide +kernel
theorem dX8_built_48 : decode cX8_built 48 = .ok (.iload_n 2, 1) := by decide +kernel
theorem dX8_built_49 : decode cX8_built 49 = .ok (.iconst 1, 1) := by decide +kernel
theorem dX8_built_50 : decode cX8_built 50 = .ok (.if_icmp .le 15, 3) := by decide +kernel
theorem dX8_built_53 : decode cX8_built 53 = .ok (.aload_n 0, 1) := by decide +kernel
theorem dX8_built_54 : decode cX8_built 54 = .ok (.getfield 10, 3) := by decide +kernel
theorem dX8_built_57 : decode cX8_built 57 = .ok (.iload 4, 2) := by decide +kernel
theorem dX8_built_59 : decode cX8_built 59 = .ok (.invokevirtual 86, 3) := by decide +kernel
theorem dX8_built_62 : decode cX8_built 62 = .ok (.ifCond .eq 20, 3) := by decide +kernel
theorem dX8_built_65 : decode cX8_built 65 = .ok (.iload_n 2, 1) := by decide +kernel
theorem dX8_built_66 : decode cX8_built 66 = .ok (.iconst 2, 1) := by decide +kernel
theorem dX8_built_67 : decode cX8_built 67 = .ok (.if_icmp .le 21, 3) := by decide +kernel
theorem dX8_built_70 : decode cX8_built 70 = .ok (.aload_n 0, 1) := by decide +kernel
theorem dX8_built_71 : decode cX8_built 71 = .ok (.getfield 10, 3) := by decide +kernel
theorem dX8_built_74 : decode cX8_built 74 = .ok (.iload 5, 2) := by decide +kernel
theorem dX8_built_76 : decode cX8_built 76 = .ok (.invokevirtual 86, 3) := by decide +kernel
theorem dX8_built_79 : decode cX8_built 79 = .ok (.ifCond .ne 9, 3) := by decide +kernel
theorem dX8_built_82 : decode cX8_built 82 = .ok (.aload_n 0, 1) := by decide +kernel
theorem dX8_built_83 : decode cX8_built 83 = .ok (.iconst 1, 1) := by decide +kernel
theorem dX8_built_84 : decode cX8_built 84 = .ok (.invokevirtual 78, 3) := by decide +kernel
theorem dX8_built_87 : decode cX8_built 87 = .ok (.ireturn, 1) := by decide +kernel
theorem dX8_built_88 : decode cX8_built 88 = .ok (.aload_n 0, 1) := by decide +kernel
theorem dX8_built_89 : decode cX8_built 89 = .ok (.iconst 2, 1) := by decide +kernel
theorem dX8_built_90 : decode cX8_built 90 = .ok (.iload_n 1, 1) := by decide +kernel
theorem dX8_built_91 : decode cX8_built 91 = .ok (.iload_n 3, 1) := by decide +kernel
theorem dX8_built_92 : decode cX8_built 92 = .ok (.iload_n 2, 1) := by decide +kernel
theorem dX8_built_93 : decode cX8_built 93 = .ok (.iconst 1, 1) := by decide +kernel
theorem dX8_built_94 : decode cX8_built 94 = .ok (.if_icmp .le 8, 3) := by decide +kernel
theorem dX8_built_97 : decode cX8_built 97 = .ok (.iload 4, 2) := by decide +kernel
theorem dX8_built_99 : decode cX8_built 99 = .ok (.goto 4, 3) := by decide +kernel
theorem dX8_built_102 : decode cX8_built 102 = .ok (.iconst (-1), 1) := by decide +kernel
theorem dX8_built_103 : decode cX8_built 103 = .ok (.iload_n 2, 1) := by decide +kernel
theorem dX8_built_104 : decode cX8_built 104 = .ok (.iconst 2, 1) := by decide +kernel
theorem dX8_built_105 : decode cX8_built 105 = .ok (.if_icmp .le 8, 3) := by decide +kernel
theorem dX8_built_108 : decode cX8_built 108 = .ok (.iload 5, 2) := by decide +kernel
theorem dX8_built_110 : decode cX8_built 110 = .ok (.goto 4, 3) := by decide +kernel
theorem dX8_built_113 : decode cX8_built 113 = .ok (.iconst (-1), 1) := by decide +kernel
theorem dX8_built_114 : decode cX8_built 114 = .ok (.invokevirtual 82, 3) := by decide +kernel
theorem dX8_built_117 : decode cX8_built 117 = .ok (.ireturn, 1) := by decide +kernel
abbrev rmX8_built : Room := { frames := 6, cells := 0, slots := 0, locals := 150 }
theorem ywX8_built : fY yX8_built "EqualCourt" cX8_built 6 (some .int) 5 := ⟨tw_448, tw_449, tw_1, tw_450, by decide +kernel⟩
set_option maxHeartbeats 4000000 in
set_option maxRecDepth 100000 in
theorem cX8_built_ok {D : va_G} {ad : Nat → Nat} {cy cz : ClassId} {l : Launch} {z : fS} {v1 : Int32} {v2 : Int32} {v3 : Int32} {v4 : Int32} {v5 : Int32} {r : Int32} {τ : fS} (h : fX8_built z v1 v2 v3 v4 v5 = some (r, τ)) : fMi D 76 ad (cfX ad cy cz) cy cz l yX8_built cX8_built 6 (some .int) rmX8_built [.ref (ad 0), .int v1, .int v2, .int v3, .int v4, .int v5] z r τ := by
  refine f_bodyi (by decide) (Nat.le_of_ble_eq_true rfl) (fun p e s m args below meth c Q hC hret ls hl hI => ?_)
  have hx := hC.1
  have hb := hC.2.1
  have hl : lv_has ls 6 [(0, .ref (ad 0)), (1, .int v1), (2, .int v2), (3, .int v3), (4, .int v4), (5, .int v5)] := hl
  unfold fX8_built at h
  have w103 : ∀ (v2 : Int32) (v5 : Int32) (y0 : Int32) (y1 : Int32) (y2 : Int32) (y3 : Int32) (z : fS) (H : Heap) (locs : List Loc) (ls : Array Slot), fI D 76 ad (cfX ad cy cz) z s H locs → lv_has ls 6 [(2, .int v2), (5, .int v5)] → jX8_built_103   v2 v5 y0 y1 y2 y3 z = some (r, τ) → W p l e rmX8_built s m args below meth c H locs 0 0 Q (F0 m 103 ls [.int y0, .int y1, .int y2, .int y3, .ref (ad 0)]) := by
    intro v2 v5 y0 y1 y2 y3 z H locs ls hI hl h
    unfold jX8_built_103 at h
    refine lv_iload_n hx hb dX8_built_103 rfl (lv_at hl 0 rfl) ?_
    refine lv_iconst (v := 2) hx hb dX8_built_104 (by decide) ?_
    refine lv_icmp_le (tgt := 113) hx hb dX8_built_105 (by decide) (fun c105 => ?_) (fun c105 => ?_)
    · replace h := if_t h c105
      refine lv_iconst (v := -1) hx hb dX8_built_113 (by decide) ?_
      replace h := bd_at h
      obtain ⟨r114, z114, e114, h⟩ := h
      refine r_calli (rest := []) hC hI oX_0 (C := "EqualCourt") rfl ywX8_madeTerm tw_329 (cX8_madeTerm_ok  e114) ⟨Nat.le_of_ble_eq_true rfl, Nat.le_of_ble_eq_true rfl⟩ ⟨rfl, rfl⟩ rfl hl.1 rfl (Nat.le_of_ble_eq_true rfl) dX8_built_114 (fun H locs hI => ?_)
      exact hret h dX8_built_117 hI
    · replace h := if_f h c105
      refine lv_iload hx hb dX8_built_108 (lv_at hl 1 rfl) ?_
      refine lv_goto (tgt := 114) hx hb dX8_built_110 (by decide) ?_
      replace h := bd_at h
      obtain ⟨r114, z114, e114, h⟩ := h
      refine r_calli (rest := []) hC hI oX_0 (C := "EqualCourt") rfl ywX8_madeTerm tw_329 (cX8_madeTerm_ok  e114) ⟨Nat.le_of_ble_eq_true rfl, Nat.le_of_ble_eq_true rfl⟩ ⟨rfl, rfl⟩ rfl hl.1 rfl (Nat.le_of_ble_eq_true rfl) dX8_built_114 (fun H locs hI => ?_)
      exact hret h dX8_built_117 hI
  have w88 : ∀ (v1 : Int32) (v2 : Int32) (v3 : Int32) (v4 : Int32) (v5 : Int32) (z : fS) (H : Heap) (locs : List Loc) (ls : Array Slot), fI D 76 ad (cfX ad cy cz) z s H locs → lv_has ls 6 [(0, .ref (ad 0)), (1, .int v1), (2, .int v2), (3, .int v3), (4, .int v4), (5, .int v5)] → jX8_built_88   v1 v2 v3 v4 v5 z = some (r, τ) → W p l e rmX8_built s m args below meth c H locs 0 0 Q (F0 m 88 ls []) := by
    intro v1 v2 v3 v4 v5 z H locs ls hI hl h
    unfold jX8_built_88 at h
    refine lv_aload_n hx hb dX8_built_88 rfl (lv_at hl 0 rfl) ?_
    refine lv_iconst (v := 2) hx hb dX8_built_89 (by decide) ?_
    refine lv_iload_n hx hb dX8_built_90 rfl (lv_at hl 1 rfl) ?_
    refine lv_iload_n hx hb dX8_built_91 rfl (lv_at hl 3 rfl) ?_
    refine lv_iload_n hx hb dX8_built_92 rfl (lv_at hl 2 rfl) ?_
    refine lv_iconst (v := 1) hx hb dX8_built_93 (by decide) ?_
    refine lv_icmp_le (tgt := 102) hx hb dX8_built_94 (by decide) (fun c94 => ?_) (fun c94 => ?_)
    · replace h := if_t h c94
      refine lv_iconst (v := -1) hx hb dX8_built_102 (by decide) ?_
      exact w103 v2 v5 (-1 : Int32) v3 v1 (2 : Int32) z _ _ _ hI (lv_sub hl [2, 5] rfl) h
    · replace h := if_f h c94
      refine lv_iload hx hb dX8_built_97 (lv_at hl 4 rfl) ?_
      refine lv_goto (tgt := 103) hx hb dX8_built_99 (by decide) ?_
      exact w103 v2 v5 v4 v3 v1 (2 : Int32) z _ _ _ hI (lv_sub hl [2, 5] rfl) h
  have w65 : ∀ (v1 : Int32) (v2 : Int32) (v3 : Int32) (v4 : Int32) (v5 : Int32) (z : fS) (H : Heap) (locs : List Loc) (ls : Array Slot), fI D 76 ad (cfX ad cy cz) z s H locs → lv_has ls 6 [(0, .ref (ad 0)), (1, .int v1), (2, .int v2), (3, .int v3), (4, .int v4), (5, .int v5)] → jX8_built_65   v1 v2 v3 v4 v5 z = some (r, τ) → W p l e rmX8_built s m args below meth c H locs 0 0 Q (F0 m 65 ls []) := by
    intro v1 v2 v3 v4 v5 z H locs ls hI hl h
    unfold jX8_built_65 at h
    refine lv_iload_n hx hb dX8_built_65 rfl (lv_at hl 2 rfl) ?_
    refine lv_iconst (v := 2) hx hb dX8_built_66 (by decide) ?_
    refine lv_icmp_le (tgt := 88) hx hb dX8_built_67 (by decide) (fun c67 => ?_) (fun c67 => ?_)
    · replace h := if_t h c67
      exact w88 v1 v2 v3 v4 v5 z _ _ _ hI hl h
    · replace h := if_f h c67
      refine lv_aload_n hx hb dX8_built_70 rfl (lv_at hl 0 rfl) ?_
      refine gX8_terms hC hI tw_281 dX8_built_71 ?_
      refine lv_iload hx hb dX8_built_74 (lv_at hl 5 rfl) ?_
      replace h := bp_at h
      obtain ⟨r76, e76, h⟩ := h
      refine r_calli (rest := []) hC hI oX_1 (C := "EqualCourt$Terms") rfl ywX7_has tw_451 (cX7_has_ok  e76) ⟨Nat.le_of_ble_eq_true rfl, Nat.le_of_ble_eq_true rfl⟩ ⟨rfl, rfl⟩ rfl hl.1 rfl (Nat.le_of_ble_eq_true rfl) dX8_built_76 (fun H locs hI => ?_)
      refine lv_if_ne (tgt := 88) hx hb dX8_built_79 (by decide) (fun c79 => ?_) (fun c79 => ?_)
      · replace h := if_f h c79
        exact w88 v1 v2 v3 v4 v5 z _ _ _ hI hl h
      · replace h := if_t h c79
        refine lv_aload_n hx hb dX8_built_82 rfl (lv_at hl 0 rfl) ?_
        refine lv_iconst (v := 1) hx hb dX8_built_83 (by decide) ?_
        replace h := bd_at h
        obtain ⟨r84, z84, e84, h⟩ := h
        refine r_calli (rest := []) hC hI oX_0 (C := "EqualCourt") rfl ywX8_refused tw_325 (cX8_refused_ok  e84) ⟨Nat.le_of_ble_eq_true rfl, Nat.le_of_ble_eq_true rfl⟩ ⟨rfl, rfl⟩ rfl hl.1 rfl (Nat.le_of_ble_eq_true rfl) dX8_built_84 (fun H locs hI => ?_)
        exact hret h dX8_built_87 hI
  refine lv_iload_n hx hb dX8_built_0 rfl (lv_at hl 1 rfl) ?_
  refine lv_if_lt (tgt := 10) hx hb dX8_built_1 (by decide) (fun c1 => ?_) (fun c1 => ?_)
  · replace h := if_t h c1
    refine lv_aload_n hx hb dX8_built_10 rfl (lv_at hl 0 rfl) ?_
    refine lv_iconst (v := 1) hx hb dX8_built_11 (by decide) ?_
    replace h := bd_at h
    obtain ⟨r12, z12, e12, h⟩ := h
    refine r_calli (rest := []) hC hI oX_0 (C := "EqualCourt") rfl ywX8_refused tw_325 (cX8_refused_ok  e12) ⟨Nat.le_of_ble_eq_true rfl, Nat.le_of_ble_eq_true rfl⟩ ⟨rfl, rfl⟩ rfl hl.1 rfl (Nat.le_of_ble_eq_true rfl) dX8_built_12 (fun H locs hI => ?_)
    exact hret h dX8_built_15 hI
  · replace h := if_f h c1
    refine lv_iload_n hx hb dX8_built_4 rfl (lv_at hl 1 rfl) ?_
    refine lv_bipush (v := 20) hx hb dX8_built_5 (by decide) ?_
    refine lv_icmp_lt (tgt := 16) hx hb dX8_built_7 (by decide) (fun c7 => ?_) (fun c7 => ?_)
    · replace h := if_t h c7
      refine lv_iload_n hx hb dX8_built_16 rfl (lv_at hl 2 rfl) ?_
      refine lv_if_ge (tgt := 27) hx hb dX8_built_17 (by decide) (fun c17 => ?_) (fun c17 => ?_)
      · replace h := if_t h c17
        refine lv_iload_n hx hb dX8_built_27 rfl (lv_at hl 2 rfl) ?_
        refine lv_iconst (v := 1) hx hb dX8_built_28 (by decide) ?_
        refine lv_icmp_lt (tgt := 82) hx hb dX8_built_29 (by decide) (fun c29 => ?_) (fun c29 => ?_)
        · replace h := if_t h c29
          refine lv_aload_n hx hb dX8_built_82 rfl (lv_at hl 0 rfl) ?_
          refine lv_iconst (v := 1) hx hb dX8_built_83 (by decide) ?_
          replace h := bd_at h
          obtain ⟨r84, z84, e84, h⟩ := h
          refine r_calli (rest := []) hC hI oX_0 (C := "EqualCourt") rfl ywX8_refused tw_325 (cX8_refused_ok  e84) ⟨Nat.le_of_ble_eq_true rfl, Nat.le_of_ble_eq_true rfl⟩ ⟨rfl, rfl⟩ rfl hl.1 rfl (Nat.le_of_ble_eq_true rfl) dX8_built_84 (fun H locs hI => ?_)
          exact hret h dX8_built_87 hI
        · replace h := if_f h c29
          refine lv_iload_n hx hb dX8_built_32 rfl (lv_at hl 2 rfl) ?_
          refine lv_iconst (v := 3) hx hb dX8_built_33 (by decide) ?_
          refine lv_icmp_gt (tgt := 82) hx hb dX8_built_34 (by decide) (fun c34 => ?_) (fun c34 => ?_)
          · replace h := if_t h c34
            refine lv_aload_n hx hb dX8_built_82 rfl (lv_at hl 0 rfl) ?_
            refine lv_iconst (v := 1) hx hb dX8_built_83 (by decide) ?_
            replace h := bd_at h
            obtain ⟨r84, z84, e84, h⟩ := h
            refine r_calli (rest := []) hC hI oX_0 (C := "EqualCourt") rfl ywX8_refused tw_325 (cX8_refused_ok  e84) ⟨Nat.le_of_ble_eq_true rfl, Nat.le_of_ble_eq_true rfl⟩ ⟨rfl, rfl⟩ rfl hl.1 rfl (Nat.le_of_ble_eq_true rfl) dX8_built_84 (fun H locs hI => ?_)
            exact hret h dX8_built_87 hI
          · replace h := if_f h c34
            refine lv_aload_n hx hb dX8_built_37 rfl (lv_at hl 0 rfl) ?_
            refine gX8_terms hC hI tw_281 dX8_built_38 ?_
            refine lv_iload_n hx hb dX8_built_41 rfl (lv_at hl 3 rfl) ?_
            replace h := bp_at h
            obtain ⟨r42, e42, h⟩ := h
            refine r_calli (rest := []) hC hI oX_1 (C := "EqualCourt$Terms") rfl ywX7_has tw_451 (cX7_has_ok  e42) ⟨Nat.le_of_ble_eq_true rfl, Nat.le_of_ble_eq_true rfl⟩ ⟨rfl, rfl⟩ rfl hl.1 rfl (Nat.le_of_ble_eq_true rfl) dX8_built_42 (fun H locs hI => ?_)
            refine lv_if_eq (tgt := 82) hx hb dX8_built_45 (by decide) (fun c45 => ?_) (fun c45 => ?_)
            · replace h := if_t h c45
              refine lv_aload_n hx hb dX8_built_82 rfl (lv_at hl 0 rfl) ?_
              refine lv_iconst (v := 1) hx hb dX8_built_83 (by decide) ?_
              replace h := bd_at h
              obtain ⟨r84, z84, e84, h⟩ := h
              refine r_calli (rest := []) hC hI oX_0 (C := "EqualCourt") rfl ywX8_refused tw_325 (cX8_refused_ok  e84) ⟨Nat.le_of_ble_eq_true rfl, Nat.le_of_ble_eq_true rfl⟩ ⟨rfl, rfl⟩ rfl hl.1 rfl (Nat.le_of_ble_eq_true rfl) dX8_built_84 (fun H locs hI => ?_)
              exact hret h dX8_built_87 hI
            · replace h := if_f h c45
              refine lv_iload_n hx hb dX8_built_48 rfl (lv_at hl 2 rfl) ?_
              refine lv_iconst (v := 1) hx hb dX8_built_49 (by decide) ?_
              refine lv_icmp_le (tgt := 65) hx hb dX8_built_50 (by decide) (fun c50 => ?_) (fun c50 => ?_)
              · replace h := if_t h c50
                exact w65 v1 v2 v3 v4 v5 z _ _ _ hI hl h
              · replace h := if_f h c50
                refine lv_aload_n hx hb dX8_built_53 rfl (lv_at hl 0 rfl) ?_
                refine gX8_terms hC hI tw_281 dX8_built_54 ?_
                refine lv_iload hx hb dX8_built_57 (lv_at hl 4 rfl) ?_
                replace h := bp_at h
                obtain ⟨r59, e59, h⟩ := h
                refine r_calli (rest := []) hC hI oX_1 (C := "EqualCourt$Terms") rfl ywX7_has tw_451 (cX7_has_ok  e59) ⟨Nat.le_of_ble_eq_true rfl, Nat.le_of_ble_eq_true rfl⟩ ⟨rfl, rfl⟩ rfl hl.1 rfl (Nat.le_of_ble_eq_true rfl) dX8_built_59 (fun H locs hI => ?_)
                refine lv_if_eq (tgt := 82) hx hb dX8_built_62 (by decide) (fun c62 => ?_) (fun c62 => ?_)
                · replace h := if_t h c62
                  refine lv_aload_n hx hb dX8_built_82 rfl (lv_at hl 0 rfl) ?_
                  refine lv_iconst (v := 1) hx hb dX8_built_83 (by decide) ?_
                  replace h := bd_at h
                  obtain ⟨r84, z84, e84, h⟩ := h
                  refine r_calli (rest := []) hC hI oX_0 (C := "EqualCourt") rfl ywX8_refused tw_325 (cX8_refused_ok  e84) ⟨Nat.le_of_ble_eq_true rfl, Nat.le_of_ble_eq_true rfl⟩ ⟨rfl, rfl⟩ rfl hl.1 rfl (Nat.le_of_ble_eq_true rfl) dX8_built_84 (fun H locs hI => ?_)
                  exact hret h dX8_built_87 hI
                · replace h := if_f h c62
                  exact w65 v1 v2 v3 v4 v5 z _ _ _ hI hl h
      · replace h := if_f h c17
        refine lv_aload_n hx hb dX8_built_20 rfl (lv_at hl 0 rfl) ?_
        refine lv_bipush (v := 8) hx hb dX8_built_21 (by decide) ?_
        replace h := bd_at h
        obtain ⟨r23, z23, e23, h⟩ := h
        refine r_calli (rest := []) hC hI oX_0 (C := "EqualCourt") rfl ywX8_refused tw_325 (cX8_refused_ok  e23) ⟨Nat.le_of_ble_eq_true rfl, Nat.le_of_ble_eq_true rfl⟩ ⟨rfl, rfl⟩ rfl hl.1 rfl (Nat.le_of_ble_eq_true rfl) dX8_built_23 (fun H locs hI => ?_)
        exact hret h dX8_built_26 hI
    · replace h := if_f h c7
      refine lv_aload_n hx hb dX8_built_10 rfl (lv_at hl 0 rfl) ?_
      refine lv_iconst (v := 1) hx hb dX8_built_11 (by decide) ?_
      replace h := bd_at h
      obtain ⟨r12, z12, e12, h⟩ := h
      refine r_calli (rest := []) hC hI oX_0 (C := "EqualCourt") rfl ywX8_refused tw_325 (cX8_refused_ok  e12) ⟨Nat.le_of_ble_eq_true rfl, Nat.le_of_ble_eq_true rfl⟩ ⟨rfl, rfl⟩ rfl hl.1 rfl (Nat.le_of_ble_eq_true rfl) dX8_built_12 (fun H locs hI => ?_)
      exact hret h dX8_built_15 hI
theorem dX8_row_0 : decode cX8_row 0 = .ok (.aload_n 0, 1) := by decide +kernel
theorem dX8_row_1 : decode cX8_row 1 = .ok (.getfield 10, 3) := by decide +kernel
theorem dX8_row_4 : decode cX8_row 4 = .ok (.iload_n 1, 1) := by decide +kernel
theorem dX8_row_5 : decode cX8_row 5 = .ok (.invokevirtual 86, 3) := by decide +kernel
theorem dX8_row_8 : decode cX8_row 8 = .ok (.ifCond .eq 14, 3) := by decide +kernel
theorem dX8_row_11 : decode cX8_row 11 = .ok (.aload_n 0, 1) := by decide +kernel
theorem dX8_row_12 : decode cX8_row 12 = .ok (.getfield 10, 3) := by decide +kernel
theorem dX8_row_15 : decode cX8_row 15 = .ok (.iload_n 2, 1) := by decide +kernel
theorem dX8_row_16 : decode cX8_row 16 = .ok (.invokevirtual 86, 3) := by decide +kernel
theorem dX8_row_19 : decode cX8_row 19 = .ok (.ifCond .ne 9, 3) := by decide +kernel
theorem dX8_row_22 : decode cX8_row 22 = .ok (.aload_n 0, 1) := by decide +kernel
theorem dX8_row_23 : decode cX8_row 23 = .ok (.iconst 1, 1) := by decide +kernel
theorem dX8_row_24 : decode cX8_row 24 = .ok (.invokevirtual 78, 3) := by decide +kernel
theorem dX8_row_27 : decode cX8_row 27 = .ok (.ireturn, 1) := by decide +kernel
theorem dX8_row_28 : decode cX8_row 28 = .ok (.aload_n 0, 1) := by decide +kernel
theorem dX8_row_29 : decode cX8_row 29 = .ok (.iconst 3, 1) := by decide +kernel
theorem dX8_row_30 : decode cX8_row 30 = .ok (.iconst 0, 1) := by decide +kernel
theorem dX8_row_31 : decode cX8_row 31 = .ok (.iload_n 1, 1) := by decide +kernel
theorem dX8_row_32 : decode cX8_row 32 = .ok (.iload_n 2, 1) := by decide +kernel
theorem dX8_row_33 : decode cX8_row 33 = .ok (.iconst (-1), 1) := by decide +kernel
theorem dX8_row_34 : decode cX8_row 34 = .ok (.invokevirtual 82, 3) := by decide +kernel
theorem dX8_row_37 : decode cX8_row 37 = .ok (.ireturn, 1) := by decide +kernel
abbrev rmX8_row : Room := { frames := 6, cells := 0, slots := 0, locals := 150 }
theorem ywX8_row : fY yX8_row "EqualCourt" cX8_row 3 (some .int) 2 := ⟨tw_456, tw_457, tw_1, tw_458, by decide +kernel⟩
set_option maxHeartbeats 4000000 in
set_option maxRecDepth 100000 in
theorem cX8_row_ok {D : va_G} {ad : Nat → Nat} {cy cz : ClassId} {l : Launch} {z : fS} {v1 : Int32} {v2 : Int32} {r : Int32} {τ : fS} (h : fX8_row z v1 v2 = some (r, τ)) : fMi D 76 ad (cfX ad cy cz) cy cz l yX8_row cX8_row 3 (some .int) rmX8_row [.ref (ad 0), .int v1, .int v2] z r τ := by
  refine f_bodyi (by decide) (Nat.le_of_ble_eq_true rfl) (fun p e s m args below meth c Q hC hret ls hl hI => ?_)
  have hx := hC.1
  have hb := hC.2.1
  have hl : lv_has ls 3 [(0, .ref (ad 0)), (1, .int v1), (2, .int v2)] := hl
  unfold fX8_row at h
  refine lv_aload_n hx hb dX8_row_0 rfl (lv_at hl 0 rfl) ?_
  refine gX8_terms hC hI tw_281 dX8_row_1 ?_
  refine lv_iload_n hx hb dX8_row_4 rfl (lv_at hl 1 rfl) ?_
  replace h := bp_at h
  obtain ⟨r5, e5, h⟩ := h
  refine r_calli (rest := []) hC hI oX_1 (C := "EqualCourt$Terms") rfl ywX7_has tw_451 (cX7_has_ok  e5) ⟨Nat.le_of_ble_eq_true rfl, Nat.le_of_ble_eq_true rfl⟩ ⟨rfl, rfl⟩ rfl hl.1 rfl (Nat.le_of_ble_eq_true rfl) dX8_row_5 (fun H locs hI => ?_)
  refine lv_if_eq (tgt := 22) hx hb dX8_row_8 (by decide) (fun c8 => ?_) (fun c8 => ?_)
  · replace h := if_t h c8
    refine lv_aload_n hx hb dX8_row_22 rfl (lv_at hl 0 rfl) ?_
    refine lv_iconst (v := 1) hx hb dX8_row_23 (by decide) ?_
    replace h := bd_at h
    obtain ⟨r24, z24, e24, h⟩ := h
    refine r_calli (rest := []) hC hI oX_0 (C := "EqualCourt") rfl ywX8_refused tw_325 (cX8_refused_ok  e24) ⟨Nat.le_of_ble_eq_true rfl, Nat.le_of_ble_eq_true rfl⟩ ⟨rfl, rfl⟩ rfl hl.1 rfl (Nat.le_of_ble_eq_true rfl) dX8_row_24 (fun H locs hI => ?_)
    exact hret h dX8_row_27 hI
  · replace h := if_f h c8
    refine lv_aload_n hx hb dX8_row_11 rfl (lv_at hl 0 rfl) ?_
    refine gX8_terms hC hI tw_281 dX8_row_12 ?_
    refine lv_iload_n hx hb dX8_row_15 rfl (lv_at hl 2 rfl) ?_
    replace h := bp_at h
    obtain ⟨r16, e16, h⟩ := h
    refine r_calli (rest := []) hC hI oX_1 (C := "EqualCourt$Terms") rfl ywX7_has tw_451 (cX7_has_ok  e16) ⟨Nat.le_of_ble_eq_true rfl, Nat.le_of_ble_eq_true rfl⟩ ⟨rfl, rfl⟩ rfl hl.1 rfl (Nat.le_of_ble_eq_true rfl) dX8_row_16 (fun H locs hI => ?_)
    refine lv_if_ne (tgt := 28) hx hb dX8_row_19 (by decide) (fun c19 => ?_) (fun c19 => ?_)
    · replace h := if_f h c19
      refine lv_aload_n hx hb dX8_row_28 rfl (lv_at hl 0 rfl) ?_
      refine lv_iconst (v := 3) hx hb dX8_row_29 (by decide) ?_
      refine lv_iconst (v := 0) hx hb dX8_row_30 (by decide) ?_
      refine lv_iload_n hx hb dX8_row_31 rfl (lv_at hl 1 rfl) ?_
      refine lv_iload_n hx hb dX8_row_32 rfl (lv_at hl 2 rfl) ?_
      refine lv_iconst (v := -1) hx hb dX8_row_33 (by decide) ?_
      replace h := bd_at h
      obtain ⟨r34, z34, e34, h⟩ := h
      refine r_calli (rest := []) hC hI oX_0 (C := "EqualCourt") rfl ywX8_madeTerm tw_329 (cX8_madeTerm_ok  e34) ⟨Nat.le_of_ble_eq_true rfl, Nat.le_of_ble_eq_true rfl⟩ ⟨rfl, rfl⟩ rfl hl.1 rfl (Nat.le_of_ble_eq_true rfl) dX8_row_34 (fun H locs hI => ?_)
      exact hret h dX8_row_37 hI
    · replace h := if_t h c19
      refine lv_aload_n hx hb dX8_row_22 rfl (lv_at hl 0 rfl) ?_
      refine lv_iconst (v := 1) hx hb dX8_row_23 (by decide) ?_
      replace h := bd_at h
      obtain ⟨r24, z24, e24, h⟩ := h
      refine r_calli (rest := []) hC hI oX_0 (C := "EqualCourt") rfl ywX8_refused tw_325 (cX8_refused_ok  e24) ⟨Nat.le_of_ble_eq_true rfl, Nat.le_of_ble_eq_true rfl⟩ ⟨rfl, rfl⟩ rfl hl.1 rfl (Nat.le_of_ble_eq_true rfl) dX8_row_24 (fun H locs hI => ?_)
      exact hret h dX8_row_27 hI
theorem dX8_even_0 : decode cX8_even 0 = .ok (.iload_n 1, 1) := by decide +kernel
theorem dX8_even_1 : decode cX8_even 1 = .ok (.ifCond .lt 31, 3) := by decide +kernel
theorem dX8_even_4 : decode cX8_even 4 = .ok (.iload_n 1, 1) := by decide +kernel
theorem dX8_even_5 : decode cX8_even 5 = .ok (.bipush 20, 2) := by decide +kernel
theorem dX8_even_7 : decode cX8_even 7 = .ok (.if_icmp .ge 25, 3) := by decide +kernel
theorem dX8_even_10 : decode cX8_even 10 = .ok (.aload_n 0, 1) := by decide +kernel
theorem dX8_even_11 : decode cX8_even 11 = .ok (.getfield 10, 3) := by decide +kernel
theorem dX8_even_14 : decode cX8_even 14 = .ok (.iload_n 2, 1) := by decide +kernel
theorem dX8_even_15 : decode cX8_even 15 = .ok (.invokevirtual 86, 3) := by decide +kernel
theorem dX8_even_18 : decode cX8_even 18 = .ok (.ifCond .eq 14, 3) := by decide +kernel
theorem dX8_even_21 : decode cX8_even 21 = .ok (.aload_n 0, 1) := by decide +kernel
theorem dX8_even_22 : decode cX8_even 22 = .ok (.getfield 10, 3) := by decide +kernel
theorem dX8_even_25 : decode cX8_even 25 = .ok (.iload_n 3, 1) := by decide +kernel
theorem dX8_even_26 : decode cX8_even 26 = .ok (.invokevirtual 86, 3) := by decide +kernel
theorem dX8_even_29 : decode cX8_even 29 = .ok (.ifCond .ne 9, 3) := by decide +kernel
theorem dX8_even_32 : decode cX8_even 32 = .ok (.aload_n 0, 1) := by decide +kernel
theorem dX8_even_33 : decode cX8_even 33 = .ok (.iconst 1, 1) := by decide +kernel
theorem dX8_even_34 : decode cX8_even 34 = .ok (.invokevirtual 78, 3) := by decide +kernel
theorem dX8_even_37 : decode cX8_even 37 = .ok (.ireturn, 1) := by decide +kernel
theorem dX8_even_38 : decode cX8_even 38 = .ok (.aload_n 0, 1) := by decide +kernel
theorem dX8_even_39 : decode cX8_even 39 = .ok (.iconst 4, 1) := by decide +kernel
theorem dX8_even_40 : decode cX8_even 40 = .ok (.iload_n 1, 1) := by decide +kernel
theorem dX8_even_41 : decode cX8_even 41 = .ok (.iload_n 2, 1) := by decide +kernel
theorem dX8_even_42 : decode cX8_even 42 = .ok (.iload_n 3, 1) := by decide +kernel
theorem dX8_even_43 : decode cX8_even 43 = .ok (.iconst (-1), 1) := by decide +kernel
theorem dX8_even_44 : decode cX8_even 44 = .ok (.invokevirtual 82, 3) := by decide +kernel
theorem dX8_even_47 : decode cX8_even 47 = .ok (.ireturn, 1) := by decide +kernel
abbrev rmX8_even : Room := { frames := 6, cells := 0, slots := 0, locals := 150 }
theorem ywX8_even : fY yX8_even "EqualCourt" cX8_even 4 (some .int) 3 := ⟨tw_460, tw_461, tw_1, tw_462, by decide +kernel⟩
set_option maxHeartbeats 4000000 in
set_option maxRecDepth 100000 in
theorem cX8_even_ok {D : va_G} {ad : Nat → Nat} {cy cz : ClassId} {l : Launch} {z : fS} {v1 : Int32} {v2 : Int32} {v3 : Int32} {r : Int32} {τ : fS} (h : fX8_even z v1 v2 v3 = some (r, τ)) : fMi D 76 ad (cfX ad cy cz) cy cz l yX8_even cX8_even 4 (some .int) rmX8_even [.ref (ad 0), .int v1, .int v2, .int v3] z r τ := by
  refine f_bodyi (by decide) (Nat.le_of_ble_eq_true rfl) (fun p e s m args below meth c Q hC hret ls hl hI => ?_)
  have hx := hC.1
  have hb := hC.2.1
  have hl : lv_has ls 4 [(0, .ref (ad 0)), (1, .int v1), (2, .int v2), (3, .int v3)] := hl
  unfold fX8_even at h
  refine lv_iload_n hx hb dX8_even_0 rfl (lv_at hl 1 rfl) ?_
  refine lv_if_lt (tgt := 32) hx hb dX8_even_1 (by decide) (fun c1 => ?_) (fun c1 => ?_)
  · replace h := if_t h c1
    refine lv_aload_n hx hb dX8_even_32 rfl (lv_at hl 0 rfl) ?_
    refine lv_iconst (v := 1) hx hb dX8_even_33 (by decide) ?_
    replace h := bd_at h
    obtain ⟨r34, z34, e34, h⟩ := h
    refine r_calli (rest := []) hC hI oX_0 (C := "EqualCourt") rfl ywX8_refused tw_325 (cX8_refused_ok  e34) ⟨Nat.le_of_ble_eq_true rfl, Nat.le_of_ble_eq_true rfl⟩ ⟨rfl, rfl⟩ rfl hl.1 rfl (Nat.le_of_ble_eq_true rfl) dX8_even_34 (fun H locs hI => ?_)
    exact hret h dX8_even_37 hI
  · replace h := if_f h c1
    refine lv_iload_n hx hb dX8_even_4 rfl (lv_at hl 1 rfl) ?_
    refine lv_bipush (v := 20) hx hb dX8_even_5 (by decide) ?_
    refine lv_icmp_ge (tgt := 32) hx hb dX8_even_7 (by decide) (fun c7 => ?_) (fun c7 => ?_)
    · replace h := if_t h c7
      refine lv_aload_n hx hb dX8_even_32 rfl (lv_at hl 0 rfl) ?_
      refine lv_iconst (v := 1) hx hb dX8_even_33 (by decide) ?_
      replace h := bd_at h
      obtain ⟨r34, z34, e34, h⟩ := h
      refine r_calli (rest := []) hC hI oX_0 (C := "EqualCourt") rfl ywX8_refused tw_325 (cX8_refused_ok  e34) ⟨Nat.le_of_ble_eq_true rfl, Nat.le_of_ble_eq_true rfl⟩ ⟨rfl, rfl⟩ rfl hl.1 rfl (Nat.le_of_ble_eq_true rfl) dX8_even_34 (fun H locs hI => ?_)
      exact hret h dX8_even_37 hI
    · replace h := if_f h c7
      refine lv_aload_n hx hb dX8_even_10 rfl (lv_at hl 0 rfl) ?_
      refine gX8_terms hC hI tw_281 dX8_even_11 ?_
      refine lv_iload_n hx hb dX8_even_14 rfl (lv_at hl 2 rfl) ?_
      replace h := bp_at h
      obtain ⟨r15, e15, h⟩ := h
      refine r_calli (rest := []) hC hI oX_1 (C := "EqualCourt$Terms") rfl ywX7_has tw_451 (cX7_has_ok  e15) ⟨Nat.le_of_ble_eq_true rfl, Nat.le_of_ble_eq_true rfl⟩ ⟨rfl, rfl⟩ rfl hl.1 rfl (Nat.le_of_ble_eq_true rfl) dX8_even_15 (fun H locs hI => ?_)
      refine lv_if_eq (tgt := 32) hx hb dX8_even_18 (by decide) (fun c18 => ?_) (fun c18 => ?_)
      · replace h := if_t h c18
        refine lv_aload_n hx hb dX8_even_32 rfl (lv_at hl 0 rfl) ?_
        refine lv_iconst (v := 1) hx hb dX8_even_33 (by decide) ?_
        replace h := bd_at h
        obtain ⟨r34, z34, e34, h⟩ := h
        refine r_calli (rest := []) hC hI oX_0 (C := "EqualCourt") rfl ywX8_refused tw_325 (cX8_refused_ok  e34) ⟨Nat.le_of_ble_eq_true rfl, Nat.le_of_ble_eq_true rfl⟩ ⟨rfl, rfl⟩ rfl hl.1 rfl (Nat.le_of_ble_eq_true rfl) dX8_even_34 (fun H locs hI => ?_)
        exact hret h dX8_even_37 hI
      · replace h := if_f h c18
        refine lv_aload_n hx hb dX8_even_21 rfl (lv_at hl 0 rfl) ?_
        refine gX8_terms hC hI tw_281 dX8_even_22 ?_
        refine lv_iload_n hx hb dX8_even_25 rfl (lv_at hl 3 rfl) ?_
        replace h := bp_at h
        obtain ⟨r26, e26, h⟩ := h
        refine r_calli (rest := []) hC hI oX_1 (C := "EqualCourt$Terms") rfl ywX7_has tw_451 (cX7_has_ok  e26) ⟨Nat.le_of_ble_eq_true rfl, Nat.le_of_ble_eq_true rfl⟩ ⟨rfl, rfl⟩ rfl hl.1 rfl (Nat.le_of_ble_eq_true rfl) dX8_even_26 (fun H locs hI => ?_)
        refine lv_if_ne (tgt := 38) hx hb dX8_even_29 (by decide) (fun c29 => ?_) (fun c29 => ?_)
        · replace h := if_f h c29
          refine lv_aload_n hx hb dX8_even_38 rfl (lv_at hl 0 rfl) ?_
          refine lv_iconst (v := 4) hx hb dX8_even_39 (by decide) ?_
          refine lv_iload_n hx hb dX8_even_40 rfl (lv_at hl 1 rfl) ?_
          refine lv_iload_n hx hb dX8_even_41 rfl (lv_at hl 2 rfl) ?_
          refine lv_iload_n hx hb dX8_even_42 rfl (lv_at hl 3 rfl) ?_
          refine lv_iconst (v := -1) hx hb dX8_even_43 (by decide) ?_
          replace h := bd_at h
          obtain ⟨r44, z44, e44, h⟩ := h
          refine r_calli (rest := []) hC hI oX_0 (C := "EqualCourt") rfl ywX8_madeTerm tw_329 (cX8_madeTerm_ok  e44) ⟨Nat.le_of_ble_eq_true rfl, Nat.le_of_ble_eq_true rfl⟩ ⟨rfl, rfl⟩ rfl hl.1 rfl (Nat.le_of_ble_eq_true rfl) dX8_even_44 (fun H locs hI => ?_)
          exact hret h dX8_even_47 hI
        · replace h := if_t h c29
          refine lv_aload_n hx hb dX8_even_32 rfl (lv_at hl 0 rfl) ?_
          refine lv_iconst (v := 1) hx hb dX8_even_33 (by decide) ?_
          replace h := bd_at h
          obtain ⟨r34, z34, e34, h⟩ := h
          refine r_calli (rest := []) hC hI oX_0 (C := "EqualCourt") rfl ywX8_refused tw_325 (cX8_refused_ok  e34) ⟨Nat.le_of_ble_eq_true rfl, Nat.le_of_ble_eq_true rfl⟩ ⟨rfl, rfl⟩ rfl hl.1 rfl (Nat.le_of_ble_eq_true rfl) dX8_even_34 (fun H locs hI => ?_)
          exact hret h dX8_even_37 hI
theorem dX8_kind_0 : decode cX8_kind 0 = .ok (.aload_n 0, 1) := by decide +kernel
theorem dX8_kind_1 : decode cX8_kind 1 = .ok (.getfield 10, 3) := by decide +kernel
theorem dX8_kind_4 : decode cX8_kind 4 = .ok (.iload_n 1, 1) := by decide +kernel
theorem dX8_kind_5 : decode cX8_kind 5 = .ok (.invokevirtual 86, 3) := by decide +kernel
theorem dX8_kind_8 : decode cX8_kind 8 = .ok (.ifCond .eq 14, 3) := by decide +kernel
theorem dX8_kind_11 : decode cX8_kind 11 = .ok (.aload_n 0, 1) := by decide +kernel
theorem dX8_kind_12 : decode cX8_kind 12 = .ok (.getfield 10, 3) := by decide +kernel
theorem dX8_kind_15 : decode cX8_kind 15 = .ok (.iload_n 1, 1) := by decide +kernel
theorem dX8_kind_16 : decode cX8_kind 16 = .ok (.invokevirtual 90, 3) := by decide +kernel
theorem dX8_kind_19 : decode cX8_kind 19 = .ok (.goto 4, 3) := by decide +kernel
theorem dX8_kind_22 : decode cX8_kind 22 = .ok (.iconst (-1), 1) := by decide +kernel
theorem dX8_kind_23 : decode cX8_kind 23 = .ok (.ireturn, 1) := by decide +kernel
abbrev rmX8_kind : Room := { frames := 1, cells := 0, slots := 0, locals := 21 }
theorem ywX8_kind : fY yX8_kind "EqualCourt" cX8_kind 2 (some .int) 1 := ⟨tw_464, tw_465, tw_1, tw_466, by decide +kernel⟩
set_option maxHeartbeats 4000000 in
set_option maxRecDepth 100000 in
theorem cX8_kind_ok {D : va_G} {ad : Nat → Nat} {cy cz : ClassId} {l : Launch} {z : fS} {v1 : Int32} {r : Int32} (h : fX8_kind z v1 = some r) : fMi D 76 ad (cfX ad cy cz) cy cz l yX8_kind cX8_kind 2 (some .int) rmX8_kind [.ref (ad 0), .int v1] z r z := by
  refine f_bodyi (by decide) (Nat.le_of_ble_eq_true rfl) (fun p e s m args below meth c Q hC hret ls hl hI => ?_)
  have hx := hC.1
  have hb := hC.2.1
  have hl : lv_has ls 2 [(0, .ref (ad 0)), (1, .int v1)] := hl
  unfold fX8_kind at h
  refine lv_aload_n hx hb dX8_kind_0 rfl (lv_at hl 0 rfl) ?_
  refine gX8_terms hC hI tw_281 dX8_kind_1 ?_
  refine lv_iload_n hx hb dX8_kind_4 rfl (lv_at hl 1 rfl) ?_
  replace h := bp_at h
  obtain ⟨r5, e5, h⟩ := h
  refine r_calli (rest := []) hC hI oX_1 (C := "EqualCourt$Terms") rfl ywX7_has tw_451 (cX7_has_ok  e5) ⟨Nat.le_of_ble_eq_true rfl, Nat.le_of_ble_eq_true rfl⟩ ⟨rfl, rfl⟩ rfl hl.1 rfl (Nat.le_of_ble_eq_true rfl) dX8_kind_5 (fun H locs hI => ?_)
  refine lv_if_eq (tgt := 22) hx hb dX8_kind_8 (by decide) (fun c8 => ?_) (fun c8 => ?_)
  · replace h := if_t h c8
    refine lv_iconst (v := -1) hx hb dX8_kind_22 (by decide) ?_
    exact hret (ret_p _ h) dX8_kind_23 hI
  · replace h := if_f h c8
    refine lv_aload_n hx hb dX8_kind_11 rfl (lv_at hl 0 rfl) ?_
    refine gX8_terms hC hI tw_281 dX8_kind_12 ?_
    refine lv_iload_n hx hb dX8_kind_15 rfl (lv_at hl 1 rfl) ?_
    replace h := bp_at h
    obtain ⟨r16, e16, h⟩ := h
    refine r_calli (rest := []) hC hI oX_1 (C := "EqualCourt$Terms") rfl ywX7_kindOf tw_467 (cX7_kindOf_ok  e16) ⟨Nat.le_of_ble_eq_true rfl, Nat.le_of_ble_eq_true rfl⟩ ⟨rfl, rfl⟩ rfl hl.1 rfl (Nat.le_of_ble_eq_true rfl) dX8_kind_16 (fun H locs hI => ?_)
    refine lv_goto (tgt := 23) hx hb dX8_kind_19 (by decide) ?_
    exact hret (ret_p _ h) dX8_kind_23 hI
theorem dX8_part_0 : decode cX8_part 0 = .ok (.aload_n 0, 1) := by decide +kernel
theorem dX8_part_1 : decode cX8_part 1 = .ok (.getfield 10, 3) := by decide +kernel
theorem dX8_part_4 : decode cX8_part 4 = .ok (.iload_n 1, 1) := by decide +kernel
theorem dX8_part_5 : decode cX8_part 5 = .ok (.invokevirtual 86, 3) := by decide +kernel
theorem dX8_part_8 : decode cX8_part 8 = .ok (.ifCond .ne 9, 3) := by decide +kernel
theorem dX8_part_11 : decode cX8_part 11 = .ok (.aload_n 0, 1) := by decide +kernel
theorem dX8_part_12 : decode cX8_part 12 = .ok (.iconst 1, 1) := by decide +kernel
theorem dX8_part_13 : decode cX8_part 13 = .ok (.invokevirtual 78, 3) := by decide +kernel
theorem dX8_part_16 : decode cX8_part 16 = .ok (.ireturn, 1) := by decide +kernel
theorem dX8_part_17 : decode cX8_part 17 = .ok (.aload_n 0, 1) := by decide +kernel
theorem dX8_part_18 : decode cX8_part 18 = .ok (.getfield 10, 3) := by decide +kernel
theorem dX8_part_21 : decode cX8_part 21 = .ok (.iload_n 1, 1) := by decide +kernel
theorem dX8_part_22 : decode cX8_part 22 = .ok (.invokevirtual 93, 3) := by decide +kernel
theorem dX8_part_25 : decode cX8_part 25 = .ok (.ifCond .ne 9, 3) := by decide +kernel
theorem dX8_part_28 : decode cX8_part 28 = .ok (.aload_n 0, 1) := by decide +kernel
theorem dX8_part_29 : decode cX8_part 29 = .ok (.iconst 2, 1) := by decide +kernel
theorem dX8_part_30 : decode cX8_part 30 = .ok (.invokevirtual 78, 3) := by decide +kernel
theorem dX8_part_33 : decode cX8_part 33 = .ok (.ireturn, 1) := by decide +kernel
theorem dX8_part_34 : decode cX8_part 34 = .ok (.iload_n 2, 1) := by decide +kernel
theorem dX8_part_35 : decode cX8_part 35 = .ok (.ifCond .lt 15, 3) := by decide +kernel
theorem dX8_part_38 : decode cX8_part 38 = .ok (.iload_n 2, 1) := by decide +kernel
theorem dX8_part_39 : decode cX8_part 39 = .ok (.aload_n 0, 1) := by decide +kernel
theorem dX8_part_40 : decode cX8_part 40 = .ok (.getfield 10, 3) := by decide +kernel
theorem dX8_part_43 : decode cX8_part 43 = .ok (.iload_n 1, 1) := by decide +kernel
theorem dX8_part_44 : decode cX8_part 44 = .ok (.invokevirtual 93, 3) := by decide +kernel
theorem dX8_part_47 : decode cX8_part 47 = .ok (.if_icmp .lt 9, 3) := by decide +kernel
theorem dX8_part_50 : decode cX8_part 50 = .ok (.aload_n 0, 1) := by decide +kernel
theorem dX8_part_51 : decode cX8_part 51 = .ok (.iconst 1, 1) := by decide +kernel
theorem dX8_part_52 : decode cX8_part 52 = .ok (.invokevirtual 78, 3) := by decide +kernel
theorem dX8_part_55 : decode cX8_part 55 = .ok (.ireturn, 1) := by decide +kernel
theorem dX8_part_56 : decode cX8_part 56 = .ok (.aload_n 0, 1) := by decide +kernel
theorem dX8_part_57 : decode cX8_part 57 = .ok (.aload_n 0, 1) := by decide +kernel
theorem dX8_part_58 : decode cX8_part 58 = .ok (.getfield 10, 3) := by decide +kernel
theorem dX8_part_61 : decode cX8_part 61 = .ok (.iload_n 1, 1) := by decide +kernel
theorem dX8_part_62 : decode cX8_part 62 = .ok (.iload_n 2, 1) := by decide +kernel
theorem dX8_part_63 : decode cX8_part 63 = .ok (.invokevirtual 96, 3) := by decide +kernel
theorem dX8_part_66 : decode cX8_part 66 = .ok (.invokevirtual 100, 3) := by decide +kernel
theorem dX8_part_69 : decode cX8_part 69 = .ok (.ireturn, 1) := by decide +kernel
abbrev rmX8_part : Room := { frames := 1, cells := 0, slots := 0, locals := 22 }
theorem ywX8_part : fY yX8_part "EqualCourt" cX8_part 3 (some .int) 2 := ⟨tw_469, tw_470, tw_1, tw_471, by decide +kernel⟩
set_option maxHeartbeats 4000000 in
set_option maxRecDepth 100000 in
theorem cX8_part_ok {D : va_G} {ad : Nat → Nat} {cy cz : ClassId} {l : Launch} {z : fS} {v1 : Int32} {v2 : Int32} {r : Int32} {τ : fS} (h : fX8_part z v1 v2 = some (r, τ)) : fMi D 76 ad (cfX ad cy cz) cy cz l yX8_part cX8_part 3 (some .int) rmX8_part [.ref (ad 0), .int v1, .int v2] z r τ := by
  refine f_bodyi (by decide) (Nat.le_of_ble_eq_true rfl) (fun p e s m args below meth c Q hC hret ls hl hI => ?_)
  have hx := hC.1
  have hb := hC.2.1
  have hl : lv_has ls 3 [(0, .ref (ad 0)), (1, .int v1), (2, .int v2)] := hl
  unfold fX8_part at h
  refine lv_aload_n hx hb dX8_part_0 rfl (lv_at hl 0 rfl) ?_
  refine gX8_terms hC hI tw_281 dX8_part_1 ?_
  refine lv_iload_n hx hb dX8_part_4 rfl (lv_at hl 1 rfl) ?_
  replace h := bp_at h
  obtain ⟨r5, e5, h⟩ := h
  refine r_calli (rest := []) hC hI oX_1 (C := "EqualCourt$Terms") rfl ywX7_has tw_451 (cX7_has_ok  e5) ⟨Nat.le_of_ble_eq_true rfl, Nat.le_of_ble_eq_true rfl⟩ ⟨rfl, rfl⟩ rfl hl.1 rfl (Nat.le_of_ble_eq_true rfl) dX8_part_5 (fun H locs hI => ?_)
  refine lv_if_ne (tgt := 17) hx hb dX8_part_8 (by decide) (fun c8 => ?_) (fun c8 => ?_)
  · replace h := if_f h c8
    refine lv_aload_n hx hb dX8_part_17 rfl (lv_at hl 0 rfl) ?_
    refine gX8_terms hC hI tw_281 dX8_part_18 ?_
    refine lv_iload_n hx hb dX8_part_21 rfl (lv_at hl 1 rfl) ?_
    replace h := bp_at h
    obtain ⟨r22, e22, h⟩ := h
    refine r_calli (rest := []) hC hI oX_1 (C := "EqualCourt$Terms") rfl ywX7_sizeOf tw_472 (cX7_sizeOf_ok  e22) ⟨Nat.le_of_ble_eq_true rfl, Nat.le_of_ble_eq_true rfl⟩ ⟨rfl, rfl⟩ rfl hl.1 rfl (Nat.le_of_ble_eq_true rfl) dX8_part_22 (fun H locs hI => ?_)
    refine lv_if_ne (tgt := 34) hx hb dX8_part_25 (by decide) (fun c25 => ?_) (fun c25 => ?_)
    · replace h := if_f h c25
      refine lv_iload_n hx hb dX8_part_34 rfl (lv_at hl 2 rfl) ?_
      refine lv_if_lt (tgt := 50) hx hb dX8_part_35 (by decide) (fun c35 => ?_) (fun c35 => ?_)
      · replace h := if_t h c35
        refine lv_aload_n hx hb dX8_part_50 rfl (lv_at hl 0 rfl) ?_
        refine lv_iconst (v := 1) hx hb dX8_part_51 (by decide) ?_
        replace h := bd_at h
        obtain ⟨r52, z52, e52, h⟩ := h
        refine r_calli (rest := []) hC hI oX_0 (C := "EqualCourt") rfl ywX8_refused tw_325 (cX8_refused_ok  e52) ⟨Nat.le_of_ble_eq_true rfl, Nat.le_of_ble_eq_true rfl⟩ ⟨rfl, rfl⟩ rfl hl.1 rfl (Nat.le_of_ble_eq_true rfl) dX8_part_52 (fun H locs hI => ?_)
        exact hret h dX8_part_55 hI
      · replace h := if_f h c35
        refine lv_iload_n hx hb dX8_part_38 rfl (lv_at hl 2 rfl) ?_
        refine lv_aload_n hx hb dX8_part_39 rfl (lv_at hl 0 rfl) ?_
        refine gX8_terms hC hI tw_281 dX8_part_40 ?_
        refine lv_iload_n hx hb dX8_part_43 rfl (lv_at hl 1 rfl) ?_
        replace h := bp_at h
        obtain ⟨r44, e44, h⟩ := h
        refine r_calli (rest := [.int v2]) hC hI oX_1 (C := "EqualCourt$Terms") rfl ywX7_sizeOf tw_472 (cX7_sizeOf_ok  e44) ⟨Nat.le_of_ble_eq_true rfl, Nat.le_of_ble_eq_true rfl⟩ ⟨rfl, rfl⟩ rfl hl.1 rfl (Nat.le_of_ble_eq_true rfl) dX8_part_44 (fun H locs hI => ?_)
        refine lv_icmp_lt (tgt := 56) hx hb dX8_part_47 (by decide) (fun c47 => ?_) (fun c47 => ?_)
        · replace h := if_t h c47
          refine lv_aload_n hx hb dX8_part_56 rfl (lv_at hl 0 rfl) ?_
          refine lv_aload_n hx hb dX8_part_57 rfl (lv_at hl 0 rfl) ?_
          refine gX8_terms hC hI tw_281 dX8_part_58 ?_
          refine lv_iload_n hx hb dX8_part_61 rfl (lv_at hl 1 rfl) ?_
          refine lv_iload_n hx hb dX8_part_62 rfl (lv_at hl 2 rfl) ?_
          replace h := bp_at h
          obtain ⟨r63, e63, h⟩ := h
          refine r_calli (rest := [.ref (ad 0)]) hC hI oX_1 (C := "EqualCourt$Terms") rfl ywX7_partOf tw_473 (cX7_partOf_ok  e63) ⟨Nat.le_of_ble_eq_true rfl, Nat.le_of_ble_eq_true rfl⟩ ⟨rfl, rfl⟩ rfl hl.1 rfl (Nat.le_of_ble_eq_true rfl) dX8_part_63 (fun H locs hI => ?_)
          replace h := bd_at h
          obtain ⟨r66, z66, e66, h⟩ := h
          refine r_calli (rest := []) hC hI oX_0 (C := "EqualCourt") rfl ywX8_done tw_439 (cX8_done_ok  e66) ⟨Nat.le_of_ble_eq_true rfl, Nat.le_of_ble_eq_true rfl⟩ ⟨rfl, rfl⟩ rfl hl.1 rfl (Nat.le_of_ble_eq_true rfl) dX8_part_66 (fun H locs hI => ?_)
          exact hret h dX8_part_69 hI
        · replace h := if_f h c47
          refine lv_aload_n hx hb dX8_part_50 rfl (lv_at hl 0 rfl) ?_
          refine lv_iconst (v := 1) hx hb dX8_part_51 (by decide) ?_
          replace h := bd_at h
          obtain ⟨r52, z52, e52, h⟩ := h
          refine r_calli (rest := []) hC hI oX_0 (C := "EqualCourt") rfl ywX8_refused tw_325 (cX8_refused_ok  e52) ⟨Nat.le_of_ble_eq_true rfl, Nat.le_of_ble_eq_true rfl⟩ ⟨rfl, rfl⟩ rfl hl.1 rfl (Nat.le_of_ble_eq_true rfl) dX8_part_52 (fun H locs hI => ?_)
          exact hret h dX8_part_55 hI
    · replace h := if_t h c25
      refine lv_aload_n hx hb dX8_part_28 rfl (lv_at hl 0 rfl) ?_
      refine lv_iconst (v := 2) hx hb dX8_part_29 (by decide) ?_
      replace h := bd_at h
      obtain ⟨r30, z30, e30, h⟩ := h
      refine r_calli (rest := []) hC hI oX_0 (C := "EqualCourt") rfl ywX8_refused tw_325 (cX8_refused_ok  e30) ⟨Nat.le_of_ble_eq_true rfl, Nat.le_of_ble_eq_true rfl⟩ ⟨rfl, rfl⟩ rfl hl.1 rfl (Nat.le_of_ble_eq_true rfl) dX8_part_30 (fun H locs hI => ?_)
      exact hret h dX8_part_33 hI
  · replace h := if_t h c8
    refine lv_aload_n hx hb dX8_part_11 rfl (lv_at hl 0 rfl) ?_
    refine lv_iconst (v := 1) hx hb dX8_part_12 (by decide) ?_
    replace h := bd_at h
    obtain ⟨r13, z13, e13, h⟩ := h
    refine r_calli (rest := []) hC hI oX_0 (C := "EqualCourt") rfl ywX8_refused tw_325 (cX8_refused_ok  e13) ⟨Nat.le_of_ble_eq_true rfl, Nat.le_of_ble_eq_true rfl⟩ ⟨rfl, rfl⟩ rfl hl.1 rfl (Nat.le_of_ble_eq_true rfl) dX8_part_13 (fun H locs hI => ?_)
    exact hret h dX8_part_16 hI
theorem dX8_shows_0 : decode cX8_shows 0 = .ok (.aload_n 0, 1) := by decide +kernel
theorem dX8_shows_1 : decode cX8_shows 1 = .ok (.getfield 10, 3) := by decide +kernel
theorem dX8_shows_4 : decode cX8_shows 4 = .ok (.iload_n 1, 1) := by decide +kernel
theorem dX8_shows_5 : decode cX8_shows 5 = .ok (.invokevirtual 86, 3) := by decide +kernel
theorem dX8_shows_8 : decode cX8_shows 8 = .ok (.ifCond .ne 9, 3) := by decide +kernel
theorem dX8_shows_11 : decode cX8_shows 11 = .ok (.aload_n 0, 1) := by decide +kernel
theorem dX8_shows_12 : decode cX8_shows 12 = .ok (.iconst 1, 1) := by decide +kernel
theorem dX8_shows_13 : decode cX8_shows 13 = .ok (.invokevirtual 78, 3) := by decide +kernel
theorem dX8_shows_16 : decode cX8_shows 16 = .ok (.ireturn, 1) := by decide +kernel
theorem dX8_shows_17 : decode cX8_shows 17 = .ok (.aload_n 0, 1) := by decide +kernel
theorem dX8_shows_18 : decode cX8_shows 18 = .ok (.getfield 10, 3) := by decide +kernel
theorem dX8_shows_21 : decode cX8_shows 21 = .ok (.iload_n 1, 1) := by decide +kernel
theorem dX8_shows_22 : decode cX8_shows 22 = .ok (.invokevirtual 90, 3) := by decide +kernel
theorem dX8_shows_25 : decode cX8_shows 25 = .ok (.iconst 3, 1) := by decide +kernel
theorem dX8_shows_26 : decode cX8_shows 26 = .ok (.if_icmp .ne 9, 3) := by decide +kernel
theorem dX8_shows_29 : decode cX8_shows 29 = .ok (.aload_n 0, 1) := by decide +kernel
theorem dX8_shows_30 : decode cX8_shows 30 = .ok (.iconst 2, 1) := by decide +kernel
theorem dX8_shows_31 : decode cX8_shows 31 = .ok (.invokevirtual 78, 3) := by decide +kernel
theorem dX8_shows_34 : decode cX8_shows 34 = .ok (.ireturn, 1) := by decide +kernel
theorem dX8_shows_35 : decode cX8_shows 35 = .ok (.aload_n 0, 1) := by decide +kernel
theorem dX8_shows_36 : decode cX8_shows 36 = .ok (.aload_n 0, 1) := by decide +kernel
theorem dX8_shows_37 : decode cX8_shows 37 = .ok (.getfield 10, 3) := by decide +kernel
theorem dX8_shows_40 : decode cX8_shows 40 = .ok (.iload_n 1, 1) := by decide +kernel
theorem dX8_shows_41 : decode cX8_shows 41 = .ok (.invokevirtual 103, 3) := by decide +kernel
theorem dX8_shows_44 : decode cX8_shows 44 = .ok (.invokevirtual 100, 3) := by decide +kernel
theorem dX8_shows_47 : decode cX8_shows 47 = .ok (.ireturn, 1) := by decide +kernel
abbrev rmX8_shows : Room := { frames := 1, cells := 0, slots := 0, locals := 21 }
theorem ywX8_shows : fY yX8_shows "EqualCourt" cX8_shows 2 (some .int) 1 := ⟨tw_478, tw_479, tw_1, tw_480, by decide +kernel⟩
set_option maxHeartbeats 4000000 in
set_option maxRecDepth 100000 in
theorem cX8_shows_ok {D : va_G} {ad : Nat → Nat} {cy cz : ClassId} {l : Launch} {z : fS} {v1 : Int32} {r : Int32} {τ : fS} (h : fX8_shows z v1 = some (r, τ)) : fMi D 76 ad (cfX ad cy cz) cy cz l yX8_shows cX8_shows 2 (some .int) rmX8_shows [.ref (ad 0), .int v1] z r τ := by
  refine f_bodyi (by decide) (Nat.le_of_ble_eq_true rfl) (fun p e s m args below meth c Q hC hret ls hl hI => ?_)
  have hx := hC.1
  have hb := hC.2.1
  have hl : lv_has ls 2 [(0, .ref (ad 0)), (1, .int v1)] := hl
  unfold fX8_shows at h
  refine lv_aload_n hx hb dX8_shows_0 rfl (lv_at hl 0 rfl) ?_
  refine gX8_terms hC hI tw_281 dX8_shows_1 ?_
  refine lv_iload_n hx hb dX8_shows_4 rfl (lv_at hl 1 rfl) ?_
  replace h := bp_at h
  obtain ⟨r5, e5, h⟩ := h
  refine r_calli (rest := []) hC hI oX_1 (C := "EqualCourt$Terms") rfl ywX7_has tw_451 (cX7_has_ok  e5) ⟨Nat.le_of_ble_eq_true rfl, Nat.le_of_ble_eq_true rfl⟩ ⟨rfl, rfl⟩ rfl hl.1 rfl (Nat.le_of_ble_eq_true rfl) dX8_shows_5 (fun H locs hI => ?_)
  refine lv_if_ne (tgt := 17) hx hb dX8_shows_8 (by decide) (fun c8 => ?_) (fun c8 => ?_)
  · replace h := if_f h c8
    refine lv_aload_n hx hb dX8_shows_17 rfl (lv_at hl 0 rfl) ?_
    refine gX8_terms hC hI tw_281 dX8_shows_18 ?_
    refine lv_iload_n hx hb dX8_shows_21 rfl (lv_at hl 1 rfl) ?_
    replace h := bp_at h
    obtain ⟨r22, e22, h⟩ := h
    refine r_calli (rest := []) hC hI oX_1 (C := "EqualCourt$Terms") rfl ywX7_kindOf tw_467 (cX7_kindOf_ok  e22) ⟨Nat.le_of_ble_eq_true rfl, Nat.le_of_ble_eq_true rfl⟩ ⟨rfl, rfl⟩ rfl hl.1 rfl (Nat.le_of_ble_eq_true rfl) dX8_shows_22 (fun H locs hI => ?_)
    refine lv_iconst (v := 3) hx hb dX8_shows_25 (by decide) ?_
    refine lv_icmp_ne (tgt := 35) hx hb dX8_shows_26 (by decide) (fun c26 => ?_) (fun c26 => ?_)
    · replace h := if_f h c26
      refine lv_aload_n hx hb dX8_shows_35 rfl (lv_at hl 0 rfl) ?_
      refine lv_aload_n hx hb dX8_shows_36 rfl (lv_at hl 0 rfl) ?_
      refine gX8_terms hC hI tw_281 dX8_shows_37 ?_
      refine lv_iload_n hx hb dX8_shows_40 rfl (lv_at hl 1 rfl) ?_
      replace h := bp_at h
      obtain ⟨r41, e41, h⟩ := h
      refine r_calli (rest := [.ref (ad 0)]) hC hI oX_1 (C := "EqualCourt$Terms") rfl ywX7_shownBy tw_481 (cX7_shownBy_ok  e41) ⟨Nat.le_of_ble_eq_true rfl, Nat.le_of_ble_eq_true rfl⟩ ⟨rfl, rfl⟩ rfl hl.1 rfl (Nat.le_of_ble_eq_true rfl) dX8_shows_41 (fun H locs hI => ?_)
      replace h := bd_at h
      obtain ⟨r44, z44, e44, h⟩ := h
      refine r_calli (rest := []) hC hI oX_0 (C := "EqualCourt") rfl ywX8_done tw_439 (cX8_done_ok  e44) ⟨Nat.le_of_ble_eq_true rfl, Nat.le_of_ble_eq_true rfl⟩ ⟨rfl, rfl⟩ rfl hl.1 rfl (Nat.le_of_ble_eq_true rfl) dX8_shows_44 (fun H locs hI => ?_)
      exact hret h dX8_shows_47 hI
    · replace h := if_t h c26
      refine lv_aload_n hx hb dX8_shows_29 rfl (lv_at hl 0 rfl) ?_
      refine lv_iconst (v := 2) hx hb dX8_shows_30 (by decide) ?_
      replace h := bd_at h
      obtain ⟨r31, z31, e31, h⟩ := h
      refine r_calli (rest := []) hC hI oX_0 (C := "EqualCourt") rfl ywX8_refused tw_325 (cX8_refused_ok  e31) ⟨Nat.le_of_ble_eq_true rfl, Nat.le_of_ble_eq_true rfl⟩ ⟨rfl, rfl⟩ rfl hl.1 rfl (Nat.le_of_ble_eq_true rfl) dX8_shows_31 (fun H locs hI => ?_)
      exact hret h dX8_shows_34 hI
  · replace h := if_t h c8
    refine lv_aload_n hx hb dX8_shows_11 rfl (lv_at hl 0 rfl) ?_
    refine lv_iconst (v := 1) hx hb dX8_shows_12 (by decide) ?_
    replace h := bd_at h
    obtain ⟨r13, z13, e13, h⟩ := h
    refine r_calli (rest := []) hC hI oX_0 (C := "EqualCourt") rfl ywX8_refused tw_325 (cX8_refused_ok  e13) ⟨Nat.le_of_ble_eq_true rfl, Nat.le_of_ble_eq_true rfl⟩ ⟨rfl, rfl⟩ rfl hl.1 rfl (Nat.le_of_ble_eq_true rfl) dX8_shows_13 (fun H locs hI => ?_)
    exact hret h dX8_shows_16 hI
theorem dX8_many_0 : decode cX8_many 0 = .ok (.iload_n 1, 1) := by decide +kernel
theorem dX8_many_1 : decode cX8_many 1 = .ok (.tableswitch 99 0 6 #[43, 51, 59, 67, 72, 80, 88], 43) := by decide +kernel
theorem dX8_many_44 : decode cX8_many 44 = .ok (.aload_n 0, 1) := by decide +kernel
theorem dX8_many_45 : decode cX8_many 45 = .ok (.getfield 10, 3) := by decide +kernel
theorem dX8_many_48 : decode cX8_many 48 = .ok (.invokevirtual 106, 3) := by decide +kernel
theorem dX8_many_51 : decode cX8_many 51 = .ok (.ireturn, 1) := by decide +kernel
theorem dX8_many_52 : decode cX8_many 52 = .ok (.aload_n 0, 1) := by decide +kernel
theorem dX8_many_53 : decode cX8_many 53 = .ok (.getfield 19, 3) := by decide +kernel
theorem dX8_many_56 : decode cX8_many 56 = .ok (.invokevirtual 110, 3) := by decide +kernel
theorem dX8_many_59 : decode cX8_many 59 = .ok (.ireturn, 1) := by decide +kernel
theorem dX8_many_60 : decode cX8_many 60 = .ok (.aload_n 0, 1) := by decide +kernel
theorem dX8_many_61 : decode cX8_many 61 = .ok (.getfield 19, 3) := by decide +kernel
theorem dX8_many_64 : decode cX8_many 64 = .ok (.invokevirtual 111, 3) := by decide +kernel
theorem dX8_many_67 : decode cX8_many 67 = .ok (.ireturn, 1) := by decide +kernel
theorem dX8_many_68 : decode cX8_many 68 = .ok (.aload_n 0, 1) := by decide +kernel
theorem dX8_many_69 : decode cX8_many 69 = .ok (.getfield 68, 3) := by decide +kernel
theorem dX8_many_72 : decode cX8_many 72 = .ok (.ireturn, 1) := by decide +kernel
theorem dX8_many_73 : decode cX8_many 73 = .ok (.aload_n 0, 1) := by decide +kernel
theorem dX8_many_74 : decode cX8_many 74 = .ok (.getfield 44, 3) := by decide +kernel
theorem dX8_many_77 : decode cX8_many 77 = .ok (.invokevirtual 114, 3) := by decide +kernel
theorem dX8_many_80 : decode cX8_many 80 = .ok (.ireturn, 1) := by decide +kernel
theorem dX8_many_81 : decode cX8_many 81 = .ok (.aload_n 0, 1) := by decide +kernel
theorem dX8_many_82 : decode cX8_many 82 = .ok (.getfield 19, 3) := by decide +kernel
theorem dX8_many_85 : decode cX8_many 85 = .ok (.invokevirtual 115, 3) := by decide +kernel
theorem dX8_many_88 : decode cX8_many 88 = .ok (.ireturn, 1) := by decide +kernel
theorem dX8_many_89 : decode cX8_many 89 = .ok (.aload_n 0, 1) := by decide +kernel
theorem dX8_many_90 : decode cX8_many 90 = .ok (.getfield 28, 3) := by decide +kernel
theorem dX8_many_93 : decode cX8_many 93 = .ok (.invokevirtual 118, 3) := by decide +kernel
theorem dX8_many_96 : decode cX8_many 96 = .ok (.invokevirtual 122, 3) := by decide +kernel
theorem dX8_many_99 : decode cX8_many 99 = .ok (.ireturn, 1) := by decide +kernel
theorem dX8_many_100 : decode cX8_many 100 = .ok (.iconst (-1), 1) := by decide +kernel
theorem dX8_many_101 : decode cX8_many 101 = .ok (.ireturn, 1) := by decide +kernel
abbrev rmX8_many : Room := { frames := 1, cells := 0, slots := 0, locals := 20 }
theorem ywX8_many : fY yX8_many "EqualCourt" cX8_many 2 (some .int) 1 := ⟨tw_486, tw_487, tw_1, tw_488, by decide +kernel⟩
set_option maxHeartbeats 4000000 in
set_option maxRecDepth 100000 in
theorem cX8_many_ok {D : va_G} {ad : Nat → Nat} {cy cz : ClassId} {l : Launch} {z : fS} {v1 : Int32} {r : Int32} (h : fX8_many z v1 = some r) : fMi D 76 ad (cfX ad cy cz) cy cz l yX8_many cX8_many 2 (some .int) rmX8_many [.ref (ad 0), .int v1] z r z := by
  refine f_bodyi (by decide) (Nat.le_of_ble_eq_true rfl) (fun p e s m args below meth c Q hC hret ls hl hI => ?_)
  have hx := hC.1
  have hb := hC.2.1
  have hl : lv_has ls 2 [(0, .ref (ad 0)), (1, .int v1)] := hl
  unfold fX8_many at h
  refine lv_iload_n hx hb dX8_many_0 rfl (lv_at hl 1 rfl) ?_
  refine lv_topi (fun y1 e1 => ?_)
  by_cases b1_0 : y1 = (0 : Int32)
  · replace h := if_t h (e1.symm.trans b1_0)
    refine lv_tableIn (tgt := 44) hx hb dX8_many_1 (by rw [b1_0]; decide) (by rw [b1_0]; decide) (by rw [b1_0]; rfl) (by decide) ?_
    refine lv_aload_n hx hb dX8_many_44 rfl (lv_at hl 0 rfl) ?_
    refine gX8_terms hC hI tw_281 dX8_many_45 ?_
    replace h := bp_at h
    obtain ⟨r48, e48, h⟩ := h
    refine r_calli (rest := []) hC hI oX_1 (C := "EqualCourt$Terms") rfl ywX7_count tw_333 (cX7_count_ok  e48) ⟨Nat.le_of_ble_eq_true rfl, Nat.le_of_ble_eq_true rfl⟩ ⟨rfl, rfl⟩ rfl hl.1 rfl (Nat.le_of_ble_eq_true rfl) dX8_many_48 (fun H locs hI => ?_)
    exact hret (ret_p _ h) dX8_many_51 hI
  replace h := if_f h (fun q => b1_0 (e1.trans q))
  by_cases b1_1 : y1 = (1 : Int32)
  · replace h := if_t h (e1.symm.trans b1_1)
    refine lv_tableIn (tgt := 52) hx hb dX8_many_1 (by rw [b1_1]; decide) (by rw [b1_1]; decide) (by rw [b1_1]; rfl) (by decide) ?_
    refine lv_aload_n hx hb dX8_many_52 rfl (lv_at hl 0 rfl) ?_
    refine gX8_sayings hC hI tw_282 dX8_many_53 ?_
    replace h := bp_at h
    obtain ⟨r56, e56, h⟩ := h
    refine r_calli (rest := []) hC hI oX_11 (C := "EqualCourt$Sayings") rfl ywX5_count tw_489 (cX5_count_ok  e56) ⟨Nat.le_of_ble_eq_true rfl, Nat.le_of_ble_eq_true rfl⟩ ⟨rfl, rfl⟩ rfl hl.1 rfl (Nat.le_of_ble_eq_true rfl) dX8_many_56 (fun H locs hI => ?_)
    exact hret (ret_p _ h) dX8_many_59 hI
  replace h := if_f h (fun q => b1_1 (e1.trans q))
  by_cases b1_2 : y1 = (2 : Int32)
  · replace h := if_t h (e1.symm.trans b1_2)
    refine lv_tableIn (tgt := 60) hx hb dX8_many_1 (by rw [b1_2]; decide) (by rw [b1_2]; decide) (by rw [b1_2]; rfl) (by decide) ?_
    refine lv_aload_n hx hb dX8_many_60 rfl (lv_at hl 0 rfl) ?_
    refine gX8_sayings hC hI tw_282 dX8_many_61 ?_
    replace h := bp_at h
    obtain ⟨r64, e64, h⟩ := h
    refine r_calli (rest := []) hC hI oX_11 (C := "EqualCourt$Sayings") rfl ywX5_takenCount tw_493 (cX5_takenCount_ok  e64) ⟨Nat.le_of_ble_eq_true rfl, Nat.le_of_ble_eq_true rfl⟩ ⟨rfl, rfl⟩ rfl hl.1 rfl (Nat.le_of_ble_eq_true rfl) dX8_many_64 (fun H locs hI => ?_)
    exact hret (ret_p _ h) dX8_many_67 hI
  replace h := if_f h (fun q => b1_2 (e1.trans q))
  by_cases b1_3 : y1 = (3 : Int32)
  · replace h := if_t h (e1.symm.trans b1_3)
    refine lv_tableIn (tgt := 68) hx hb dX8_many_1 (by rw [b1_3]; decide) (by rw [b1_3]; decide) (by rw [b1_3]; rfl) (by decide) ?_
    refine lv_aload_n hx hb dX8_many_68 rfl (lv_at hl 0 rfl) ?_
    refine gX8_lawCount hC hI tw_291 dX8_many_69 ?_
    exact hret (ret_p _ h) dX8_many_72 hI
  replace h := if_f h (fun q => b1_3 (e1.trans q))
  by_cases b1_4 : y1 = (4 : Int32)
  · replace h := if_t h (e1.symm.trans b1_4)
    refine lv_tableIn (tgt := 73) hx hb dX8_many_1 (by rw [b1_4]; decide) (by rw [b1_4]; decide) (by rw [b1_4]; rfl) (by decide) ?_
    refine lv_aload_n hx hb dX8_many_73 rfl (lv_at hl 0 rfl) ?_
    refine gX8_steps hC hI tw_285 dX8_many_74 ?_
    replace h := bp_at h
    obtain ⟨r77, e77, h⟩ := h
    refine r_calli (rest := []) hC hI oX_63 (C := "EqualCourt$Steps") rfl ywX6_count tw_497 (cX6_count_ok  e77) ⟨Nat.le_of_ble_eq_true rfl, Nat.le_of_ble_eq_true rfl⟩ ⟨rfl, rfl⟩ rfl hl.1 rfl (Nat.le_of_ble_eq_true rfl) dX8_many_77 (fun H locs hI => ?_)
    exact hret (ret_p _ h) dX8_many_80 hI
  replace h := if_f h (fun q => b1_4 (e1.trans q))
  by_cases b1_5 : y1 = (5 : Int32)
  · replace h := if_t h (e1.symm.trans b1_5)
    refine lv_tableIn (tgt := 81) hx hb dX8_many_1 (by rw [b1_5]; decide) (by rw [b1_5]; decide) (by rw [b1_5]; rfl) (by decide) ?_
    refine lv_aload_n hx hb dX8_many_81 rfl (lv_at hl 0 rfl) ?_
    refine gX8_sayings hC hI tw_282 dX8_many_82 ?_
    replace h := bp_at h
    obtain ⟨r85, e85, h⟩ := h
    refine r_calli (rest := []) hC hI oX_11 (C := "EqualCourt$Sayings") rfl ywX5_levels tw_501 (cX5_levels_ok  e85) ⟨Nat.le_of_ble_eq_true rfl, Nat.le_of_ble_eq_true rfl⟩ ⟨rfl, rfl⟩ rfl hl.1 rfl (Nat.le_of_ble_eq_true rfl) dX8_many_85 (fun H locs hI => ?_)
    exact hret (ret_p _ h) dX8_many_88 hI
  replace h := if_f h (fun q => b1_5 (e1.trans q))
  by_cases b1_6 : y1 = (6 : Int32)
  · replace h := if_t h (e1.symm.trans b1_6)
    refine lv_tableIn (tgt := 89) hx hb dX8_many_1 (by rw [b1_6]; decide) (by rw [b1_6]; decide) (by rw [b1_6]; rfl) (by decide) ?_
    refine lv_aload_n hx hb dX8_many_89 rfl (lv_at hl 0 rfl) ?_
    refine gX8_court hC hI tw_283 dX8_many_90 ?_
    replace h := bp_at h
    obtain ⟨r93, e93, h⟩ := h
    refine r_callr (rest := []) hC hI oX_17 (C := "EqualCourt$Court") rfl ywX2_standing tw_505 (cX2_standing_ok  e93) ⟨Nat.le_of_ble_eq_true rfl, Nat.le_of_ble_eq_true rfl⟩ ⟨rfl, rfl⟩ rfl hl.1 rfl (Nat.le_of_ble_eq_true rfl) dX8_many_93 (fun H locs hI => ?_)
    replace h := bp_at h
    obtain ⟨r96, e96, h⟩ := h
    refine r_calli (rest := []) hC hI (oP (isP_pcell _)) (C := "EqualCourt$Partition") rfl ywX4_classes tw_509 (cX4_classes_ok (isP_pcell _) e96) ⟨Nat.le_of_ble_eq_true rfl, Nat.le_of_ble_eq_true rfl⟩ ⟨rfl, rfl⟩ rfl hl.1 rfl (Nat.le_of_ble_eq_true rfl) dX8_many_96 (fun H locs hI => ?_)
    exact hret (ret_p _ h) dX8_many_99 hI
  replace h := if_f h (fun q => b1_6 (e1.trans q))
  refine lv_tableOut (tgt := 100) hx hb dX8_many_1 (by have q0 := lv_neT b1_0 (a := 0) (by decide); have q1 := lv_neT b1_1 (a := 1) (by decide); have q2 := lv_neT b1_2 (a := 2) (by decide); have q3 := lv_neT b1_3 (a := 3) (by decide); have q4 := lv_neT b1_4 (a := 4) (by decide); have q5 := lv_neT b1_5 (a := 5) (by decide); have q6 := lv_neT b1_6 (a := 6) (by decide); omega) (by decide) ?_
  refine lv_iconst (v := -1) hx hb dX8_many_100 (by decide) ?_
  exact hret (ret_p _ h) dX8_many_101 hI
theorem dX8_say_0 : decode cX8_say 0 = .ok (.aload_n 0, 1) := by decide +kernel
theorem dX8_say_1 : decode cX8_say 1 = .ok (.getfield 10, 3) := by decide +kernel
theorem dX8_say_4 : decode cX8_say 4 = .ok (.iload_n 1, 1) := by decide +kernel
theorem dX8_say_5 : decode cX8_say 5 = .ok (.invokevirtual 86, 3) := by decide +kernel
theorem dX8_say_8 : decode cX8_say 8 = .ok (.ifCond .eq 14, 3) := by decide +kernel
theorem dX8_say_11 : decode cX8_say 11 = .ok (.aload_n 0, 1) := by decide +kernel
theorem dX8_say_12 : decode cX8_say 12 = .ok (.getfield 10, 3) := by decide +kernel
theorem dX8_say_15 : decode cX8_say 15 = .ok (.iload_n 2, 1) := by decide +kernel
theorem dX8_say_16 : decode cX8_say 16 = .ok (.invokevirtual 86, 3) := by decide +kernel
theorem dX8_say_19 : decode cX8_say 19 = .ok (.ifCond .ne 9, 3) := by decide +kernel
theorem dX8_say_22 : decode cX8_say 22 = .ok (.aload_n 0, 1) := by decide +kernel
theorem dX8_say_23 : decode cX8_say 23 = .ok (.iconst 1, 1) := by decide +kernel
theorem dX8_say_24 : decode cX8_say 24 = .ok (.invokevirtual 78, 3) := by decide +kernel
theorem dX8_say_27 : decode cX8_say 27 = .ok (.ireturn, 1) := by decide +kernel
theorem dX8_say_28 : decode cX8_say 28 = .ok (.aload_n 0, 1) := by decide +kernel
theorem dX8_say_29 : decode cX8_say 29 = .ok (.getfield 19, 3) := by decide +kernel
theorem dX8_say_32 : decode cX8_say 32 = .ok (.invokevirtual 127, 3) := by decide +kernel
theorem dX8_say_35 : decode cX8_say 35 = .ok (.ifCond .eq 9, 3) := by decide +kernel
theorem dX8_say_38 : decode cX8_say 38 = .ok (.aload_n 0, 1) := by decide +kernel
theorem dX8_say_39 : decode cX8_say 39 = .ok (.iconst 3, 1) := by decide +kernel
theorem dX8_say_40 : decode cX8_say 40 = .ok (.invokevirtual 78, 3) := by decide +kernel
theorem dX8_say_43 : decode cX8_say 43 = .ok (.ireturn, 1) := by decide +kernel
theorem dX8_say_44 : decode cX8_say 44 = .ok (.aload_n 0, 1) := by decide +kernel
theorem dX8_say_45 : decode cX8_say 45 = .ok (.getfield 28, 3) := by decide +kernel
theorem dX8_say_48 : decode cX8_say 48 = .ok (.iload_n 1, 1) := by decide +kernel
theorem dX8_say_49 : decode cX8_say 49 = .ok (.iload_n 2, 1) := by decide +kernel
theorem dX8_say_50 : decode cX8_say 50 = .ok (.invokevirtual 131, 3) := by decide +kernel
theorem dX8_say_53 : decode cX8_say 53 = .ok (.ifCond .eq 23, 3) := by decide +kernel
theorem dX8_say_56 : decode cX8_say 56 = .ok (.aload_n 0, 1) := by decide +kernel
theorem dX8_say_57 : decode cX8_say 57 = .ok (.getfield 28, 3) := by decide +kernel
theorem dX8_say_60 : decode cX8_say 60 = .ok (.iconst 0, 1) := by decide +kernel
theorem dX8_say_61 : decode cX8_say 61 = .ok (.iload_n 1, 1) := by decide +kernel
theorem dX8_say_62 : decode cX8_say 62 = .ok (.iload_n 2, 1) := by decide +kernel
theorem dX8_say_63 : decode cX8_say 63 = .ok (.aload_n 0, 1) := by decide +kernel
theorem dX8_say_64 : decode cX8_say 64 = .ok (.getfield 51, 3) := by decide +kernel
theorem dX8_say_67 : decode cX8_say 67 = .ok (.invokevirtual 135, 3) := by decide +kernel
theorem dX8_say_70 : decode cX8_say 70 = .ok (.aload_n 0, 1) := by decide +kernel
theorem dX8_say_71 : decode cX8_say 71 = .ok (.iconst 4, 1) := by decide +kernel
theorem dX8_say_72 : decode cX8_say 72 = .ok (.invokevirtual 78, 3) := by decide +kernel
theorem dX8_say_75 : decode cX8_say 75 = .ok (.ireturn, 1) := by decide +kernel
theorem dX8_say_76 : decode cX8_say 76 = .ok (.aload_n 0, 1) := by decide +kernel
theorem dX8_say_77 : decode cX8_say 77 = .ok (.getfield 28, 3) := by decide +kernel
theorem dX8_say_80 : decode cX8_say 80 = .ok (.invokevirtual 139, 3) := by decide +kernel
theorem dX8_say_83 : decode cX8_say 83 = .ok (.aload_n 0, 1) := by decide +kernel
theorem dX8_say_84 : decode cX8_say 84 = .ok (.aload_n 0, 1) := by decide +kernel
theorem dX8_say_85 : decode cX8_say 85 = .ok (.getfield 19, 3) := by decide +kernel
theorem dX8_say_88 : decode cX8_say 88 = .ok (.iconst 1, 1) := by decide +kernel
theorem dX8_say_89 : decode cX8_say 89 = .ok (.iload_n 1, 1) := by decide +kernel
theorem dX8_say_90 : decode cX8_say 90 = .ok (.iload_n 2, 1) := by decide +kernel
theorem dX8_say_91 : decode cX8_say 91 = .ok (.invokevirtual 142, 3) := by decide +kernel
theorem dX8_say_94 : decode cX8_say 94 = .ok (.invokevirtual 100, 3) := by decide +kernel
theorem dX8_say_97 : decode cX8_say 97 = .ok (.ireturn, 1) := by decide +kernel
abbrev rmX8_say : Room := { frames := 5, cells := 0, slots := 0, locals := 128 }
theorem ywX8_say : fY yX8_say "EqualCourt" cX8_say 3 (some .int) 2 := ⟨tw_514, tw_515, tw_1, tw_516, by decide +kernel⟩
set_option maxHeartbeats 4000000 in
set_option maxRecDepth 100000 in
theorem cX8_say_ok {D : va_G} {ad : Nat → Nat} {cy cz : ClassId} {l : Launch} {z : fS} {v1 : Int32} {v2 : Int32} {r : Int32} {τ : fS} (h : fX8_say z v1 v2 = some (r, τ)) : fMi D 76 ad (cfX ad cy cz) cy cz l yX8_say cX8_say 3 (some .int) rmX8_say [.ref (ad 0), .int v1, .int v2] z r τ := by
  refine f_bodyi (by decide) (Nat.le_of_ble_eq_true rfl) (fun p e s m args below meth c Q hC hret ls hl hI => ?_)
  have hx := hC.1
  have hb := hC.2.1
  have hl : lv_has ls 3 [(0, .ref (ad 0)), (1, .int v1), (2, .int v2)] := hl
  unfold fX8_say at h
  refine lv_aload_n hx hb dX8_say_0 rfl (lv_at hl 0 rfl) ?_
  refine gX8_terms hC hI tw_281 dX8_say_1 ?_
  refine lv_iload_n hx hb dX8_say_4 rfl (lv_at hl 1 rfl) ?_
  replace h := bp_at h
  obtain ⟨r5, e5, h⟩ := h
  refine r_calli (rest := []) hC hI oX_1 (C := "EqualCourt$Terms") rfl ywX7_has tw_451 (cX7_has_ok  e5) ⟨Nat.le_of_ble_eq_true rfl, Nat.le_of_ble_eq_true rfl⟩ ⟨rfl, rfl⟩ rfl hl.1 rfl (Nat.le_of_ble_eq_true rfl) dX8_say_5 (fun H locs hI => ?_)
  refine lv_if_eq (tgt := 22) hx hb dX8_say_8 (by decide) (fun c8 => ?_) (fun c8 => ?_)
  · replace h := if_t h c8
    refine lv_aload_n hx hb dX8_say_22 rfl (lv_at hl 0 rfl) ?_
    refine lv_iconst (v := 1) hx hb dX8_say_23 (by decide) ?_
    replace h := bd_at h
    obtain ⟨r24, z24, e24, h⟩ := h
    refine r_calli (rest := []) hC hI oX_0 (C := "EqualCourt") rfl ywX8_refused tw_325 (cX8_refused_ok  e24) ⟨Nat.le_of_ble_eq_true rfl, Nat.le_of_ble_eq_true rfl⟩ ⟨rfl, rfl⟩ rfl hl.1 rfl (Nat.le_of_ble_eq_true rfl) dX8_say_24 (fun H locs hI => ?_)
    exact hret h dX8_say_27 hI
  · replace h := if_f h c8
    refine lv_aload_n hx hb dX8_say_11 rfl (lv_at hl 0 rfl) ?_
    refine gX8_terms hC hI tw_281 dX8_say_12 ?_
    refine lv_iload_n hx hb dX8_say_15 rfl (lv_at hl 2 rfl) ?_
    replace h := bp_at h
    obtain ⟨r16, e16, h⟩ := h
    refine r_calli (rest := []) hC hI oX_1 (C := "EqualCourt$Terms") rfl ywX7_has tw_451 (cX7_has_ok  e16) ⟨Nat.le_of_ble_eq_true rfl, Nat.le_of_ble_eq_true rfl⟩ ⟨rfl, rfl⟩ rfl hl.1 rfl (Nat.le_of_ble_eq_true rfl) dX8_say_16 (fun H locs hI => ?_)
    refine lv_if_ne (tgt := 28) hx hb dX8_say_19 (by decide) (fun c19 => ?_) (fun c19 => ?_)
    · replace h := if_f h c19
      refine lv_aload_n hx hb dX8_say_28 rfl (lv_at hl 0 rfl) ?_
      refine gX8_sayings hC hI tw_282 dX8_say_29 ?_
      replace h := bp_at h
      obtain ⟨r32, e32, h⟩ := h
      refine r_calli (rest := []) hC hI oX_11 (C := "EqualCourt$Sayings") rfl ywX5_isFull tw_517 (cX5_isFull_ok  e32) ⟨Nat.le_of_ble_eq_true rfl, Nat.le_of_ble_eq_true rfl⟩ ⟨rfl, rfl⟩ rfl hl.1 rfl (Nat.le_of_ble_eq_true rfl) dX8_say_32 (fun H locs hI => ?_)
      refine lv_if_eq (tgt := 44) hx hb dX8_say_35 (by decide) (fun c35 => ?_) (fun c35 => ?_)
      · replace h := if_t h c35
        refine lv_aload_n hx hb dX8_say_44 rfl (lv_at hl 0 rfl) ?_
        refine gX8_court hC hI tw_283 dX8_say_45 ?_
        refine lv_iload_n hx hb dX8_say_48 rfl (lv_at hl 1 rfl) ?_
        refine lv_iload_n hx hb dX8_say_49 rfl (lv_at hl 2 rfl) ?_
        replace h := bd_at h
        obtain ⟨r50, z50, e50, h⟩ := h
        refine r_calli (rest := []) hC hI oX_17 (C := "EqualCourt$Court") rfl ywX2_wouldClash tw_521 (cX2_wouldClash_ok  e50) ⟨Nat.le_of_ble_eq_true rfl, Nat.le_of_ble_eq_true rfl⟩ ⟨rfl, rfl⟩ rfl hl.1 rfl (Nat.le_of_ble_eq_true rfl) dX8_say_50 (fun H locs hI => ?_)
        refine lv_if_eq (tgt := 76) hx hb dX8_say_53 (by decide) (fun c53 => ?_) (fun c53 => ?_)
        · replace h := if_t h c53
          refine lv_aload_n hx hb dX8_say_76 rfl (lv_at hl 0 rfl) ?_
          refine gX8_court hC hI tw_283 dX8_say_77 ?_
          replace h := bp_at h
          obtain ⟨z80, e80, h⟩ := h
          refine r_callv (rest := []) hC hI oX_17 (C := "EqualCourt$Court") rfl ywX2_acceptTrial tw_586 (cX2_acceptTrial_ok  e80) ⟨Nat.le_of_ble_eq_true rfl, Nat.le_of_ble_eq_true rfl⟩ ⟨rfl, rfl⟩ rfl hl.1 rfl (Nat.le_of_ble_eq_true rfl) dX8_say_80 (fun H locs hI => ?_)
          refine lv_aload_n hx hb dX8_say_83 rfl (lv_at hl 0 rfl) ?_
          refine lv_aload_n hx hb dX8_say_84 rfl (lv_at hl 0 rfl) ?_
          refine gX8_sayings hC hI tw_282 dX8_say_85 ?_
          refine lv_iconst (v := 1) hx hb dX8_say_88 (by decide) ?_
          refine lv_iload_n hx hb dX8_say_89 rfl (lv_at hl 1 rfl) ?_
          refine lv_iload_n hx hb dX8_say_90 rfl (lv_at hl 2 rfl) ?_
          replace h := bd_at h
          obtain ⟨r91, z91, e91, h⟩ := h
          refine r_calli (rest := [.ref (ad 0)]) hC hI oX_11 (C := "EqualCourt$Sayings") rfl ywX5_add tw_590 (cX5_add_ok  e91) ⟨Nat.le_of_ble_eq_true rfl, Nat.le_of_ble_eq_true rfl⟩ ⟨rfl, rfl⟩ rfl hl.1 rfl (Nat.le_of_ble_eq_true rfl) dX8_say_91 (fun H locs hI => ?_)
          replace h := bd_at h
          obtain ⟨r94, z94, e94, h⟩ := h
          refine r_calli (rest := []) hC hI oX_0 (C := "EqualCourt") rfl ywX8_done tw_439 (cX8_done_ok  e94) ⟨Nat.le_of_ble_eq_true rfl, Nat.le_of_ble_eq_true rfl⟩ ⟨rfl, rfl⟩ rfl hl.1 rfl (Nat.le_of_ble_eq_true rfl) dX8_say_94 (fun H locs hI => ?_)
          exact hret h dX8_say_97 hI
        · replace h := if_f h c53
          refine lv_aload_n hx hb dX8_say_56 rfl (lv_at hl 0 rfl) ?_
          refine gX8_court hC hI tw_283 dX8_say_57 ?_
          refine lv_iconst (v := 0) hx hb dX8_say_60 (by decide) ?_
          refine lv_iload_n hx hb dX8_say_61 rfl (lv_at hl 1 rfl) ?_
          refine lv_iload_n hx hb dX8_say_62 rfl (lv_at hl 2 rfl) ?_
          refine lv_aload_n hx hb dX8_say_63 rfl (lv_at hl 0 rfl) ?_
          refine gX8_clashCore hC hI tw_286 dX8_say_64 ?_
          replace h := bp_at h
          obtain ⟨z67, e67, h⟩ := h
          refine r_callv (rest := []) hC hI oX_17 (C := "EqualCourt$Court") rfl ywX2_thin tw_558 (cX2_thin_ok isK_69 e67) ⟨Nat.le_of_ble_eq_true rfl, Nat.le_of_ble_eq_true rfl⟩ ⟨rfl, rfl⟩ rfl hl.1 rfl (Nat.le_of_ble_eq_true rfl) dX8_say_67 (fun H locs hI => ?_)
          refine lv_aload_n hx hb dX8_say_70 rfl (lv_at hl 0 rfl) ?_
          refine lv_iconst (v := 4) hx hb dX8_say_71 (by decide) ?_
          replace h := bd_at h
          obtain ⟨r72, z72, e72, h⟩ := h
          refine r_calli (rest := []) hC hI oX_0 (C := "EqualCourt") rfl ywX8_refused tw_325 (cX8_refused_ok  e72) ⟨Nat.le_of_ble_eq_true rfl, Nat.le_of_ble_eq_true rfl⟩ ⟨rfl, rfl⟩ rfl hl.1 rfl (Nat.le_of_ble_eq_true rfl) dX8_say_72 (fun H locs hI => ?_)
          exact hret h dX8_say_75 hI
      · replace h := if_f h c35
        refine lv_aload_n hx hb dX8_say_38 rfl (lv_at hl 0 rfl) ?_
        refine lv_iconst (v := 3) hx hb dX8_say_39 (by decide) ?_
        replace h := bd_at h
        obtain ⟨r40, z40, e40, h⟩ := h
        refine r_calli (rest := []) hC hI oX_0 (C := "EqualCourt") rfl ywX8_refused tw_325 (cX8_refused_ok  e40) ⟨Nat.le_of_ble_eq_true rfl, Nat.le_of_ble_eq_true rfl⟩ ⟨rfl, rfl⟩ rfl hl.1 rfl (Nat.le_of_ble_eq_true rfl) dX8_say_40 (fun H locs hI => ?_)
        exact hret h dX8_say_43 hI
    · replace h := if_t h c19
      refine lv_aload_n hx hb dX8_say_22 rfl (lv_at hl 0 rfl) ?_
      refine lv_iconst (v := 1) hx hb dX8_say_23 (by decide) ?_
      replace h := bd_at h
      obtain ⟨r24, z24, e24, h⟩ := h
      refine r_calli (rest := []) hC hI oX_0 (C := "EqualCourt") rfl ywX8_refused tw_325 (cX8_refused_ok  e24) ⟨Nat.le_of_ble_eq_true rfl, Nat.le_of_ble_eq_true rfl⟩ ⟨rfl, rfl⟩ rfl hl.1 rfl (Nat.le_of_ble_eq_true rfl) dX8_say_24 (fun H locs hI => ?_)
      exact hret h dX8_say_27 hI
theorem dX8_unlike_0 : decode cX8_unlike 0 = .ok (.aload_n 0, 1) := by decide +kernel
theorem dX8_unlike_1 : decode cX8_unlike 1 = .ok (.getfield 10, 3) := by decide +kernel
theorem dX8_unlike_4 : decode cX8_unlike 4 = .ok (.iload_n 1, 1) := by decide +kernel
theorem dX8_unlike_5 : decode cX8_unlike 5 = .ok (.invokevirtual 86, 3) := by decide +kernel
theorem dX8_unlike_8 : decode cX8_unlike 8 = .ok (.ifCond .eq 14, 3) := by decide +kernel
theorem dX8_unlike_11 : decode cX8_unlike 11 = .ok (.aload_n 0, 1) := by decide +kernel
theorem dX8_unlike_12 : decode cX8_unlike 12 = .ok (.getfield 10, 3) := by decide +kernel
theorem dX8_unlike_15 : decode cX8_unlike 15 = .ok (.iload_n 2, 1) := by decide +kernel
theorem dX8_unlike_16 : decode cX8_unlike 16 = .ok (.invokevirtual 86, 3) := by decide +kernel
theorem dX8_unlike_19 : decode cX8_unlike 19 = .ok (.ifCond .ne 9, 3) := by decide +kernel
theorem dX8_unlike_22 : decode cX8_unlike 22 = .ok (.aload_n 0, 1) := by decide +kernel
theorem dX8_unlike_23 : decode cX8_unlike 23 = .ok (.iconst 1, 1) := by decide +kernel
theorem dX8_unlike_24 : decode cX8_unlike 24 = .ok (.invokevirtual 78, 3) := by decide +kernel
theorem dX8_unlike_27 : decode cX8_unlike 27 = .ok (.ireturn, 1) := by decide +kernel
theorem dX8_unlike_28 : decode cX8_unlike 28 = .ok (.aload_n 0, 1) := by decide +kernel
theorem dX8_unlike_29 : decode cX8_unlike 29 = .ok (.getfield 19, 3) := by decide +kernel
theorem dX8_unlike_32 : decode cX8_unlike 32 = .ok (.invokevirtual 127, 3) := by decide +kernel
theorem dX8_unlike_35 : decode cX8_unlike 35 = .ok (.ifCond .eq 9, 3) := by decide +kernel
theorem dX8_unlike_38 : decode cX8_unlike 38 = .ok (.aload_n 0, 1) := by decide +kernel
theorem dX8_unlike_39 : decode cX8_unlike 39 = .ok (.iconst 3, 1) := by decide +kernel
theorem dX8_unlike_40 : decode cX8_unlike 40 = .ok (.invokevirtual 78, 3) := by decide +kernel
theorem dX8_unlike_43 : decode cX8_unlike 43 = .ok (.ireturn, 1) := by decide +kernel
theorem dX8_unlike_44 : decode cX8_unlike 44 = .ok (.aload_n 0, 1) := by decide +kernel
theorem dX8_unlike_45 : decode cX8_unlike 45 = .ok (.getfield 28, 3) := by decide +kernel
theorem dX8_unlike_48 : decode cX8_unlike 48 = .ok (.invokevirtual 118, 3) := by decide +kernel
theorem dX8_unlike_51 : decode cX8_unlike 51 = .ok (.iload_n 1, 1) := by decide +kernel
theorem dX8_unlike_52 : decode cX8_unlike 52 = .ok (.iload_n 2, 1) := by decide +kernel
theorem dX8_unlike_53 : decode cX8_unlike 53 = .ok (.invokevirtual 146, 3) := by decide +kernel
theorem dX8_unlike_56 : decode cX8_unlike 56 = .ok (.ifCond .eq 23, 3) := by decide +kernel
theorem dX8_unlike_59 : decode cX8_unlike 59 = .ok (.aload_n 0, 1) := by decide +kernel
theorem dX8_unlike_60 : decode cX8_unlike 60 = .ok (.getfield 28, 3) := by decide +kernel
theorem dX8_unlike_63 : decode cX8_unlike 63 = .ok (.iconst 1, 1) := by decide +kernel
theorem dX8_unlike_64 : decode cX8_unlike 64 = .ok (.iload_n 1, 1) := by decide +kernel
theorem dX8_unlike_65 : decode cX8_unlike 65 = .ok (.iload_n 2, 1) := by decide +kernel
theorem dX8_unlike_66 : decode cX8_unlike 66 = .ok (.aload_n 0, 1) := by decide +kernel
theorem dX8_unlike_67 : decode cX8_unlike 67 = .ok (.getfield 51, 3) := by decide +kernel
theorem dX8_unlike_70 : decode cX8_unlike 70 = .ok (.invokevirtual 135, 3) := by decide +kernel
theorem dX8_unlike_73 : decode cX8_unlike 73 = .ok (.aload_n 0, 1) := by decide +kernel
theorem dX8_unlike_74 : decode cX8_unlike 74 = .ok (.iconst 4, 1) := by decide +kernel
theorem dX8_unlike_75 : decode cX8_unlike 75 = .ok (.invokevirtual 78, 3) := by decide +kernel
theorem dX8_unlike_78 : decode cX8_unlike 78 = .ok (.ireturn, 1) := by decide +kernel
theorem dX8_unlike_79 : decode cX8_unlike 79 = .ok (.aload_n 0, 1) := by decide +kernel
theorem dX8_unlike_80 : decode cX8_unlike 80 = .ok (.aload_n 0, 1) := by decide +kernel
theorem dX8_unlike_81 : decode cX8_unlike 81 = .ok (.getfield 19, 3) := by decide +kernel
theorem dX8_unlike_84 : decode cX8_unlike 84 = .ok (.iconst 0, 1) := by decide +kernel
theorem dX8_unlike_85 : decode cX8_unlike 85 = .ok (.iload_n 1, 1) := by decide +kernel
theorem dX8_unlike_86 : decode cX8_unlike 86 = .ok (.iload_n 2, 1) := by decide +kernel
theorem dX8_unlike_87 : decode cX8_unlike 87 = .ok (.invokevirtual 142, 3) := by decide +kernel
theorem dX8_unlike_90 : decode cX8_unlike 90 = .ok (.invokevirtual 100, 3) := by decide +kernel
theorem dX8_unlike_93 : decode cX8_unlike 93 = .ok (.ireturn, 1) := by decide +kernel
abbrev rmX8_unlike : Room := { frames := 5, cells := 0, slots := 0, locals := 128 }
theorem ywX8_unlike : fY yX8_unlike "EqualCourt" cX8_unlike 3 (some .int) 2 := ⟨tw_595, tw_596, tw_1, tw_597, by decide +kernel⟩
set_option maxHeartbeats 4000000 in
set_option maxRecDepth 100000 in
theorem cX8_unlike_ok {D : va_G} {ad : Nat → Nat} {cy cz : ClassId} {l : Launch} {z : fS} {v1 : Int32} {v2 : Int32} {r : Int32} {τ : fS} (h : fX8_unlike z v1 v2 = some (r, τ)) : fMi D 76 ad (cfX ad cy cz) cy cz l yX8_unlike cX8_unlike 3 (some .int) rmX8_unlike [.ref (ad 0), .int v1, .int v2] z r τ := by
  refine f_bodyi (by decide) (Nat.le_of_ble_eq_true rfl) (fun p e s m args below meth c Q hC hret ls hl hI => ?_)
  have hx := hC.1
  have hb := hC.2.1
  have hl : lv_has ls 3 [(0, .ref (ad 0)), (1, .int v1), (2, .int v2)] := hl
  unfold fX8_unlike at h
  refine lv_aload_n hx hb dX8_unlike_0 rfl (lv_at hl 0 rfl) ?_
  refine gX8_terms hC hI tw_281 dX8_unlike_1 ?_
  refine lv_iload_n hx hb dX8_unlike_4 rfl (lv_at hl 1 rfl) ?_
  replace h := bp_at h
  obtain ⟨r5, e5, h⟩ := h
  refine r_calli (rest := []) hC hI oX_1 (C := "EqualCourt$Terms") rfl ywX7_has tw_451 (cX7_has_ok  e5) ⟨Nat.le_of_ble_eq_true rfl, Nat.le_of_ble_eq_true rfl⟩ ⟨rfl, rfl⟩ rfl hl.1 rfl (Nat.le_of_ble_eq_true rfl) dX8_unlike_5 (fun H locs hI => ?_)
  refine lv_if_eq (tgt := 22) hx hb dX8_unlike_8 (by decide) (fun c8 => ?_) (fun c8 => ?_)
  · replace h := if_t h c8
    refine lv_aload_n hx hb dX8_unlike_22 rfl (lv_at hl 0 rfl) ?_
    refine lv_iconst (v := 1) hx hb dX8_unlike_23 (by decide) ?_
    replace h := bd_at h
    obtain ⟨r24, z24, e24, h⟩ := h
    refine r_calli (rest := []) hC hI oX_0 (C := "EqualCourt") rfl ywX8_refused tw_325 (cX8_refused_ok  e24) ⟨Nat.le_of_ble_eq_true rfl, Nat.le_of_ble_eq_true rfl⟩ ⟨rfl, rfl⟩ rfl hl.1 rfl (Nat.le_of_ble_eq_true rfl) dX8_unlike_24 (fun H locs hI => ?_)
    exact hret h dX8_unlike_27 hI
  · replace h := if_f h c8
    refine lv_aload_n hx hb dX8_unlike_11 rfl (lv_at hl 0 rfl) ?_
    refine gX8_terms hC hI tw_281 dX8_unlike_12 ?_
    refine lv_iload_n hx hb dX8_unlike_15 rfl (lv_at hl 2 rfl) ?_
    replace h := bp_at h
    obtain ⟨r16, e16, h⟩ := h
    refine r_calli (rest := []) hC hI oX_1 (C := "EqualCourt$Terms") rfl ywX7_has tw_451 (cX7_has_ok  e16) ⟨Nat.le_of_ble_eq_true rfl, Nat.le_of_ble_eq_true rfl⟩ ⟨rfl, rfl⟩ rfl hl.1 rfl (Nat.le_of_ble_eq_true rfl) dX8_unlike_16 (fun H locs hI => ?_)
    refine lv_if_ne (tgt := 28) hx hb dX8_unlike_19 (by decide) (fun c19 => ?_) (fun c19 => ?_)
    · replace h := if_f h c19
      refine lv_aload_n hx hb dX8_unlike_28 rfl (lv_at hl 0 rfl) ?_
      refine gX8_sayings hC hI tw_282 dX8_unlike_29 ?_
      replace h := bp_at h
      obtain ⟨r32, e32, h⟩ := h
      refine r_calli (rest := []) hC hI oX_11 (C := "EqualCourt$Sayings") rfl ywX5_isFull tw_517 (cX5_isFull_ok  e32) ⟨Nat.le_of_ble_eq_true rfl, Nat.le_of_ble_eq_true rfl⟩ ⟨rfl, rfl⟩ rfl hl.1 rfl (Nat.le_of_ble_eq_true rfl) dX8_unlike_32 (fun H locs hI => ?_)
      refine lv_if_eq (tgt := 44) hx hb dX8_unlike_35 (by decide) (fun c35 => ?_) (fun c35 => ?_)
      · replace h := if_t h c35
        refine lv_aload_n hx hb dX8_unlike_44 rfl (lv_at hl 0 rfl) ?_
        refine gX8_court hC hI tw_283 dX8_unlike_45 ?_
        replace h := bp_at h
        obtain ⟨r48, e48, h⟩ := h
        refine r_callr (rest := []) hC hI oX_17 (C := "EqualCourt$Court") rfl ywX2_standing tw_505 (cX2_standing_ok  e48) ⟨Nat.le_of_ble_eq_true rfl, Nat.le_of_ble_eq_true rfl⟩ ⟨rfl, rfl⟩ rfl hl.1 rfl (Nat.le_of_ble_eq_true rfl) dX8_unlike_48 (fun H locs hI => ?_)
        refine lv_iload_n hx hb dX8_unlike_51 rfl (lv_at hl 1 rfl) ?_
        refine lv_iload_n hx hb dX8_unlike_52 rfl (lv_at hl 2 rfl) ?_
        replace h := bp_at h
        obtain ⟨r53, e53, h⟩ := h
        refine r_calli (rest := []) hC hI (oP (isP_pcell _)) (C := "EqualCourt$Partition") rfl ywX4_isOne tw_598 (cX4_isOne_ok (isP_pcell _) e53) ⟨Nat.le_of_ble_eq_true rfl, Nat.le_of_ble_eq_true rfl⟩ ⟨rfl, rfl⟩ rfl hl.1 rfl (Nat.le_of_ble_eq_true rfl) dX8_unlike_53 (fun H locs hI => ?_)
        refine lv_if_eq (tgt := 79) hx hb dX8_unlike_56 (by decide) (fun c56 => ?_) (fun c56 => ?_)
        · replace h := if_t h c56
          refine lv_aload_n hx hb dX8_unlike_79 rfl (lv_at hl 0 rfl) ?_
          refine lv_aload_n hx hb dX8_unlike_80 rfl (lv_at hl 0 rfl) ?_
          refine gX8_sayings hC hI tw_282 dX8_unlike_81 ?_
          refine lv_iconst (v := 0) hx hb dX8_unlike_84 (by decide) ?_
          refine lv_iload_n hx hb dX8_unlike_85 rfl (lv_at hl 1 rfl) ?_
          refine lv_iload_n hx hb dX8_unlike_86 rfl (lv_at hl 2 rfl) ?_
          replace h := bd_at h
          obtain ⟨r87, z87, e87, h⟩ := h
          refine r_calli (rest := [.ref (ad 0)]) hC hI oX_11 (C := "EqualCourt$Sayings") rfl ywX5_add tw_590 (cX5_add_ok  e87) ⟨Nat.le_of_ble_eq_true rfl, Nat.le_of_ble_eq_true rfl⟩ ⟨rfl, rfl⟩ rfl hl.1 rfl (Nat.le_of_ble_eq_true rfl) dX8_unlike_87 (fun H locs hI => ?_)
          replace h := bd_at h
          obtain ⟨r90, z90, e90, h⟩ := h
          refine r_calli (rest := []) hC hI oX_0 (C := "EqualCourt") rfl ywX8_done tw_439 (cX8_done_ok  e90) ⟨Nat.le_of_ble_eq_true rfl, Nat.le_of_ble_eq_true rfl⟩ ⟨rfl, rfl⟩ rfl hl.1 rfl (Nat.le_of_ble_eq_true rfl) dX8_unlike_90 (fun H locs hI => ?_)
          exact hret h dX8_unlike_93 hI
        · replace h := if_f h c56
          refine lv_aload_n hx hb dX8_unlike_59 rfl (lv_at hl 0 rfl) ?_
          refine gX8_court hC hI tw_283 dX8_unlike_60 ?_
          refine lv_iconst (v := 1) hx hb dX8_unlike_63 (by decide) ?_
          refine lv_iload_n hx hb dX8_unlike_64 rfl (lv_at hl 1 rfl) ?_
          refine lv_iload_n hx hb dX8_unlike_65 rfl (lv_at hl 2 rfl) ?_
          refine lv_aload_n hx hb dX8_unlike_66 rfl (lv_at hl 0 rfl) ?_
          refine gX8_clashCore hC hI tw_286 dX8_unlike_67 ?_
          replace h := bp_at h
          obtain ⟨z70, e70, h⟩ := h
          refine r_callv (rest := []) hC hI oX_17 (C := "EqualCourt$Court") rfl ywX2_thin tw_558 (cX2_thin_ok isK_69 e70) ⟨Nat.le_of_ble_eq_true rfl, Nat.le_of_ble_eq_true rfl⟩ ⟨rfl, rfl⟩ rfl hl.1 rfl (Nat.le_of_ble_eq_true rfl) dX8_unlike_70 (fun H locs hI => ?_)
          refine lv_aload_n hx hb dX8_unlike_73 rfl (lv_at hl 0 rfl) ?_
          refine lv_iconst (v := 4) hx hb dX8_unlike_74 (by decide) ?_
          replace h := bd_at h
          obtain ⟨r75, z75, e75, h⟩ := h
          refine r_calli (rest := []) hC hI oX_0 (C := "EqualCourt") rfl ywX8_refused tw_325 (cX8_refused_ok  e75) ⟨Nat.le_of_ble_eq_true rfl, Nat.le_of_ble_eq_true rfl⟩ ⟨rfl, rfl⟩ rfl hl.1 rfl (Nat.le_of_ble_eq_true rfl) dX8_unlike_75 (fun H locs hI => ?_)
          exact hret h dX8_unlike_78 hI
      · replace h := if_f h c35
        refine lv_aload_n hx hb dX8_unlike_38 rfl (lv_at hl 0 rfl) ?_
        refine lv_iconst (v := 3) hx hb dX8_unlike_39 (by decide) ?_
        replace h := bd_at h
        obtain ⟨r40, z40, e40, h⟩ := h
        refine r_calli (rest := []) hC hI oX_0 (C := "EqualCourt") rfl ywX8_refused tw_325 (cX8_refused_ok  e40) ⟨Nat.le_of_ble_eq_true rfl, Nat.le_of_ble_eq_true rfl⟩ ⟨rfl, rfl⟩ rfl hl.1 rfl (Nat.le_of_ble_eq_true rfl) dX8_unlike_40 (fun H locs hI => ?_)
        exact hret h dX8_unlike_43 hI
    · replace h := if_t h c19
      refine lv_aload_n hx hb dX8_unlike_22 rfl (lv_at hl 0 rfl) ?_
      refine lv_iconst (v := 1) hx hb dX8_unlike_23 (by decide) ?_
      replace h := bd_at h
      obtain ⟨r24, z24, e24, h⟩ := h
      refine r_calli (rest := []) hC hI oX_0 (C := "EqualCourt") rfl ywX8_refused tw_325 (cX8_refused_ok  e24) ⟨Nat.le_of_ble_eq_true rfl, Nat.le_of_ble_eq_true rfl⟩ ⟨rfl, rfl⟩ rfl hl.1 rfl (Nat.le_of_ble_eq_true rfl) dX8_unlike_24 (fun H locs hI => ?_)
      exact hret h dX8_unlike_27 hI
theorem dX8_drop_0 : decode cX8_drop 0 = .ok (.aload_n 0, 1) := by decide +kernel
theorem dX8_drop_1 : decode cX8_drop 1 = .ok (.getfield 19, 3) := by decide +kernel
theorem dX8_drop_4 : decode cX8_drop 4 = .ok (.iload_n 1, 1) := by decide +kernel
theorem dX8_drop_5 : decode cX8_drop 5 = .ok (.invokevirtual 149, 3) := by decide +kernel
theorem dX8_drop_8 : decode cX8_drop 8 = .ok (.ifCond .ne 9, 3) := by decide +kernel
theorem dX8_drop_11 : decode cX8_drop 11 = .ok (.aload_n 0, 1) := by decide +kernel
theorem dX8_drop_12 : decode cX8_drop 12 = .ok (.iconst 1, 1) := by decide +kernel
theorem dX8_drop_13 : decode cX8_drop 13 = .ok (.invokevirtual 78, 3) := by decide +kernel
theorem dX8_drop_16 : decode cX8_drop 16 = .ok (.ireturn, 1) := by decide +kernel
theorem dX8_drop_17 : decode cX8_drop 17 = .ok (.aload_n 0, 1) := by decide +kernel
theorem dX8_drop_18 : decode cX8_drop 18 = .ok (.getfield 19, 3) := by decide +kernel
theorem dX8_drop_21 : decode cX8_drop 21 = .ok (.iload_n 1, 1) := by decide +kernel
theorem dX8_drop_22 : decode cX8_drop 22 = .ok (.invokevirtual 150, 3) := by decide +kernel
theorem dX8_drop_25 : decode cX8_drop 25 = .ok (.ifCond .ne 9, 3) := by decide +kernel
theorem dX8_drop_28 : decode cX8_drop 28 = .ok (.aload_n 0, 1) := by decide +kernel
theorem dX8_drop_29 : decode cX8_drop 29 = .ok (.iconst 5, 1) := by decide +kernel
theorem dX8_drop_30 : decode cX8_drop 30 = .ok (.invokevirtual 78, 3) := by decide +kernel
theorem dX8_drop_33 : decode cX8_drop 33 = .ok (.ireturn, 1) := by decide +kernel
theorem dX8_drop_34 : decode cX8_drop 34 = .ok (.aload_n 0, 1) := by decide +kernel
theorem dX8_drop_35 : decode cX8_drop 35 = .ok (.getfield 19, 3) := by decide +kernel
theorem dX8_drop_38 : decode cX8_drop 38 = .ok (.iload_n 1, 1) := by decide +kernel
theorem dX8_drop_39 : decode cX8_drop 39 = .ok (.invokevirtual 153, 3) := by decide +kernel
theorem dX8_drop_42 : decode cX8_drop 42 = .ok (.aload_n 0, 1) := by decide +kernel
theorem dX8_drop_43 : decode cX8_drop 43 = .ok (.getfield 19, 3) := by decide +kernel
theorem dX8_drop_46 : decode cX8_drop 46 = .ok (.iload_n 1, 1) := by decide +kernel
theorem dX8_drop_47 : decode cX8_drop 47 = .ok (.invokevirtual 157, 3) := by decide +kernel
theorem dX8_drop_50 : decode cX8_drop 50 = .ok (.ifCond .eq 10, 3) := by decide +kernel
theorem dX8_drop_53 : decode cX8_drop 53 = .ok (.aload_n 0, 1) := by decide +kernel
theorem dX8_drop_54 : decode cX8_drop 54 = .ok (.getfield 28, 3) := by decide +kernel
theorem dX8_drop_57 : decode cX8_drop 57 = .ok (.invokevirtual 160, 3) := by decide +kernel
theorem dX8_drop_60 : decode cX8_drop 60 = .ok (.aload_n 0, 1) := by decide +kernel
theorem dX8_drop_61 : decode cX8_drop 61 = .ok (.aload_n 0, 1) := by decide +kernel
theorem dX8_drop_62 : decode cX8_drop 62 = .ok (.getfield 19, 3) := by decide +kernel
theorem dX8_drop_65 : decode cX8_drop 65 = .ok (.invokevirtual 111, 3) := by decide +kernel
theorem dX8_drop_68 : decode cX8_drop 68 = .ok (.invokevirtual 100, 3) := by decide +kernel
theorem dX8_drop_71 : decode cX8_drop 71 = .ok (.ireturn, 1) := by decide +kernel
abbrev rmX8_drop : Room := { frames := 4, cells := 0, slots := 0, locals := 101 }
theorem ywX8_drop : fY yX8_drop "EqualCourt" cX8_drop 2 (some .int) 1 := ⟨tw_600, tw_601, tw_1, tw_602, by decide +kernel⟩
set_option maxHeartbeats 4000000 in
set_option maxRecDepth 100000 in
theorem cX8_drop_ok {D : va_G} {ad : Nat → Nat} {cy cz : ClassId} {l : Launch} {z : fS} {v1 : Int32} {r : Int32} {τ : fS} (h : fX8_drop z v1 = some (r, τ)) : fMi D 76 ad (cfX ad cy cz) cy cz l yX8_drop cX8_drop 2 (some .int) rmX8_drop [.ref (ad 0), .int v1] z r τ := by
  refine f_bodyi (by decide) (Nat.le_of_ble_eq_true rfl) (fun p e s m args below meth c Q hC hret ls hl hI => ?_)
  have hx := hC.1
  have hb := hC.2.1
  have hl : lv_has ls 2 [(0, .ref (ad 0)), (1, .int v1)] := hl
  unfold fX8_drop at h
  refine lv_aload_n hx hb dX8_drop_0 rfl (lv_at hl 0 rfl) ?_
  refine gX8_sayings hC hI tw_282 dX8_drop_1 ?_
  refine lv_iload_n hx hb dX8_drop_4 rfl (lv_at hl 1 rfl) ?_
  replace h := bp_at h
  obtain ⟨r5, e5, h⟩ := h
  refine r_calli (rest := []) hC hI oX_11 (C := "EqualCourt$Sayings") rfl ywX5_has tw_603 (cX5_has_ok  e5) ⟨Nat.le_of_ble_eq_true rfl, Nat.le_of_ble_eq_true rfl⟩ ⟨rfl, rfl⟩ rfl hl.1 rfl (Nat.le_of_ble_eq_true rfl) dX8_drop_5 (fun H locs hI => ?_)
  refine lv_if_ne (tgt := 17) hx hb dX8_drop_8 (by decide) (fun c8 => ?_) (fun c8 => ?_)
  · replace h := if_f h c8
    refine lv_aload_n hx hb dX8_drop_17 rfl (lv_at hl 0 rfl) ?_
    refine gX8_sayings hC hI tw_282 dX8_drop_18 ?_
    refine lv_iload_n hx hb dX8_drop_21 rfl (lv_at hl 1 rfl) ?_
    replace h := bp_at h
    obtain ⟨r22, e22, h⟩ := h
    refine r_calli (rest := []) hC hI oX_11 (C := "EqualCourt$Sayings") rfl ywX5_isTaken tw_607 (cX5_isTaken_ok  e22) ⟨Nat.le_of_ble_eq_true rfl, Nat.le_of_ble_eq_true rfl⟩ ⟨rfl, rfl⟩ rfl hl.1 rfl (Nat.le_of_ble_eq_true rfl) dX8_drop_22 (fun H locs hI => ?_)
    refine lv_if_ne (tgt := 34) hx hb dX8_drop_25 (by decide) (fun c25 => ?_) (fun c25 => ?_)
    · replace h := if_f h c25
      refine lv_aload_n hx hb dX8_drop_34 rfl (lv_at hl 0 rfl) ?_
      refine gX8_sayings hC hI tw_282 dX8_drop_35 ?_
      refine lv_iload_n hx hb dX8_drop_38 rfl (lv_at hl 1 rfl) ?_
      replace h := bp_at h
      obtain ⟨z39, e39, h⟩ := h
      refine r_callv (rest := []) hC hI oX_11 (C := "EqualCourt$Sayings") rfl ywX5_remove tw_608 (cX5_remove_ok  e39) ⟨Nat.le_of_ble_eq_true rfl, Nat.le_of_ble_eq_true rfl⟩ ⟨rfl, rfl⟩ rfl hl.1 rfl (Nat.le_of_ble_eq_true rfl) dX8_drop_39 (fun H locs hI => ?_)
      refine lv_aload_n hx hb dX8_drop_42 rfl (lv_at hl 0 rfl) ?_
      refine gX8_sayings hC hI tw_282 dX8_drop_43 ?_
      refine lv_iload_n hx hb dX8_drop_46 rfl (lv_at hl 1 rfl) ?_
      replace h := bp_at h
      obtain ⟨r47, e47, h⟩ := h
      refine r_calli (rest := []) hC hI oX_11 (C := "EqualCourt$Sayings") rfl ywX5_isSame tw_612 (cX5_isSame_ok  e47) ⟨Nat.le_of_ble_eq_true rfl, Nat.le_of_ble_eq_true rfl⟩ ⟨rfl, rfl⟩ rfl hl.1 rfl (Nat.le_of_ble_eq_true rfl) dX8_drop_47 (fun H locs hI => ?_)
      refine lv_if_eq (tgt := 60) hx hb dX8_drop_50 (by decide) (fun c50 => ?_) (fun c50 => ?_)
      · replace h := if_t h c50
        refine lv_aload_n hx hb dX8_drop_60 rfl (lv_at hl 0 rfl) ?_
        refine lv_aload_n hx hb dX8_drop_61 rfl (lv_at hl 0 rfl) ?_
        refine gX8_sayings hC hI tw_282 dX8_drop_62 ?_
        replace h := bp_at h
        obtain ⟨r65, e65, h⟩ := h
        refine r_calli (rest := [.ref (ad 0)]) hC hI oX_11 (C := "EqualCourt$Sayings") rfl ywX5_takenCount tw_493 (cX5_takenCount_ok  e65) ⟨Nat.le_of_ble_eq_true rfl, Nat.le_of_ble_eq_true rfl⟩ ⟨rfl, rfl⟩ rfl hl.1 rfl (Nat.le_of_ble_eq_true rfl) dX8_drop_65 (fun H locs hI => ?_)
        replace h := bd_at h
        obtain ⟨r68, z68, e68, h⟩ := h
        refine r_calli (rest := []) hC hI oX_0 (C := "EqualCourt") rfl ywX8_done tw_439 (cX8_done_ok  e68) ⟨Nat.le_of_ble_eq_true rfl, Nat.le_of_ble_eq_true rfl⟩ ⟨rfl, rfl⟩ rfl hl.1 rfl (Nat.le_of_ble_eq_true rfl) dX8_drop_68 (fun H locs hI => ?_)
        exact hret h dX8_drop_71 hI
      · replace h := if_f h c50
        refine lv_aload_n hx hb dX8_drop_53 rfl (lv_at hl 0 rfl) ?_
        refine gX8_court hC hI tw_283 dX8_drop_54 ?_
        replace h := bp_at h
        obtain ⟨z57, e57, h⟩ := h
        refine r_callv (rest := []) hC hI oX_17 (C := "EqualCourt$Court") rfl ywX2_judgeAnew tw_613 (cX2_judgeAnew_ok  e57) ⟨Nat.le_of_ble_eq_true rfl, Nat.le_of_ble_eq_true rfl⟩ ⟨rfl, rfl⟩ rfl hl.1 rfl (Nat.le_of_ble_eq_true rfl) dX8_drop_57 (fun H locs hI => ?_)
        refine lv_aload_n hx hb dX8_drop_60 rfl (lv_at hl 0 rfl) ?_
        refine lv_aload_n hx hb dX8_drop_61 rfl (lv_at hl 0 rfl) ?_
        refine gX8_sayings hC hI tw_282 dX8_drop_62 ?_
        replace h := bp_at h
        obtain ⟨r65, e65, h⟩ := h
        refine r_calli (rest := [.ref (ad 0)]) hC hI oX_11 (C := "EqualCourt$Sayings") rfl ywX5_takenCount tw_493 (cX5_takenCount_ok  e65) ⟨Nat.le_of_ble_eq_true rfl, Nat.le_of_ble_eq_true rfl⟩ ⟨rfl, rfl⟩ rfl hl.1 rfl (Nat.le_of_ble_eq_true rfl) dX8_drop_65 (fun H locs hI => ?_)
        replace h := bd_at h
        obtain ⟨r68, z68, e68, h⟩ := h
        refine r_calli (rest := []) hC hI oX_0 (C := "EqualCourt") rfl ywX8_done tw_439 (cX8_done_ok  e68) ⟨Nat.le_of_ble_eq_true rfl, Nat.le_of_ble_eq_true rfl⟩ ⟨rfl, rfl⟩ rfl hl.1 rfl (Nat.le_of_ble_eq_true rfl) dX8_drop_68 (fun H locs hI => ?_)
        exact hret h dX8_drop_71 hI
    · replace h := if_t h c25
      refine lv_aload_n hx hb dX8_drop_28 rfl (lv_at hl 0 rfl) ?_
      refine lv_iconst (v := 5) hx hb dX8_drop_29 (by decide) ?_
      replace h := bd_at h
      obtain ⟨r30, z30, e30, h⟩ := h
      refine r_calli (rest := []) hC hI oX_0 (C := "EqualCourt") rfl ywX8_refused tw_325 (cX8_refused_ok  e30) ⟨Nat.le_of_ble_eq_true rfl, Nat.le_of_ble_eq_true rfl⟩ ⟨rfl, rfl⟩ rfl hl.1 rfl (Nat.le_of_ble_eq_true rfl) dX8_drop_30 (fun H locs hI => ?_)
      exact hret h dX8_drop_33 hI
  · replace h := if_t h c8
    refine lv_aload_n hx hb dX8_drop_11 rfl (lv_at hl 0 rfl) ?_
    refine lv_iconst (v := 1) hx hb dX8_drop_12 (by decide) ?_
    replace h := bd_at h
    obtain ⟨r13, z13, e13, h⟩ := h
    refine r_calli (rest := []) hC hI oX_0 (C := "EqualCourt") rfl ywX8_refused tw_325 (cX8_refused_ok  e13) ⟨Nat.le_of_ble_eq_true rfl, Nat.le_of_ble_eq_true rfl⟩ ⟨rfl, rfl⟩ rfl hl.1 rfl (Nat.le_of_ble_eq_true rfl) dX8_drop_13 (fun H locs hI => ?_)
    exact hret h dX8_drop_16 hI
theorem dX8_said_0 : decode cX8_said 0 = .ok (.aload_n 0, 1) := by decide +kernel
theorem dX8_said_1 : decode cX8_said 1 = .ok (.getfield 19, 3) := by decide +kernel
theorem dX8_said_4 : decode cX8_said 4 = .ok (.iload_n 1, 1) := by decide +kernel
theorem dX8_said_5 : decode cX8_said 5 = .ok (.invokevirtual 149, 3) := by decide +kernel
theorem dX8_said_8 : decode cX8_said 8 = .ok (.ifCond .ne 5, 3) := by decide +kernel
theorem dX8_said_11 : decode cX8_said 11 = .ok (.iconst (-1), 1) := by decide +kernel
theorem dX8_said_12 : decode cX8_said 12 = .ok (.ireturn, 1) := by decide +kernel
theorem dX8_said_13 : decode cX8_said 13 = .ok (.iload_n 2, 1) := by decide +kernel
theorem dX8_said_14 : decode cX8_said 14 = .ok (.tableswitch 82 0 3 #[30, 47, 56, 65], 30) := by decide +kernel
theorem dX8_said_44 : decode cX8_said 44 = .ok (.aload_n 0, 1) := by decide +kernel
theorem dX8_said_45 : decode cX8_said 45 = .ok (.getfield 19, 3) := by decide +kernel
theorem dX8_said_48 : decode cX8_said 48 = .ok (.iload_n 1, 1) := by decide +kernel
theorem dX8_said_49 : decode cX8_said 49 = .ok (.invokevirtual 157, 3) := by decide +kernel
theorem dX8_said_52 : decode cX8_said 52 = .ok (.ifCond .eq 7, 3) := by decide +kernel
theorem dX8_said_55 : decode cX8_said 55 = .ok (.iconst 1, 1) := by decide +kernel
theorem dX8_said_56 : decode cX8_said 56 = .ok (.goto 4, 3) := by decide +kernel
theorem dX8_said_59 : decode cX8_said 59 = .ok (.iconst 0, 1) := by decide +kernel
theorem dX8_said_60 : decode cX8_said 60 = .ok (.ireturn, 1) := by decide +kernel
theorem dX8_said_61 : decode cX8_said 61 = .ok (.aload_n 0, 1) := by decide +kernel
theorem dX8_said_62 : decode cX8_said 62 = .ok (.getfield 19, 3) := by decide +kernel
theorem dX8_said_65 : decode cX8_said 65 = .ok (.iload_n 1, 1) := by decide +kernel
theorem dX8_said_66 : decode cX8_said 66 = .ok (.invokevirtual 163, 3) := by decide +kernel
theorem dX8_said_69 : decode cX8_said 69 = .ok (.ireturn, 1) := by decide +kernel
theorem dX8_said_70 : decode cX8_said 70 = .ok (.aload_n 0, 1) := by decide +kernel
theorem dX8_said_71 : decode cX8_said 71 = .ok (.getfield 19, 3) := by decide +kernel
theorem dX8_said_74 : decode cX8_said 74 = .ok (.iload_n 1, 1) := by decide +kernel
theorem dX8_said_75 : decode cX8_said 75 = .ok (.invokevirtual 166, 3) := by decide +kernel
theorem dX8_said_78 : decode cX8_said 78 = .ok (.ireturn, 1) := by decide +kernel
theorem dX8_said_79 : decode cX8_said 79 = .ok (.aload_n 0, 1) := by decide +kernel
theorem dX8_said_80 : decode cX8_said 80 = .ok (.getfield 19, 3) := by decide +kernel
theorem dX8_said_83 : decode cX8_said 83 = .ok (.iload_n 1, 1) := by decide +kernel
theorem dX8_said_84 : decode cX8_said 84 = .ok (.invokevirtual 150, 3) := by decide +kernel
theorem dX8_said_87 : decode cX8_said 87 = .ok (.ifCond .eq 7, 3) := by decide +kernel
theorem dX8_said_90 : decode cX8_said 90 = .ok (.iconst 1, 1) := by decide +kernel
theorem dX8_said_91 : decode cX8_said 91 = .ok (.goto 4, 3) := by decide +kernel
theorem dX8_said_94 : decode cX8_said 94 = .ok (.iconst 0, 1) := by decide +kernel
theorem dX8_said_95 : decode cX8_said 95 = .ok (.ireturn, 1) := by decide +kernel
theorem dX8_said_96 : decode cX8_said 96 = .ok (.iconst (-1), 1) := by decide +kernel
theorem dX8_said_97 : decode cX8_said 97 = .ok (.ireturn, 1) := by decide +kernel
abbrev rmX8_said : Room := { frames := 1, cells := 0, slots := 0, locals := 21 }
theorem ywX8_said : fY yX8_said "EqualCourt" cX8_said 3 (some .int) 2 := ⟨tw_618, tw_619, tw_1, tw_620, by decide +kernel⟩
set_option maxHeartbeats 4000000 in
set_option maxRecDepth 100000 in
theorem cX8_said_ok {D : va_G} {ad : Nat → Nat} {cy cz : ClassId} {l : Launch} {z : fS} {v1 : Int32} {v2 : Int32} {r : Int32} (h : fX8_said z v1 v2 = some r) : fMi D 76 ad (cfX ad cy cz) cy cz l yX8_said cX8_said 3 (some .int) rmX8_said [.ref (ad 0), .int v1, .int v2] z r z := by
  refine f_bodyi (by decide) (Nat.le_of_ble_eq_true rfl) (fun p e s m args below meth c Q hC hret ls hl hI => ?_)
  have hx := hC.1
  have hb := hC.2.1
  have hl : lv_has ls 3 [(0, .ref (ad 0)), (1, .int v1), (2, .int v2)] := hl
  unfold fX8_said at h
  refine lv_aload_n hx hb dX8_said_0 rfl (lv_at hl 0 rfl) ?_
  refine gX8_sayings hC hI tw_282 dX8_said_1 ?_
  refine lv_iload_n hx hb dX8_said_4 rfl (lv_at hl 1 rfl) ?_
  replace h := bp_at h
  obtain ⟨r5, e5, h⟩ := h
  refine r_calli (rest := []) hC hI oX_11 (C := "EqualCourt$Sayings") rfl ywX5_has tw_603 (cX5_has_ok  e5) ⟨Nat.le_of_ble_eq_true rfl, Nat.le_of_ble_eq_true rfl⟩ ⟨rfl, rfl⟩ rfl hl.1 rfl (Nat.le_of_ble_eq_true rfl) dX8_said_5 (fun H locs hI => ?_)
  refine lv_if_ne (tgt := 13) hx hb dX8_said_8 (by decide) (fun c8 => ?_) (fun c8 => ?_)
  · replace h := if_f h c8
    refine lv_iload_n hx hb dX8_said_13 rfl (lv_at hl 2 rfl) ?_
    refine lv_topi (fun y14 e14 => ?_)
    by_cases b14_0 : y14 = (0 : Int32)
    · replace h := if_t h (e14.symm.trans b14_0)
      refine lv_tableIn (tgt := 44) hx hb dX8_said_14 (by rw [b14_0]; decide) (by rw [b14_0]; decide) (by rw [b14_0]; rfl) (by decide) ?_
      refine lv_aload_n hx hb dX8_said_44 rfl (lv_at hl 0 rfl) ?_
      refine gX8_sayings hC hI tw_282 dX8_said_45 ?_
      refine lv_iload_n hx hb dX8_said_48 rfl (lv_at hl 1 rfl) ?_
      replace h := bp_at h
      obtain ⟨r49, e49, h⟩ := h
      refine r_calli (rest := []) hC hI oX_11 (C := "EqualCourt$Sayings") rfl ywX5_isSame tw_612 (cX5_isSame_ok  e49) ⟨Nat.le_of_ble_eq_true rfl, Nat.le_of_ble_eq_true rfl⟩ ⟨rfl, rfl⟩ rfl hl.1 rfl (Nat.le_of_ble_eq_true rfl) dX8_said_49 (fun H locs hI => ?_)
      refine lv_if_eq (tgt := 59) hx hb dX8_said_52 (by decide) (fun c52 => ?_) (fun c52 => ?_)
      · replace h := if_t h c52
        refine lv_iconst (v := 0) hx hb dX8_said_59 (by decide) ?_
        exact hret (ret_p _ h) dX8_said_60 hI
      · replace h := if_f h c52
        refine lv_iconst (v := 1) hx hb dX8_said_55 (by decide) ?_
        refine lv_goto (tgt := 60) hx hb dX8_said_56 (by decide) ?_
        exact hret (ret_p _ h) dX8_said_60 hI
    replace h := if_f h (fun q => b14_0 (e14.trans q))
    by_cases b14_1 : y14 = (1 : Int32)
    · replace h := if_t h (e14.symm.trans b14_1)
      refine lv_tableIn (tgt := 61) hx hb dX8_said_14 (by rw [b14_1]; decide) (by rw [b14_1]; decide) (by rw [b14_1]; rfl) (by decide) ?_
      refine lv_aload_n hx hb dX8_said_61 rfl (lv_at hl 0 rfl) ?_
      refine gX8_sayings hC hI tw_282 dX8_said_62 ?_
      refine lv_iload_n hx hb dX8_said_65 rfl (lv_at hl 1 rfl) ?_
      replace h := bp_at h
      obtain ⟨r66, e66, h⟩ := h
      refine r_calli (rest := []) hC hI oX_11 (C := "EqualCourt$Sayings") rfl ywX5_left tw_621 (cX5_left_ok  e66) ⟨Nat.le_of_ble_eq_true rfl, Nat.le_of_ble_eq_true rfl⟩ ⟨rfl, rfl⟩ rfl hl.1 rfl (Nat.le_of_ble_eq_true rfl) dX8_said_66 (fun H locs hI => ?_)
      exact hret (ret_p _ h) dX8_said_69 hI
    replace h := if_f h (fun q => b14_1 (e14.trans q))
    by_cases b14_2 : y14 = (2 : Int32)
    · replace h := if_t h (e14.symm.trans b14_2)
      refine lv_tableIn (tgt := 70) hx hb dX8_said_14 (by rw [b14_2]; decide) (by rw [b14_2]; decide) (by rw [b14_2]; rfl) (by decide) ?_
      refine lv_aload_n hx hb dX8_said_70 rfl (lv_at hl 0 rfl) ?_
      refine gX8_sayings hC hI tw_282 dX8_said_71 ?_
      refine lv_iload_n hx hb dX8_said_74 rfl (lv_at hl 1 rfl) ?_
      replace h := bp_at h
      obtain ⟨r75, e75, h⟩ := h
      refine r_calli (rest := []) hC hI oX_11 (C := "EqualCourt$Sayings") rfl ywX5_right tw_622 (cX5_right_ok  e75) ⟨Nat.le_of_ble_eq_true rfl, Nat.le_of_ble_eq_true rfl⟩ ⟨rfl, rfl⟩ rfl hl.1 rfl (Nat.le_of_ble_eq_true rfl) dX8_said_75 (fun H locs hI => ?_)
      exact hret (ret_p _ h) dX8_said_78 hI
    replace h := if_f h (fun q => b14_2 (e14.trans q))
    by_cases b14_3 : y14 = (3 : Int32)
    · replace h := if_t h (e14.symm.trans b14_3)
      refine lv_tableIn (tgt := 79) hx hb dX8_said_14 (by rw [b14_3]; decide) (by rw [b14_3]; decide) (by rw [b14_3]; rfl) (by decide) ?_
      refine lv_aload_n hx hb dX8_said_79 rfl (lv_at hl 0 rfl) ?_
      refine gX8_sayings hC hI tw_282 dX8_said_80 ?_
      refine lv_iload_n hx hb dX8_said_83 rfl (lv_at hl 1 rfl) ?_
      replace h := bp_at h
      obtain ⟨r84, e84, h⟩ := h
      refine r_calli (rest := []) hC hI oX_11 (C := "EqualCourt$Sayings") rfl ywX5_isTaken tw_607 (cX5_isTaken_ok  e84) ⟨Nat.le_of_ble_eq_true rfl, Nat.le_of_ble_eq_true rfl⟩ ⟨rfl, rfl⟩ rfl hl.1 rfl (Nat.le_of_ble_eq_true rfl) dX8_said_84 (fun H locs hI => ?_)
      refine lv_if_eq (tgt := 94) hx hb dX8_said_87 (by decide) (fun c87 => ?_) (fun c87 => ?_)
      · replace h := if_t h c87
        refine lv_iconst (v := 0) hx hb dX8_said_94 (by decide) ?_
        exact hret (ret_p _ h) dX8_said_95 hI
      · replace h := if_f h c87
        refine lv_iconst (v := 1) hx hb dX8_said_90 (by decide) ?_
        refine lv_goto (tgt := 95) hx hb dX8_said_91 (by decide) ?_
        exact hret (ret_p _ h) dX8_said_95 hI
    replace h := if_f h (fun q => b14_3 (e14.trans q))
    refine lv_tableOut (tgt := 96) hx hb dX8_said_14 (by have q0 := lv_neT b14_0 (a := 0) (by decide); have q1 := lv_neT b14_1 (a := 1) (by decide); have q2 := lv_neT b14_2 (a := 2) (by decide); have q3 := lv_neT b14_3 (a := 3) (by decide); omega) (by decide) ?_
    refine lv_iconst (v := -1) hx hb dX8_said_96 (by decide) ?_
    exact hret (ret_p _ h) dX8_said_97 hI
  · replace h := if_t h c8
    refine lv_iconst (v := -1) hx hb dX8_said_11 (by decide) ?_
    exact hret (ret_p _ h) dX8_said_12 hI
theorem dX8_clashed_0 : decode cX8_clashed 0 = .ok (.aload_n 0, 1) := by decide +kernel
theorem dX8_clashed_1 : decode cX8_clashed 1 = .ok (.getfield 51, 3) := by decide +kernel
theorem dX8_clashed_4 : decode cX8_clashed 4 = .ok (.iload_n 1, 1) := by decide +kernel
theorem dX8_clashed_5 : decode cX8_clashed 5 = .ok (.invokevirtual 169, 3) := by decide +kernel
theorem dX8_clashed_8 : decode cX8_clashed 8 = .ok (.ireturn, 1) := by decide +kernel
abbrev rmX8_clashed : Room := { frames := 1, cells := 0, slots := 0, locals := 21 }
theorem ywX8_clashed : fY yX8_clashed "EqualCourt" cX8_clashed 2 (some .int) 1 := ⟨tw_624, tw_625, tw_1, tw_626, by decide +kernel⟩
set_option maxHeartbeats 4000000 in
set_option maxRecDepth 100000 in
theorem cX8_clashed_ok {D : va_G} {ad : Nat → Nat} {cy cz : ClassId} {l : Launch} {z : fS} {v1 : Int32} {r : Int32} (h : fX8_clashed z v1 = some r) : fMi D 76 ad (cfX ad cy cz) cy cz l yX8_clashed cX8_clashed 2 (some .int) rmX8_clashed [.ref (ad 0), .int v1] z r z := by
  refine f_bodyi (by decide) (Nat.le_of_ble_eq_true rfl) (fun p e s m args below meth c Q hC hret ls hl hI => ?_)
  have hx := hC.1
  have hb := hC.2.1
  have hl : lv_has ls 2 [(0, .ref (ad 0)), (1, .int v1)] := hl
  unfold fX8_clashed at h
  refine lv_aload_n hx hb dX8_clashed_0 rfl (lv_at hl 0 rfl) ?_
  refine gX8_clashCore hC hI tw_286 dX8_clashed_1 ?_
  refine lv_iload_n hx hb dX8_clashed_4 rfl (lv_at hl 1 rfl) ?_
  replace h := bp_at h
  obtain ⟨r5, e5, h⟩ := h
  refine r_calli (rest := []) hC hI (oK isK_69) (C := "EqualCourt$Core") rfl ywX1_at tw_627 (cX1_at_ok isK_69 e5) ⟨Nat.le_of_ble_eq_true rfl, Nat.le_of_ble_eq_true rfl⟩ ⟨rfl, rfl⟩ rfl hl.1 rfl (Nat.le_of_ble_eq_true rfl) dX8_clashed_5 (fun H locs hI => ?_)
  exact hret (ret_p _ h) dX8_clashed_8 hI
theorem dX8_judge_0 : decode cX8_judge 0 = .ok (.aload_n 0, 1) := by decide +kernel
theorem dX8_judge_1 : decode cX8_judge 1 = .ok (.getfield 10, 3) := by decide +kernel
theorem dX8_judge_4 : decode cX8_judge 4 = .ok (.iload_n 1, 1) := by decide +kernel
theorem dX8_judge_5 : decode cX8_judge 5 = .ok (.invokevirtual 86, 3) := by decide +kernel
theorem dX8_judge_8 : decode cX8_judge 8 = .ok (.ifCond .eq 14, 3) := by decide +kernel
theorem dX8_judge_11 : decode cX8_judge 11 = .ok (.aload_n 0, 1) := by decide +kernel
theorem dX8_judge_12 : decode cX8_judge 12 = .ok (.getfield 10, 3) := by decide +kernel
theorem dX8_judge_15 : decode cX8_judge 15 = .ok (.iload_n 2, 1) := by decide +kernel
theorem dX8_judge_16 : decode cX8_judge 16 = .ok (.invokevirtual 86, 3) := by decide +kernel
theorem dX8_judge_19 : decode cX8_judge 19 = .ok (.ifCond .ne 5, 3) := by decide +kernel
theorem dX8_judge_22 : decode cX8_judge 22 = .ok (.iconst (-1), 1) := by decide +kernel
theorem dX8_judge_23 : decode cX8_judge 23 = .ok (.ireturn, 1) := by decide +kernel
theorem dX8_judge_24 : decode cX8_judge 24 = .ok (.aload_n 0, 1) := by decide +kernel
theorem dX8_judge_25 : decode cX8_judge 25 = .ok (.getfield 28, 3) := by decide +kernel
theorem dX8_judge_28 : decode cX8_judge 28 = .ok (.invokevirtual 118, 3) := by decide +kernel
theorem dX8_judge_31 : decode cX8_judge 31 = .ok (.iload_n 1, 1) := by decide +kernel
theorem dX8_judge_32 : decode cX8_judge 32 = .ok (.iload_n 2, 1) := by decide +kernel
theorem dX8_judge_33 : decode cX8_judge 33 = .ok (.invokevirtual 146, 3) := by decide +kernel
theorem dX8_judge_36 : decode cX8_judge 36 = .ok (.ifCond .eq 5, 3) := by decide +kernel
theorem dX8_judge_39 : decode cX8_judge 39 = .ok (.iconst 1, 1) := by decide +kernel
theorem dX8_judge_40 : decode cX8_judge 40 = .ok (.ireturn, 1) := by decide +kernel
theorem dX8_judge_41 : decode cX8_judge 41 = .ok (.aload_n 0, 1) := by decide +kernel
theorem dX8_judge_42 : decode cX8_judge 42 = .ok (.getfield 28, 3) := by decide +kernel
theorem dX8_judge_45 : decode cX8_judge 45 = .ok (.iload_n 1, 1) := by decide +kernel
theorem dX8_judge_46 : decode cX8_judge 46 = .ok (.iload_n 2, 1) := by decide +kernel
theorem dX8_judge_47 : decode cX8_judge 47 = .ok (.invokevirtual 131, 3) := by decide +kernel
theorem dX8_judge_50 : decode cX8_judge 50 = .ok (.ifCond .eq 7, 3) := by decide +kernel
theorem dX8_judge_53 : decode cX8_judge 53 = .ok (.iconst 0, 1) := by decide +kernel
theorem dX8_judge_54 : decode cX8_judge 54 = .ok (.goto 4, 3) := by decide +kernel
theorem dX8_judge_57 : decode cX8_judge 57 = .ok (.iconst 2, 1) := by decide +kernel
theorem dX8_judge_58 : decode cX8_judge 58 = .ok (.ireturn, 1) := by decide +kernel
abbrev rmX8_judge : Room := { frames := 4, cells := 0, slots := 0, locals := 103 }
theorem ywX8_judge : fY yX8_judge "EqualCourt" cX8_judge 3 (some .int) 2 := ⟨tw_629, tw_630, tw_1, tw_631, by decide +kernel⟩
set_option maxHeartbeats 4000000 in
set_option maxRecDepth 100000 in
theorem cX8_judge_ok {D : va_G} {ad : Nat → Nat} {cy cz : ClassId} {l : Launch} {z : fS} {v1 : Int32} {v2 : Int32} {r : Int32} {τ : fS} (h : fX8_judge z v1 v2 = some (r, τ)) : fMi D 76 ad (cfX ad cy cz) cy cz l yX8_judge cX8_judge 3 (some .int) rmX8_judge [.ref (ad 0), .int v1, .int v2] z r τ := by
  refine f_bodyi (by decide) (Nat.le_of_ble_eq_true rfl) (fun p e s m args below meth c Q hC hret ls hl hI => ?_)
  have hx := hC.1
  have hb := hC.2.1
  have hl : lv_has ls 3 [(0, .ref (ad 0)), (1, .int v1), (2, .int v2)] := hl
  unfold fX8_judge at h
  refine lv_aload_n hx hb dX8_judge_0 rfl (lv_at hl 0 rfl) ?_
  refine gX8_terms hC hI tw_281 dX8_judge_1 ?_
  refine lv_iload_n hx hb dX8_judge_4 rfl (lv_at hl 1 rfl) ?_
  replace h := bp_at h
  obtain ⟨r5, e5, h⟩ := h
  refine r_calli (rest := []) hC hI oX_1 (C := "EqualCourt$Terms") rfl ywX7_has tw_451 (cX7_has_ok  e5) ⟨Nat.le_of_ble_eq_true rfl, Nat.le_of_ble_eq_true rfl⟩ ⟨rfl, rfl⟩ rfl hl.1 rfl (Nat.le_of_ble_eq_true rfl) dX8_judge_5 (fun H locs hI => ?_)
  refine lv_if_eq (tgt := 22) hx hb dX8_judge_8 (by decide) (fun c8 => ?_) (fun c8 => ?_)
  · replace h := if_t h c8
    refine lv_iconst (v := -1) hx hb dX8_judge_22 (by decide) ?_
    exact hret h dX8_judge_23 hI
  · replace h := if_f h c8
    refine lv_aload_n hx hb dX8_judge_11 rfl (lv_at hl 0 rfl) ?_
    refine gX8_terms hC hI tw_281 dX8_judge_12 ?_
    refine lv_iload_n hx hb dX8_judge_15 rfl (lv_at hl 2 rfl) ?_
    replace h := bp_at h
    obtain ⟨r16, e16, h⟩ := h
    refine r_calli (rest := []) hC hI oX_1 (C := "EqualCourt$Terms") rfl ywX7_has tw_451 (cX7_has_ok  e16) ⟨Nat.le_of_ble_eq_true rfl, Nat.le_of_ble_eq_true rfl⟩ ⟨rfl, rfl⟩ rfl hl.1 rfl (Nat.le_of_ble_eq_true rfl) dX8_judge_16 (fun H locs hI => ?_)
    refine lv_if_ne (tgt := 24) hx hb dX8_judge_19 (by decide) (fun c19 => ?_) (fun c19 => ?_)
    · replace h := if_f h c19
      refine lv_aload_n hx hb dX8_judge_24 rfl (lv_at hl 0 rfl) ?_
      refine gX8_court hC hI tw_283 dX8_judge_25 ?_
      replace h := bp_at h
      obtain ⟨r28, e28, h⟩ := h
      refine r_callr (rest := []) hC hI oX_17 (C := "EqualCourt$Court") rfl ywX2_standing tw_505 (cX2_standing_ok  e28) ⟨Nat.le_of_ble_eq_true rfl, Nat.le_of_ble_eq_true rfl⟩ ⟨rfl, rfl⟩ rfl hl.1 rfl (Nat.le_of_ble_eq_true rfl) dX8_judge_28 (fun H locs hI => ?_)
      refine lv_iload_n hx hb dX8_judge_31 rfl (lv_at hl 1 rfl) ?_
      refine lv_iload_n hx hb dX8_judge_32 rfl (lv_at hl 2 rfl) ?_
      replace h := bp_at h
      obtain ⟨r33, e33, h⟩ := h
      refine r_calli (rest := []) hC hI (oP (isP_pcell _)) (C := "EqualCourt$Partition") rfl ywX4_isOne tw_598 (cX4_isOne_ok (isP_pcell _) e33) ⟨Nat.le_of_ble_eq_true rfl, Nat.le_of_ble_eq_true rfl⟩ ⟨rfl, rfl⟩ rfl hl.1 rfl (Nat.le_of_ble_eq_true rfl) dX8_judge_33 (fun H locs hI => ?_)
      refine lv_if_eq (tgt := 41) hx hb dX8_judge_36 (by decide) (fun c36 => ?_) (fun c36 => ?_)
      · replace h := if_t h c36
        refine lv_aload_n hx hb dX8_judge_41 rfl (lv_at hl 0 rfl) ?_
        refine gX8_court hC hI tw_283 dX8_judge_42 ?_
        refine lv_iload_n hx hb dX8_judge_45 rfl (lv_at hl 1 rfl) ?_
        refine lv_iload_n hx hb dX8_judge_46 rfl (lv_at hl 2 rfl) ?_
        replace h := bd_at h
        obtain ⟨r47, z47, e47, h⟩ := h
        refine r_calli (rest := []) hC hI oX_17 (C := "EqualCourt$Court") rfl ywX2_wouldClash tw_521 (cX2_wouldClash_ok  e47) ⟨Nat.le_of_ble_eq_true rfl, Nat.le_of_ble_eq_true rfl⟩ ⟨rfl, rfl⟩ rfl hl.1 rfl (Nat.le_of_ble_eq_true rfl) dX8_judge_47 (fun H locs hI => ?_)
        refine lv_if_eq (tgt := 57) hx hb dX8_judge_50 (by decide) (fun c50 => ?_) (fun c50 => ?_)
        · replace h := if_t h c50
          refine lv_iconst (v := 2) hx hb dX8_judge_57 (by decide) ?_
          exact hret h dX8_judge_58 hI
        · replace h := if_f h c50
          refine lv_iconst (v := 0) hx hb dX8_judge_53 (by decide) ?_
          refine lv_goto (tgt := 58) hx hb dX8_judge_54 (by decide) ?_
          exact hret h dX8_judge_58 hI
      · replace h := if_f h c36
        refine lv_iconst (v := 1) hx hb dX8_judge_39 (by decide) ?_
        exact hret h dX8_judge_40 hI
    · replace h := if_t h c19
      refine lv_iconst (v := -1) hx hb dX8_judge_22 (by decide) ?_
      exact hret h dX8_judge_23 hI
theorem dX8_why_0 : decode cX8_why 0 = .ok (.aload_n 0, 1) := by decide +kernel
theorem dX8_why_1 : decode cX8_why 1 = .ok (.getfield 10, 3) := by decide +kernel
theorem dX8_why_4 : decode cX8_why 4 = .ok (.iload_n 1, 1) := by decide +kernel
theorem dX8_why_5 : decode cX8_why 5 = .ok (.invokevirtual 86, 3) := by decide +kernel
theorem dX8_why_8 : decode cX8_why 8 = .ok (.ifCond .eq 14, 3) := by decide +kernel
theorem dX8_why_11 : decode cX8_why 11 = .ok (.aload_n 0, 1) := by decide +kernel
theorem dX8_why_12 : decode cX8_why 12 = .ok (.getfield 10, 3) := by decide +kernel
theorem dX8_why_15 : decode cX8_why 15 = .ok (.iload_n 2, 1) := by decide +kernel
theorem dX8_why_16 : decode cX8_why 16 = .ok (.invokevirtual 86, 3) := by decide +kernel
theorem dX8_why_19 : decode cX8_why 19 = .ok (.ifCond .ne 9, 3) := by decide +kernel
theorem dX8_why_22 : decode cX8_why 22 = .ok (.aload_n 0, 1) := by decide +kernel
theorem dX8_why_23 : decode cX8_why 23 = .ok (.iconst 1, 1) := by decide +kernel
theorem dX8_why_24 : decode cX8_why 24 = .ok (.invokevirtual 78, 3) := by decide +kernel
theorem dX8_why_27 : decode cX8_why 27 = .ok (.ireturn, 1) := by decide +kernel
theorem dX8_why_28 : decode cX8_why 28 = .ok (.aload_n 0, 1) := by decide +kernel
theorem dX8_why_29 : decode cX8_why 29 = .ok (.getfield 28, 3) := by decide +kernel
theorem dX8_why_32 : decode cX8_why 32 = .ok (.invokevirtual 118, 3) := by decide +kernel
theorem dX8_why_35 : decode cX8_why 35 = .ok (.iload_n 1, 1) := by decide +kernel
theorem dX8_why_36 : decode cX8_why 36 = .ok (.iload_n 2, 1) := by decide +kernel
theorem dX8_why_37 : decode cX8_why 37 = .ok (.invokevirtual 146, 3) := by decide +kernel
theorem dX8_why_40 : decode cX8_why 40 = .ok (.istore_n 3, 1) := by decide +kernel
theorem dX8_why_41 : decode cX8_why 41 = .ok (.iload_n 3, 1) := by decide +kernel
theorem dX8_why_42 : decode cX8_why 42 = .ok (.ifCond .ne 22, 3) := by decide +kernel
theorem dX8_why_45 : decode cX8_why 45 = .ok (.aload_n 0, 1) := by decide +kernel
theorem dX8_why_46 : decode cX8_why 46 = .ok (.getfield 28, 3) := by decide +kernel
theorem dX8_why_49 : decode cX8_why 49 = .ok (.iload_n 1, 1) := by decide +kernel
theorem dX8_why_50 : decode cX8_why 50 = .ok (.iload_n 2, 1) := by decide +kernel
theorem dX8_why_51 : decode cX8_why 51 = .ok (.invokevirtual 131, 3) := by decide +kernel
theorem dX8_why_54 : decode cX8_why 54 = .ok (.ifCond .ne 10, 3) := by decide +kernel
theorem dX8_why_57 : decode cX8_why 57 = .ok (.aload_n 0, 1) := by decide +kernel
theorem dX8_why_58 : decode cX8_why 58 = .ok (.bipush 6, 2) := by decide +kernel
theorem dX8_why_60 : decode cX8_why 60 = .ok (.invokevirtual 78, 3) := by decide +kernel
theorem dX8_why_63 : decode cX8_why 63 = .ok (.ireturn, 1) := by decide +kernel
theorem dX8_why_64 : decode cX8_why 64 = .ok (.aload_n 0, 1) := by decide +kernel
theorem dX8_why_65 : decode cX8_why 65 = .ok (.getfield 28, 3) := by decide +kernel
theorem dX8_why_68 : decode cX8_why 68 = .ok (.iload_n 3, 1) := by decide +kernel
theorem dX8_why_69 : decode cX8_why 69 = .ok (.iload_n 1, 1) := by decide +kernel
theorem dX8_why_70 : decode cX8_why 70 = .ok (.iload_n 2, 1) := by decide +kernel
theorem dX8_why_71 : decode cX8_why 71 = .ok (.aload_n 0, 1) := by decide +kernel
theorem dX8_why_72 : decode cX8_why 72 = .ok (.getfield 55, 3) := by decide +kernel
theorem dX8_why_75 : decode cX8_why 75 = .ok (.invokevirtual 135, 3) := by decide +kernel
theorem dX8_why_78 : decode cX8_why 78 = .ok (.aload_n 0, 1) := by decide +kernel
theorem dX8_why_79 : decode cX8_why 79 = .ok (.aload_n 0, 1) := by decide +kernel
theorem dX8_why_80 : decode cX8_why 80 = .ok (.getfield 55, 3) := by decide +kernel
theorem dX8_why_83 : decode cX8_why 83 = .ok (.invokevirtual 172, 3) := by decide +kernel
theorem dX8_why_86 : decode cX8_why 86 = .ok (.invokevirtual 100, 3) := by decide +kernel
theorem dX8_why_89 : decode cX8_why 89 = .ok (.ireturn, 1) := by decide +kernel
abbrev rmX8_why : Room := { frames := 5, cells := 0, slots := 0, locals := 128 }
theorem ywX8_why : fY yX8_why "EqualCourt" cX8_why 4 (some .int) 2 := ⟨tw_633, tw_634, tw_1, tw_635, by decide +kernel⟩
set_option maxHeartbeats 4000000 in
set_option maxRecDepth 100000 in
theorem cX8_why_ok {D : va_G} {ad : Nat → Nat} {cy cz : ClassId} {l : Launch} {z : fS} {v1 : Int32} {v2 : Int32} {r : Int32} {τ : fS} (h : fX8_why z v1 v2 = some (r, τ)) : fMi D 76 ad (cfX ad cy cz) cy cz l yX8_why cX8_why 4 (some .int) rmX8_why [.ref (ad 0), .int v1, .int v2] z r τ := by
  refine f_bodyi (by decide) (Nat.le_of_ble_eq_true rfl) (fun p e s m args below meth c Q hC hret ls hl hI => ?_)
  have hx := hC.1
  have hb := hC.2.1
  have hl : lv_has ls 4 [(0, .ref (ad 0)), (1, .int v1), (2, .int v2)] := hl
  unfold fX8_why at h
  have w64 : ∀ (v1 : Int32) (v2 : Int32) (v3 : Int32) (z : fS) (H : Heap) (locs : List Loc) (ls : Array Slot), fI D 76 ad (cfX ad cy cz) z s H locs → lv_has ls 4 [(0, .ref (ad 0)), (1, .int v1), (2, .int v2), (3, .int v3)] → jX8_why_64   v1 v2 v3 z = some (r, τ) → W p l e rmX8_why s m args below meth c H locs 0 0 Q (F0 m 64 ls []) := by
    intro v1 v2 v3 z H locs ls hI hl h
    unfold jX8_why_64 at h
    refine lv_aload_n hx hb dX8_why_64 rfl (lv_at hl 0 rfl) ?_
    refine gX8_court hC hI tw_283 dX8_why_65 ?_
    refine lv_iload_n hx hb dX8_why_68 rfl (lv_at hl 3 rfl) ?_
    refine lv_iload_n hx hb dX8_why_69 rfl (lv_at hl 1 rfl) ?_
    refine lv_iload_n hx hb dX8_why_70 rfl (lv_at hl 2 rfl) ?_
    refine lv_aload_n hx hb dX8_why_71 rfl (lv_at hl 0 rfl) ?_
    refine gX8_causes hC hI tw_287 dX8_why_72 ?_
    replace h := bp_at h
    obtain ⟨z75, e75, h⟩ := h
    refine r_callv (rest := []) hC hI oX_17 (C := "EqualCourt$Court") rfl ywX2_thin tw_558 (cX2_thin_ok isK_71 e75) ⟨Nat.le_of_ble_eq_true rfl, Nat.le_of_ble_eq_true rfl⟩ ⟨rfl, rfl⟩ rfl hl.1 rfl (Nat.le_of_ble_eq_true rfl) dX8_why_75 (fun H locs hI => ?_)
    refine lv_aload_n hx hb dX8_why_78 rfl (lv_at hl 0 rfl) ?_
    refine lv_aload_n hx hb dX8_why_79 rfl (lv_at hl 0 rfl) ?_
    refine gX8_causes hC hI tw_287 dX8_why_80 ?_
    replace h := bp_at h
    obtain ⟨r83, e83, h⟩ := h
    refine r_calli (rest := [.ref (ad 0)]) hC hI (oK isK_71) (C := "EqualCourt$Core") rfl ywX1_count tw_636 (cX1_count_ok isK_71 e83) ⟨Nat.le_of_ble_eq_true rfl, Nat.le_of_ble_eq_true rfl⟩ ⟨rfl, rfl⟩ rfl hl.1 rfl (Nat.le_of_ble_eq_true rfl) dX8_why_83 (fun H locs hI => ?_)
    replace h := bd_at h
    obtain ⟨r86, z86, e86, h⟩ := h
    refine r_calli (rest := []) hC hI oX_0 (C := "EqualCourt") rfl ywX8_done tw_439 (cX8_done_ok  e86) ⟨Nat.le_of_ble_eq_true rfl, Nat.le_of_ble_eq_true rfl⟩ ⟨rfl, rfl⟩ rfl hl.1 rfl (Nat.le_of_ble_eq_true rfl) dX8_why_86 (fun H locs hI => ?_)
    exact hret h dX8_why_89 hI
  refine lv_aload_n hx hb dX8_why_0 rfl (lv_at hl 0 rfl) ?_
  refine gX8_terms hC hI tw_281 dX8_why_1 ?_
  refine lv_iload_n hx hb dX8_why_4 rfl (lv_at hl 1 rfl) ?_
  replace h := bp_at h
  obtain ⟨r5, e5, h⟩ := h
  refine r_calli (rest := []) hC hI oX_1 (C := "EqualCourt$Terms") rfl ywX7_has tw_451 (cX7_has_ok  e5) ⟨Nat.le_of_ble_eq_true rfl, Nat.le_of_ble_eq_true rfl⟩ ⟨rfl, rfl⟩ rfl hl.1 rfl (Nat.le_of_ble_eq_true rfl) dX8_why_5 (fun H locs hI => ?_)
  refine lv_if_eq (tgt := 22) hx hb dX8_why_8 (by decide) (fun c8 => ?_) (fun c8 => ?_)
  · replace h := if_t h c8
    refine lv_aload_n hx hb dX8_why_22 rfl (lv_at hl 0 rfl) ?_
    refine lv_iconst (v := 1) hx hb dX8_why_23 (by decide) ?_
    replace h := bd_at h
    obtain ⟨r24, z24, e24, h⟩ := h
    refine r_calli (rest := []) hC hI oX_0 (C := "EqualCourt") rfl ywX8_refused tw_325 (cX8_refused_ok  e24) ⟨Nat.le_of_ble_eq_true rfl, Nat.le_of_ble_eq_true rfl⟩ ⟨rfl, rfl⟩ rfl hl.1 rfl (Nat.le_of_ble_eq_true rfl) dX8_why_24 (fun H locs hI => ?_)
    exact hret h dX8_why_27 hI
  · replace h := if_f h c8
    refine lv_aload_n hx hb dX8_why_11 rfl (lv_at hl 0 rfl) ?_
    refine gX8_terms hC hI tw_281 dX8_why_12 ?_
    refine lv_iload_n hx hb dX8_why_15 rfl (lv_at hl 2 rfl) ?_
    replace h := bp_at h
    obtain ⟨r16, e16, h⟩ := h
    refine r_calli (rest := []) hC hI oX_1 (C := "EqualCourt$Terms") rfl ywX7_has tw_451 (cX7_has_ok  e16) ⟨Nat.le_of_ble_eq_true rfl, Nat.le_of_ble_eq_true rfl⟩ ⟨rfl, rfl⟩ rfl hl.1 rfl (Nat.le_of_ble_eq_true rfl) dX8_why_16 (fun H locs hI => ?_)
    refine lv_if_ne (tgt := 28) hx hb dX8_why_19 (by decide) (fun c19 => ?_) (fun c19 => ?_)
    · replace h := if_f h c19
      refine lv_aload_n hx hb dX8_why_28 rfl (lv_at hl 0 rfl) ?_
      refine gX8_court hC hI tw_283 dX8_why_29 ?_
      replace h := bp_at h
      obtain ⟨r32, e32, h⟩ := h
      refine r_callr (rest := []) hC hI oX_17 (C := "EqualCourt$Court") rfl ywX2_standing tw_505 (cX2_standing_ok  e32) ⟨Nat.le_of_ble_eq_true rfl, Nat.le_of_ble_eq_true rfl⟩ ⟨rfl, rfl⟩ rfl hl.1 rfl (Nat.le_of_ble_eq_true rfl) dX8_why_32 (fun H locs hI => ?_)
      refine lv_iload_n hx hb dX8_why_35 rfl (lv_at hl 1 rfl) ?_
      refine lv_iload_n hx hb dX8_why_36 rfl (lv_at hl 2 rfl) ?_
      replace h := bp_at h
      obtain ⟨r37, e37, h⟩ := h
      refine r_calli (rest := []) hC hI (oP (isP_pcell _)) (C := "EqualCourt$Partition") rfl ywX4_isOne tw_598 (cX4_isOne_ok (isP_pcell _) e37) ⟨Nat.le_of_ble_eq_true rfl, Nat.le_of_ble_eq_true rfl⟩ ⟨rfl, rfl⟩ rfl hl.1 rfl (Nat.le_of_ble_eq_true rfl) dX8_why_37 (fun H locs hI => ?_)
      refine lv_istore_n (lv' := [(3, .int r37), (0, .ref (ad 0)), (1, .int v1), (2, .int v2)]) hx hb dX8_why_40 rfl hl (by decide) rfl (fun ls hl => ?_)
      refine lv_iload_n hx hb dX8_why_41 rfl (lv_at hl 0 rfl) ?_
      refine lv_if_ne (tgt := 64) hx hb dX8_why_42 (by decide) (fun c42 => ?_) (fun c42 => ?_)
      · replace h := if_f h c42
        exact w64 v1 v2 r37 z _ _ _ hI (lv_sub hl [1, 2, 3, 0] rfl) h
      · replace h := if_t h c42
        refine lv_aload_n hx hb dX8_why_45 rfl (lv_at hl 1 rfl) ?_
        refine gX8_court hC hI tw_283 dX8_why_46 ?_
        refine lv_iload_n hx hb dX8_why_49 rfl (lv_at hl 2 rfl) ?_
        refine lv_iload_n hx hb dX8_why_50 rfl (lv_at hl 3 rfl) ?_
        replace h := bd_at h
        obtain ⟨r51, z51, e51, h⟩ := h
        refine r_calli (rest := []) hC hI oX_17 (C := "EqualCourt$Court") rfl ywX2_wouldClash tw_521 (cX2_wouldClash_ok  e51) ⟨Nat.le_of_ble_eq_true rfl, Nat.le_of_ble_eq_true rfl⟩ ⟨rfl, rfl⟩ rfl hl.1 rfl (Nat.le_of_ble_eq_true rfl) dX8_why_51 (fun H locs hI => ?_)
        refine lv_if_ne (tgt := 64) hx hb dX8_why_54 (by decide) (fun c54 => ?_) (fun c54 => ?_)
        · replace h := if_f h c54
          exact w64 v1 v2 r37 z51 _ _ _ hI (lv_sub hl [1, 2, 3, 0] rfl) h
        · replace h := if_t h c54
          refine lv_aload_n hx hb dX8_why_57 rfl (lv_at hl 1 rfl) ?_
          refine lv_bipush (v := 6) hx hb dX8_why_58 (by decide) ?_
          replace h := bd_at h
          obtain ⟨r60, z60, e60, h⟩ := h
          refine r_calli (rest := []) hC hI oX_0 (C := "EqualCourt") rfl ywX8_refused tw_325 (cX8_refused_ok  e60) ⟨Nat.le_of_ble_eq_true rfl, Nat.le_of_ble_eq_true rfl⟩ ⟨rfl, rfl⟩ rfl hl.1 rfl (Nat.le_of_ble_eq_true rfl) dX8_why_60 (fun H locs hI => ?_)
          exact hret h dX8_why_63 hI
    · replace h := if_t h c19
      refine lv_aload_n hx hb dX8_why_22 rfl (lv_at hl 0 rfl) ?_
      refine lv_iconst (v := 1) hx hb dX8_why_23 (by decide) ?_
      replace h := bd_at h
      obtain ⟨r24, z24, e24, h⟩ := h
      refine r_calli (rest := []) hC hI oX_0 (C := "EqualCourt") rfl ywX8_refused tw_325 (cX8_refused_ok  e24) ⟨Nat.le_of_ble_eq_true rfl, Nat.le_of_ble_eq_true rfl⟩ ⟨rfl, rfl⟩ rfl hl.1 rfl (Nat.le_of_ble_eq_true rfl) dX8_why_24 (fun H locs hI => ?_)
      exact hret h dX8_why_27 hI
theorem dX8_least_0 : decode cX8_least 0 = .ok (.aload_n 0, 1) := by decide +kernel
theorem dX8_least_1 : decode cX8_least 1 = .ok (.getfield 10, 3) := by decide +kernel
theorem dX8_least_4 : decode cX8_least 4 = .ok (.iload_n 1, 1) := by decide +kernel
theorem dX8_least_5 : decode cX8_least 5 = .ok (.invokevirtual 86, 3) := by decide +kernel
theorem dX8_least_8 : decode cX8_least 8 = .ok (.ifCond .eq 26, 3) := by decide +kernel
theorem dX8_least_11 : decode cX8_least 11 = .ok (.aload_n 0, 1) := by decide +kernel
theorem dX8_least_12 : decode cX8_least 12 = .ok (.getfield 10, 3) := by decide +kernel
theorem dX8_least_15 : decode cX8_least 15 = .ok (.iload_n 2, 1) := by decide +kernel
theorem dX8_least_16 : decode cX8_least 16 = .ok (.invokevirtual 86, 3) := by decide +kernel
theorem dX8_least_19 : decode cX8_least 19 = .ok (.ifCond .eq 15, 3) := by decide +kernel
theorem dX8_least_22 : decode cX8_least 22 = .ok (.iload_n 3, 1) := by decide +kernel
theorem dX8_least_23 : decode cX8_least 23 = .ok (.iconst 1, 1) := by decide +kernel
theorem dX8_least_24 : decode cX8_least 24 = .ok (.if_icmp .lt 10, 3) := by decide +kernel
theorem dX8_least_27 : decode cX8_least 27 = .ok (.iload_n 3, 1) := by decide +kernel
theorem dX8_least_28 : decode cX8_least 28 = .ok (.sipush 500, 3) := by decide +kernel
theorem dX8_least_31 : decode cX8_least 31 = .ok (.if_icmp .le 9, 3) := by decide +kernel
theorem dX8_least_34 : decode cX8_least 34 = .ok (.aload_n 0, 1) := by decide +kernel
theorem dX8_least_35 : decode cX8_least 35 = .ok (.iconst 1, 1) := by decide +kernel
theorem dX8_least_36 : decode cX8_least 36 = .ok (.invokevirtual 78, 3) := by decide +kernel
theorem dX8_least_39 : decode cX8_least 39 = .ok (.ireturn, 1) := by decide +kernel
theorem dX8_least_40 : decode cX8_least 40 = .ok (.aload_n 0, 1) := by decide +kernel
theorem dX8_least_41 : decode cX8_least 41 = .ok (.getfield 28, 3) := by decide +kernel
theorem dX8_least_44 : decode cX8_least 44 = .ok (.invokevirtual 118, 3) := by decide +kernel
theorem dX8_least_47 : decode cX8_least 47 = .ok (.iload_n 1, 1) := by decide +kernel
theorem dX8_least_48 : decode cX8_least 48 = .ok (.iload_n 2, 1) := by decide +kernel
theorem dX8_least_49 : decode cX8_least 49 = .ok (.invokevirtual 146, 3) := by decide +kernel
theorem dX8_least_52 : decode cX8_least 52 = .ok (.ifCond .ne 10, 3) := by decide +kernel
theorem dX8_least_55 : decode cX8_least 55 = .ok (.aload_n 0, 1) := by decide +kernel
theorem dX8_least_56 : decode cX8_least 56 = .ok (.bipush 6, 2) := by decide +kernel
theorem dX8_least_58 : decode cX8_least 58 = .ok (.invokevirtual 78, 3) := by decide +kernel
theorem dX8_least_61 : decode cX8_least 61 = .ok (.ireturn, 1) := by decide +kernel
theorem dX8_least_62 : decode cX8_least 62 = .ok (.aload_n 0, 1) := by decide +kernel
theorem dX8_least_63 : decode cX8_least 63 = .ok (.getfield 28, 3) := by decide +kernel
theorem dX8_least_66 : decode cX8_least 66 = .ok (.iload_n 1, 1) := by decide +kernel
theorem dX8_least_67 : decode cX8_least 67 = .ok (.iload_n 2, 1) := by decide +kernel
theorem dX8_least_68 : decode cX8_least 68 = .ok (.iload_n 3, 1) := by decide +kernel
theorem dX8_least_69 : decode cX8_least 69 = .ok (.aload_n 0, 1) := by decide +kernel
theorem dX8_least_70 : decode cX8_least 70 = .ok (.getfield 55, 3) := by decide +kernel
theorem dX8_least_73 : decode cX8_least 73 = .ok (.invokevirtual 173, 3) := by decide +kernel
theorem dX8_least_76 : decode cX8_least 76 = .ok (.ifCond .ne 10, 3) := by decide +kernel
theorem dX8_least_79 : decode cX8_least 79 = .ok (.aload_n 0, 1) := by decide +kernel
theorem dX8_least_80 : decode cX8_least 80 = .ok (.bipush 7, 2) := by decide +kernel
theorem dX8_least_82 : decode cX8_least 82 = .ok (.invokevirtual 78, 3) := by decide +kernel
theorem dX8_least_85 : decode cX8_least 85 = .ok (.ireturn, 1) := by decide +kernel
theorem dX8_least_86 : decode cX8_least 86 = .ok (.aload_n 0, 1) := by decide +kernel
theorem dX8_least_87 : decode cX8_least 87 = .ok (.aload_n 0, 1) := by decide +kernel
theorem dX8_least_88 : decode cX8_least 88 = .ok (.getfield 55, 3) := by decide +kernel
theorem dX8_least_91 : decode cX8_least 91 = .ok (.invokevirtual 172, 3) := by decide +kernel
theorem dX8_least_94 : decode cX8_least 94 = .ok (.invokevirtual 100, 3) := by decide +kernel
theorem dX8_least_97 : decode cX8_least 97 = .ok (.ireturn, 1) := by decide +kernel
abbrev rmX8_least : Room := { frames := 5, cells := 0, slots := 0, locals := 134 }
theorem ywX8_least : fY yX8_least "EqualCourt" cX8_least 4 (some .int) 3 := ⟨tw_638, tw_639, tw_1, tw_640, by decide +kernel⟩
set_option maxHeartbeats 4000000 in
set_option maxRecDepth 100000 in
theorem cX8_least_ok {D : va_G} {ad : Nat → Nat} {cy cz : ClassId} {l : Launch} {z : fS} {v1 : Int32} {v2 : Int32} {v3 : Int32} {r : Int32} {τ : fS} (h : fX8_least z v1 v2 v3 = some (r, τ)) : fMi D 76 ad (cfX ad cy cz) cy cz l yX8_least cX8_least 4 (some .int) rmX8_least [.ref (ad 0), .int v1, .int v2, .int v3] z r τ := by
  refine f_bodyi (by decide) (Nat.le_of_ble_eq_true rfl) (fun p e s m args below meth c Q hC hret ls hl hI => ?_)
  have hx := hC.1
  have hb := hC.2.1
  have hl : lv_has ls 4 [(0, .ref (ad 0)), (1, .int v1), (2, .int v2), (3, .int v3)] := hl
  unfold fX8_least at h
  refine lv_aload_n hx hb dX8_least_0 rfl (lv_at hl 0 rfl) ?_
  refine gX8_terms hC hI tw_281 dX8_least_1 ?_
  refine lv_iload_n hx hb dX8_least_4 rfl (lv_at hl 1 rfl) ?_
  replace h := bp_at h
  obtain ⟨r5, e5, h⟩ := h
  refine r_calli (rest := []) hC hI oX_1 (C := "EqualCourt$Terms") rfl ywX7_has tw_451 (cX7_has_ok  e5) ⟨Nat.le_of_ble_eq_true rfl, Nat.le_of_ble_eq_true rfl⟩ ⟨rfl, rfl⟩ rfl hl.1 rfl (Nat.le_of_ble_eq_true rfl) dX8_least_5 (fun H locs hI => ?_)
  refine lv_if_eq (tgt := 34) hx hb dX8_least_8 (by decide) (fun c8 => ?_) (fun c8 => ?_)
  · replace h := if_t h c8
    refine lv_aload_n hx hb dX8_least_34 rfl (lv_at hl 0 rfl) ?_
    refine lv_iconst (v := 1) hx hb dX8_least_35 (by decide) ?_
    replace h := bd_at h
    obtain ⟨r36, z36, e36, h⟩ := h
    refine r_calli (rest := []) hC hI oX_0 (C := "EqualCourt") rfl ywX8_refused tw_325 (cX8_refused_ok  e36) ⟨Nat.le_of_ble_eq_true rfl, Nat.le_of_ble_eq_true rfl⟩ ⟨rfl, rfl⟩ rfl hl.1 rfl (Nat.le_of_ble_eq_true rfl) dX8_least_36 (fun H locs hI => ?_)
    exact hret h dX8_least_39 hI
  · replace h := if_f h c8
    refine lv_aload_n hx hb dX8_least_11 rfl (lv_at hl 0 rfl) ?_
    refine gX8_terms hC hI tw_281 dX8_least_12 ?_
    refine lv_iload_n hx hb dX8_least_15 rfl (lv_at hl 2 rfl) ?_
    replace h := bp_at h
    obtain ⟨r16, e16, h⟩ := h
    refine r_calli (rest := []) hC hI oX_1 (C := "EqualCourt$Terms") rfl ywX7_has tw_451 (cX7_has_ok  e16) ⟨Nat.le_of_ble_eq_true rfl, Nat.le_of_ble_eq_true rfl⟩ ⟨rfl, rfl⟩ rfl hl.1 rfl (Nat.le_of_ble_eq_true rfl) dX8_least_16 (fun H locs hI => ?_)
    refine lv_if_eq (tgt := 34) hx hb dX8_least_19 (by decide) (fun c19 => ?_) (fun c19 => ?_)
    · replace h := if_t h c19
      refine lv_aload_n hx hb dX8_least_34 rfl (lv_at hl 0 rfl) ?_
      refine lv_iconst (v := 1) hx hb dX8_least_35 (by decide) ?_
      replace h := bd_at h
      obtain ⟨r36, z36, e36, h⟩ := h
      refine r_calli (rest := []) hC hI oX_0 (C := "EqualCourt") rfl ywX8_refused tw_325 (cX8_refused_ok  e36) ⟨Nat.le_of_ble_eq_true rfl, Nat.le_of_ble_eq_true rfl⟩ ⟨rfl, rfl⟩ rfl hl.1 rfl (Nat.le_of_ble_eq_true rfl) dX8_least_36 (fun H locs hI => ?_)
      exact hret h dX8_least_39 hI
    · replace h := if_f h c19
      refine lv_iload_n hx hb dX8_least_22 rfl (lv_at hl 3 rfl) ?_
      refine lv_iconst (v := 1) hx hb dX8_least_23 (by decide) ?_
      refine lv_icmp_lt (tgt := 34) hx hb dX8_least_24 (by decide) (fun c24 => ?_) (fun c24 => ?_)
      · replace h := if_t h c24
        refine lv_aload_n hx hb dX8_least_34 rfl (lv_at hl 0 rfl) ?_
        refine lv_iconst (v := 1) hx hb dX8_least_35 (by decide) ?_
        replace h := bd_at h
        obtain ⟨r36, z36, e36, h⟩ := h
        refine r_calli (rest := []) hC hI oX_0 (C := "EqualCourt") rfl ywX8_refused tw_325 (cX8_refused_ok  e36) ⟨Nat.le_of_ble_eq_true rfl, Nat.le_of_ble_eq_true rfl⟩ ⟨rfl, rfl⟩ rfl hl.1 rfl (Nat.le_of_ble_eq_true rfl) dX8_least_36 (fun H locs hI => ?_)
        exact hret h dX8_least_39 hI
      · replace h := if_f h c24
        refine lv_iload_n hx hb dX8_least_27 rfl (lv_at hl 3 rfl) ?_
        refine lv_sipush (v := 500) hx hb dX8_least_28 (by decide) ?_
        refine lv_icmp_le (tgt := 40) hx hb dX8_least_31 (by decide) (fun c31 => ?_) (fun c31 => ?_)
        · replace h := if_t h c31
          refine lv_aload_n hx hb dX8_least_40 rfl (lv_at hl 0 rfl) ?_
          refine gX8_court hC hI tw_283 dX8_least_41 ?_
          replace h := bp_at h
          obtain ⟨r44, e44, h⟩ := h
          refine r_callr (rest := []) hC hI oX_17 (C := "EqualCourt$Court") rfl ywX2_standing tw_505 (cX2_standing_ok  e44) ⟨Nat.le_of_ble_eq_true rfl, Nat.le_of_ble_eq_true rfl⟩ ⟨rfl, rfl⟩ rfl hl.1 rfl (Nat.le_of_ble_eq_true rfl) dX8_least_44 (fun H locs hI => ?_)
          refine lv_iload_n hx hb dX8_least_47 rfl (lv_at hl 1 rfl) ?_
          refine lv_iload_n hx hb dX8_least_48 rfl (lv_at hl 2 rfl) ?_
          replace h := bp_at h
          obtain ⟨r49, e49, h⟩ := h
          refine r_calli (rest := []) hC hI (oP (isP_pcell _)) (C := "EqualCourt$Partition") rfl ywX4_isOne tw_598 (cX4_isOne_ok (isP_pcell _) e49) ⟨Nat.le_of_ble_eq_true rfl, Nat.le_of_ble_eq_true rfl⟩ ⟨rfl, rfl⟩ rfl hl.1 rfl (Nat.le_of_ble_eq_true rfl) dX8_least_49 (fun H locs hI => ?_)
          refine lv_if_ne (tgt := 62) hx hb dX8_least_52 (by decide) (fun c52 => ?_) (fun c52 => ?_)
          · replace h := if_f h c52
            refine lv_aload_n hx hb dX8_least_62 rfl (lv_at hl 0 rfl) ?_
            refine gX8_court hC hI tw_283 dX8_least_63 ?_
            refine lv_iload_n hx hb dX8_least_66 rfl (lv_at hl 1 rfl) ?_
            refine lv_iload_n hx hb dX8_least_67 rfl (lv_at hl 2 rfl) ?_
            refine lv_iload_n hx hb dX8_least_68 rfl (lv_at hl 3 rfl) ?_
            refine lv_aload_n hx hb dX8_least_69 rfl (lv_at hl 0 rfl) ?_
            refine gX8_causes hC hI tw_287 dX8_least_70 ?_
            replace h := bd_at h
            obtain ⟨r73, z73, e73, h⟩ := h
            refine r_calli (rest := []) hC hI oX_17 (C := "EqualCourt$Court") rfl ywX2_findFewest tw_641 (cX2_findFewest_ok isK_71 e73) ⟨Nat.le_of_ble_eq_true rfl, Nat.le_of_ble_eq_true rfl⟩ ⟨rfl, rfl⟩ rfl hl.1 rfl (Nat.le_of_ble_eq_true rfl) dX8_least_73 (fun H locs hI => ?_)
            refine lv_if_ne (tgt := 86) hx hb dX8_least_76 (by decide) (fun c76 => ?_) (fun c76 => ?_)
            · replace h := if_f h c76
              refine lv_aload_n hx hb dX8_least_86 rfl (lv_at hl 0 rfl) ?_
              refine lv_aload_n hx hb dX8_least_87 rfl (lv_at hl 0 rfl) ?_
              refine gX8_causes hC hI tw_287 dX8_least_88 ?_
              replace h := bp_at h
              obtain ⟨r91, e91, h⟩ := h
              refine r_calli (rest := [.ref (ad 0)]) hC hI (oK isK_71) (C := "EqualCourt$Core") rfl ywX1_count tw_636 (cX1_count_ok isK_71 e91) ⟨Nat.le_of_ble_eq_true rfl, Nat.le_of_ble_eq_true rfl⟩ ⟨rfl, rfl⟩ rfl hl.1 rfl (Nat.le_of_ble_eq_true rfl) dX8_least_91 (fun H locs hI => ?_)
              replace h := bd_at h
              obtain ⟨r94, z94, e94, h⟩ := h
              refine r_calli (rest := []) hC hI oX_0 (C := "EqualCourt") rfl ywX8_done tw_439 (cX8_done_ok  e94) ⟨Nat.le_of_ble_eq_true rfl, Nat.le_of_ble_eq_true rfl⟩ ⟨rfl, rfl⟩ rfl hl.1 rfl (Nat.le_of_ble_eq_true rfl) dX8_least_94 (fun H locs hI => ?_)
              exact hret h dX8_least_97 hI
            · replace h := if_t h c76
              refine lv_aload_n hx hb dX8_least_79 rfl (lv_at hl 0 rfl) ?_
              refine lv_bipush (v := 7) hx hb dX8_least_80 (by decide) ?_
              replace h := bd_at h
              obtain ⟨r82, z82, e82, h⟩ := h
              refine r_calli (rest := []) hC hI oX_0 (C := "EqualCourt") rfl ywX8_refused tw_325 (cX8_refused_ok  e82) ⟨Nat.le_of_ble_eq_true rfl, Nat.le_of_ble_eq_true rfl⟩ ⟨rfl, rfl⟩ rfl hl.1 rfl (Nat.le_of_ble_eq_true rfl) dX8_least_82 (fun H locs hI => ?_)
              exact hret h dX8_least_85 hI
          · replace h := if_t h c52
            refine lv_aload_n hx hb dX8_least_55 rfl (lv_at hl 0 rfl) ?_
            refine lv_bipush (v := 6) hx hb dX8_least_56 (by decide) ?_
            replace h := bd_at h
            obtain ⟨r58, z58, e58, h⟩ := h
            refine r_calli (rest := []) hC hI oX_0 (C := "EqualCourt") rfl ywX8_refused tw_325 (cX8_refused_ok  e58) ⟨Nat.le_of_ble_eq_true rfl, Nat.le_of_ble_eq_true rfl⟩ ⟨rfl, rfl⟩ rfl hl.1 rfl (Nat.le_of_ble_eq_true rfl) dX8_least_58 (fun H locs hI => ?_)
            exact hret h dX8_least_61 hI
        · replace h := if_f h c31
          refine lv_aload_n hx hb dX8_least_34 rfl (lv_at hl 0 rfl) ?_
          refine lv_iconst (v := 1) hx hb dX8_least_35 (by decide) ?_
          replace h := bd_at h
          obtain ⟨r36, z36, e36, h⟩ := h
          refine r_calli (rest := []) hC hI oX_0 (C := "EqualCourt") rfl ywX8_refused tw_325 (cX8_refused_ok  e36) ⟨Nat.le_of_ble_eq_true rfl, Nat.le_of_ble_eq_true rfl⟩ ⟨rfl, rfl⟩ rfl hl.1 rfl (Nat.le_of_ble_eq_true rfl) dX8_least_36 (fun H locs hI => ?_)
          exact hret h dX8_least_39 hI
theorem dX8_because_0 : decode cX8_because 0 = .ok (.aload_n 0, 1) := by decide +kernel
theorem dX8_because_1 : decode cX8_because 1 = .ok (.getfield 55, 3) := by decide +kernel
theorem dX8_because_4 : decode cX8_because 4 = .ok (.iload_n 1, 1) := by decide +kernel
theorem dX8_because_5 : decode cX8_because 5 = .ok (.invokevirtual 169, 3) := by decide +kernel
theorem dX8_because_8 : decode cX8_because 8 = .ok (.ireturn, 1) := by decide +kernel
abbrev rmX8_because : Room := { frames := 1, cells := 0, slots := 0, locals := 21 }
theorem ywX8_because : fY yX8_because "EqualCourt" cX8_because 2 (some .int) 1 := ⟨tw_658, tw_659, tw_1, tw_660, by decide +kernel⟩
set_option maxHeartbeats 4000000 in
set_option maxRecDepth 100000 in
theorem cX8_because_ok {D : va_G} {ad : Nat → Nat} {cy cz : ClassId} {l : Launch} {z : fS} {v1 : Int32} {r : Int32} (h : fX8_because z v1 = some r) : fMi D 76 ad (cfX ad cy cz) cy cz l yX8_because cX8_because 2 (some .int) rmX8_because [.ref (ad 0), .int v1] z r z := by
  refine f_bodyi (by decide) (Nat.le_of_ble_eq_true rfl) (fun p e s m args below meth c Q hC hret ls hl hI => ?_)
  have hx := hC.1
  have hb := hC.2.1
  have hl : lv_has ls 2 [(0, .ref (ad 0)), (1, .int v1)] := hl
  unfold fX8_because at h
  refine lv_aload_n hx hb dX8_because_0 rfl (lv_at hl 0 rfl) ?_
  refine gX8_causes hC hI tw_287 dX8_because_1 ?_
  refine lv_iload_n hx hb dX8_because_4 rfl (lv_at hl 1 rfl) ?_
  replace h := bp_at h
  obtain ⟨r5, e5, h⟩ := h
  refine r_calli (rest := []) hC hI (oK isK_71) (C := "EqualCourt$Core") rfl ywX1_at tw_627 (cX1_at_ok isK_71 e5) ⟨Nat.le_of_ble_eq_true rfl, Nat.le_of_ble_eq_true rfl⟩ ⟨rfl, rfl⟩ rfl hl.1 rfl (Nat.le_of_ble_eq_true rfl) dX8_because_5 (fun H locs hI => ?_)
  exact hret (ret_p _ h) dX8_because_8 hI
theorem dX8_head_0 : decode cX8_head 0 = .ok (.aload_n 0, 1) := by decide +kernel
theorem dX8_head_1 : decode cX8_head 1 = .ok (.getfield 10, 3) := by decide +kernel
theorem dX8_head_4 : decode cX8_head 4 = .ok (.iload_n 1, 1) := by decide +kernel
theorem dX8_head_5 : decode cX8_head 5 = .ok (.invokevirtual 86, 3) := by decide +kernel
theorem dX8_head_8 : decode cX8_head 8 = .ok (.ifCond .eq 17, 3) := by decide +kernel
theorem dX8_head_11 : decode cX8_head 11 = .ok (.aload_n 0, 1) := by decide +kernel
theorem dX8_head_12 : decode cX8_head 12 = .ok (.getfield 28, 3) := by decide +kernel
theorem dX8_head_15 : decode cX8_head 15 = .ok (.invokevirtual 118, 3) := by decide +kernel
theorem dX8_head_18 : decode cX8_head 18 = .ok (.iload_n 1, 1) := by decide +kernel
theorem dX8_head_19 : decode cX8_head 19 = .ok (.invokevirtual 177, 3) := by decide +kernel
theorem dX8_head_22 : decode cX8_head 22 = .ok (.goto 4, 3) := by decide +kernel
theorem dX8_head_25 : decode cX8_head 25 = .ok (.iconst (-1), 1) := by decide +kernel
theorem dX8_head_26 : decode cX8_head 26 = .ok (.ireturn, 1) := by decide +kernel
abbrev rmX8_head : Room := { frames := 1, cells := 0, slots := 0, locals := 21 }
theorem ywX8_head : fY yX8_head "EqualCourt" cX8_head 2 (some .int) 1 := ⟨tw_662, tw_663, tw_1, tw_664, by decide +kernel⟩
set_option maxHeartbeats 4000000 in
set_option maxRecDepth 100000 in
theorem cX8_head_ok {D : va_G} {ad : Nat → Nat} {cy cz : ClassId} {l : Launch} {z : fS} {v1 : Int32} {r : Int32} (h : fX8_head z v1 = some r) : fMi D 76 ad (cfX ad cy cz) cy cz l yX8_head cX8_head 2 (some .int) rmX8_head [.ref (ad 0), .int v1] z r z := by
  refine f_bodyi (by decide) (Nat.le_of_ble_eq_true rfl) (fun p e s m args below meth c Q hC hret ls hl hI => ?_)
  have hx := hC.1
  have hb := hC.2.1
  have hl : lv_has ls 2 [(0, .ref (ad 0)), (1, .int v1)] := hl
  unfold fX8_head at h
  refine lv_aload_n hx hb dX8_head_0 rfl (lv_at hl 0 rfl) ?_
  refine gX8_terms hC hI tw_281 dX8_head_1 ?_
  refine lv_iload_n hx hb dX8_head_4 rfl (lv_at hl 1 rfl) ?_
  replace h := bp_at h
  obtain ⟨r5, e5, h⟩ := h
  refine r_calli (rest := []) hC hI oX_1 (C := "EqualCourt$Terms") rfl ywX7_has tw_451 (cX7_has_ok  e5) ⟨Nat.le_of_ble_eq_true rfl, Nat.le_of_ble_eq_true rfl⟩ ⟨rfl, rfl⟩ rfl hl.1 rfl (Nat.le_of_ble_eq_true rfl) dX8_head_5 (fun H locs hI => ?_)
  refine lv_if_eq (tgt := 25) hx hb dX8_head_8 (by decide) (fun c8 => ?_) (fun c8 => ?_)
  · replace h := if_t h c8
    refine lv_iconst (v := -1) hx hb dX8_head_25 (by decide) ?_
    exact hret (ret_p _ h) dX8_head_26 hI
  · replace h := if_f h c8
    refine lv_aload_n hx hb dX8_head_11 rfl (lv_at hl 0 rfl) ?_
    refine gX8_court hC hI tw_283 dX8_head_12 ?_
    replace h := bp_at h
    obtain ⟨r15, e15, h⟩ := h
    refine r_callr (rest := []) hC hI oX_17 (C := "EqualCourt$Court") rfl ywX2_standing tw_505 (cX2_standing_ok  e15) ⟨Nat.le_of_ble_eq_true rfl, Nat.le_of_ble_eq_true rfl⟩ ⟨rfl, rfl⟩ rfl hl.1 rfl (Nat.le_of_ble_eq_true rfl) dX8_head_15 (fun H locs hI => ?_)
    refine lv_iload_n hx hb dX8_head_18 rfl (lv_at hl 1 rfl) ?_
    replace h := bp_at h
    obtain ⟨r19, e19, h⟩ := h
    refine r_calli (rest := []) hC hI (oP (isP_pcell _)) (C := "EqualCourt$Partition") rfl ywX4_headOf tw_665 (cX4_headOf_ok (isP_pcell _) e19) ⟨Nat.le_of_ble_eq_true rfl, Nat.le_of_ble_eq_true rfl⟩ ⟨rfl, rfl⟩ rfl hl.1 rfl (Nat.le_of_ble_eq_true rfl) dX8_head_19 (fun H locs hI => ?_)
    refine lv_goto (tgt := 26) hx hb dX8_head_22 (by decide) ?_
    exact hret (ret_p _ h) dX8_head_26 hI
theorem dX8_member_0 : decode cX8_member 0 = .ok (.aload_n 0, 1) := by decide +kernel
theorem dX8_member_1 : decode cX8_member 1 = .ok (.getfield 10, 3) := by decide +kernel
theorem dX8_member_4 : decode cX8_member 4 = .ok (.iload_n 1, 1) := by decide +kernel
theorem dX8_member_5 : decode cX8_member 5 = .ok (.invokevirtual 86, 3) := by decide +kernel
theorem dX8_member_8 : decode cX8_member 8 = .ok (.ifCond .eq 7, 3) := by decide +kernel
theorem dX8_member_11 : decode cX8_member 11 = .ok (.iload_n 2, 1) := by decide +kernel
theorem dX8_member_12 : decode cX8_member 12 = .ok (.ifCond .ge 5, 3) := by decide +kernel
theorem dX8_member_15 : decode cX8_member 15 = .ok (.iconst (-1), 1) := by decide +kernel
theorem dX8_member_16 : decode cX8_member 16 = .ok (.ireturn, 1) := by decide +kernel
theorem dX8_member_17 : decode cX8_member 17 = .ok (.iconst 0, 1) := by decide +kernel
theorem dX8_member_18 : decode cX8_member 18 = .ok (.istore_n 3, 1) := by decide +kernel
theorem dX8_member_19 : decode cX8_member 19 = .ok (.iconst 0, 1) := by decide +kernel
theorem dX8_member_20 : decode cX8_member 20 = .ok (.istore 4, 2) := by decide +kernel
theorem dX8_member_22 : decode cX8_member 22 = .ok (.iload 4, 2) := by decide +kernel
theorem dX8_member_24 : decode cX8_member 24 = .ok (.aload_n 0, 1) := by decide +kernel
theorem dX8_member_25 : decode cX8_member 25 = .ok (.getfield 10, 3) := by decide +kernel
theorem dX8_member_28 : decode cX8_member 28 = .ok (.invokevirtual 106, 3) := by decide +kernel
theorem dX8_member_31 : decode cX8_member 31 = .ok (.if_icmp .ge 36, 3) := by decide +kernel
theorem dX8_member_34 : decode cX8_member 34 = .ok (.aload_n 0, 1) := by decide +kernel
theorem dX8_member_35 : decode cX8_member 35 = .ok (.getfield 28, 3) := by decide +kernel
theorem dX8_member_38 : decode cX8_member 38 = .ok (.invokevirtual 118, 3) := by decide +kernel
theorem dX8_member_41 : decode cX8_member 41 = .ok (.iload 4, 2) := by decide +kernel
theorem dX8_member_43 : decode cX8_member 43 = .ok (.iload_n 1, 1) := by decide +kernel
theorem dX8_member_44 : decode cX8_member 44 = .ok (.invokevirtual 146, 3) := by decide +kernel
theorem dX8_member_47 : decode cX8_member 47 = .ok (.ifCond .eq 14, 3) := by decide +kernel
theorem dX8_member_50 : decode cX8_member 50 = .ok (.iload_n 3, 1) := by decide +kernel
theorem dX8_member_51 : decode cX8_member 51 = .ok (.iload_n 2, 1) := by decide +kernel
theorem dX8_member_52 : decode cX8_member 52 = .ok (.if_icmp .ne 6, 3) := by decide +kernel
theorem dX8_member_55 : decode cX8_member 55 = .ok (.iload 4, 2) := by decide +kernel
theorem dX8_member_57 : decode cX8_member 57 = .ok (.ireturn, 1) := by decide +kernel
theorem dX8_member_58 : decode cX8_member 58 = .ok (.iinc 3 1, 3) := by decide +kernel
theorem dX8_member_61 : decode cX8_member 61 = .ok (.iinc 4 1, 3) := by decide +kernel
theorem dX8_member_64 : decode cX8_member 64 = .ok (.goto (-42), 3) := by decide +kernel
theorem dX8_member_67 : decode cX8_member 67 = .ok (.iconst (-1), 1) := by decide +kernel
theorem dX8_member_68 : decode cX8_member 68 = .ok (.ireturn, 1) := by decide +kernel
abbrev rmX8_member : Room := { frames := 1, cells := 0, slots := 0, locals := 22 }
theorem ywX8_member : fY yX8_member "EqualCourt" cX8_member 5 (some .int) 2 := ⟨tw_670, tw_671, tw_1, tw_672, by decide +kernel⟩
set_option maxHeartbeats 4000000 in
set_option maxRecDepth 100000 in
theorem cX8_member_ok {D : va_G} {ad : Nat → Nat} {cy cz : ClassId} {l : Launch} {z : fS} {v1 : Int32} {v2 : Int32} {r : Int32} (h : fX8_member z v1 v2 = some r) : fMi D 76 ad (cfX ad cy cz) cy cz l yX8_member cX8_member 5 (some .int) rmX8_member [.ref (ad 0), .int v1, .int v2] z r z := by
  refine f_bodyi (by decide) (Nat.le_of_ble_eq_true rfl) (fun p e s m args below meth c Q hC hret ls hl hI => ?_)
  have hx := hC.1
  have hb := hC.2.1
  have hl : lv_has ls 5 [(0, .ref (ad 0)), (1, .int v1), (2, .int v2)] := hl
  unfold fX8_member at h
  refine lv_aload_n hx hb dX8_member_0 rfl (lv_at hl 0 rfl) ?_
  refine gX8_terms hC hI tw_281 dX8_member_1 ?_
  refine lv_iload_n hx hb dX8_member_4 rfl (lv_at hl 1 rfl) ?_
  replace h := bp_at h
  obtain ⟨r5, e5, h⟩ := h
  refine r_calli (rest := []) hC hI oX_1 (C := "EqualCourt$Terms") rfl ywX7_has tw_451 (cX7_has_ok  e5) ⟨Nat.le_of_ble_eq_true rfl, Nat.le_of_ble_eq_true rfl⟩ ⟨rfl, rfl⟩ rfl hl.1 rfl (Nat.le_of_ble_eq_true rfl) dX8_member_5 (fun H locs hI => ?_)
  refine lv_if_eq (tgt := 15) hx hb dX8_member_8 (by decide) (fun c8 => ?_) (fun c8 => ?_)
  · replace h := if_t h c8
    refine lv_iconst (v := -1) hx hb dX8_member_15 (by decide) ?_
    exact hret (ret_p _ h) dX8_member_16 hI
  · replace h := if_f h c8
    refine lv_iload_n hx hb dX8_member_11 rfl (lv_at hl 2 rfl) ?_
    refine lv_if_ge (tgt := 17) hx hb dX8_member_12 (by decide) (fun c12 => ?_) (fun c12 => ?_)
    · replace h := if_t h c12
      refine lv_iconst (v := 0) hx hb dX8_member_17 (by decide) ?_
      refine lv_istore_n (lv' := [(3, .int (0 : Int32)), (0, .ref (ad 0)), (1, .int v1), (2, .int v2)]) hx hb dX8_member_18 rfl hl (by decide) rfl (fun ls hl => ?_)
      refine lv_iconst (v := 0) hx hb dX8_member_19 (by decide) ?_
      refine lv_istore (lv' := [(4, .int (0 : Int32)), (3, .int (0 : Int32)), (0, .ref (ad 0)), (1, .int v1), (2, .int v2)]) hx hb dX8_member_20 hl (by decide) rfl (fun ls hl => ?_)
      have w22 : ∀ (N22 : Nat) (v1 : Int32) (v2 : Int32) (v3 : Int32) (v4 : Int32) (H : Heap) (locs : List Loc) (ls : Array Slot), fI D 76 ad (cfX ad cy cz) z s H locs → lv_has ls 5 [(0, .ref (ad 0)), (1, .int v1), (2, .int v2), (3, .int v3), (4, .int v4)] → lX8_member_22   z v1 v2 N22 v3 v4 = some r → W p l e rmX8_member s m args below meth c H locs 0 0 Q (F0 m 22 ls []) := by
        intro N22
        induction N22 with
        | zero =>
          intro v1 v2 v3 v4 H locs ls hI hl h
          exact none_no h
        | succ N22 ih22 =>
          intro v1 v2 v3 v4 H locs ls hI hl h
          rw [lX8_member_22.eq_2] at h
          refine lv_iload hx hb dX8_member_22 (lv_at hl 4 rfl) ?_
          refine lv_aload_n hx hb dX8_member_24 rfl (lv_at hl 0 rfl) ?_
          refine gX8_terms hC hI tw_281 dX8_member_25 ?_
          replace h := bp_at h
          obtain ⟨r28, e28, h⟩ := h
          refine r_calli (rest := [.int v4]) hC hI oX_1 (C := "EqualCourt$Terms") rfl ywX7_count tw_333 (cX7_count_ok  e28) ⟨Nat.le_of_ble_eq_true rfl, Nat.le_of_ble_eq_true rfl⟩ ⟨rfl, rfl⟩ rfl hl.1 rfl (Nat.le_of_ble_eq_true rfl) dX8_member_28 (fun H locs hI => ?_)
          refine lv_icmp_ge (tgt := 67) hx hb dX8_member_31 (by decide) (fun c31 => ?_) (fun c31 => ?_)
          · replace h := if_t h c31
            refine lv_iconst (v := -1) hx hb dX8_member_67 (by decide) ?_
            exact hret (ret_p _ h) dX8_member_68 hI
          · replace h := if_f h c31
            refine lv_aload_n hx hb dX8_member_34 rfl (lv_at hl 0 rfl) ?_
            refine gX8_court hC hI tw_283 dX8_member_35 ?_
            replace h := bp_at h
            obtain ⟨r38, e38, h⟩ := h
            refine r_callr (rest := []) hC hI oX_17 (C := "EqualCourt$Court") rfl ywX2_standing tw_505 (cX2_standing_ok  e38) ⟨Nat.le_of_ble_eq_true rfl, Nat.le_of_ble_eq_true rfl⟩ ⟨rfl, rfl⟩ rfl hl.1 rfl (Nat.le_of_ble_eq_true rfl) dX8_member_38 (fun H locs hI => ?_)
            refine lv_iload hx hb dX8_member_41 (lv_at hl 4 rfl) ?_
            refine lv_iload_n hx hb dX8_member_43 rfl (lv_at hl 1 rfl) ?_
            replace h := bp_at h
            obtain ⟨r44, e44, h⟩ := h
            refine r_calli (rest := []) hC hI (oP (isP_pcell _)) (C := "EqualCourt$Partition") rfl ywX4_isOne tw_598 (cX4_isOne_ok (isP_pcell _) e44) ⟨Nat.le_of_ble_eq_true rfl, Nat.le_of_ble_eq_true rfl⟩ ⟨rfl, rfl⟩ rfl hl.1 rfl (Nat.le_of_ble_eq_true rfl) dX8_member_44 (fun H locs hI => ?_)
            refine lv_if_eq (tgt := 61) hx hb dX8_member_47 (by decide) (fun c47 => ?_) (fun c47 => ?_)
            · replace h := if_t h c47
              obtain ⟨x61, e61⟩ : ∃ y : Int32, y = (v4 + (1 : Int32)) := ⟨_, rfl⟩
              replace h := bnd_at h e61
              refine lv_iinc (v := x61) (lv' := [(4, .int x61), (0, .ref (ad 0)), (1, .int v1), (2, .int v2), (3, .int v3)]) hx hb dX8_member_61 hl (k := 4) rfl (by rw [e61]; rfl) (by decide) rfl (fun ls hl => ?_)
              refine lv_goto (tgt := 22) hx hb dX8_member_64 (by decide) ?_
              exact ih22 v1 v2 v3 x61 _ _ _ hI (lv_sub hl [1, 2, 3, 4, 0] rfl) h
            · replace h := if_f h c47
              refine lv_iload_n hx hb dX8_member_50 rfl (lv_at hl 3 rfl) ?_
              refine lv_iload_n hx hb dX8_member_51 rfl (lv_at hl 2 rfl) ?_
              refine lv_icmp_ne (tgt := 58) hx hb dX8_member_52 (by decide) (fun c52 => ?_) (fun c52 => ?_)
              · replace h := if_f h c52
                obtain ⟨x58, e58⟩ : ∃ y : Int32, y = (v3 + (1 : Int32)) := ⟨_, rfl⟩
                replace h := bnd_at h e58
                refine lv_iinc (v := x58) (lv' := [(3, .int x58), (0, .ref (ad 0)), (1, .int v1), (2, .int v2), (4, .int v4)]) hx hb dX8_member_58 hl (k := 3) rfl (by rw [e58]; rfl) (by decide) rfl (fun ls hl => ?_)
                obtain ⟨x61, e61⟩ : ∃ y : Int32, y = (v4 + (1 : Int32)) := ⟨_, rfl⟩
                replace h := bnd_at h e61
                refine lv_iinc (v := x61) (lv' := [(4, .int x61), (3, .int x58), (0, .ref (ad 0)), (1, .int v1), (2, .int v2)]) hx hb dX8_member_61 hl (k := 4) rfl (by rw [e61]; rfl) (by decide) rfl (fun ls hl => ?_)
                refine lv_goto (tgt := 22) hx hb dX8_member_64 (by decide) ?_
                exact ih22 v1 v2 x58 x61 _ _ _ hI (lv_sub hl [2, 3, 4, 1, 0] rfl) h
              · replace h := if_t h c52
                refine lv_iload hx hb dX8_member_55 (lv_at hl 4 rfl) ?_
                exact hret (ret_p _ h) dX8_member_57 hI
      exact w22 FU v1 v2 (0 : Int32) (0 : Int32) _ _ _ hI (lv_sub hl [2, 3, 4, 1, 0] rfl) h
    · replace h := if_f h c12
      refine lv_iconst (v := -1) hx hb dX8_member_15 (by decide) ?_
      exact hret (ret_p _ h) dX8_member_16 hI
theorem dX8_uses_0 : decode cX8_uses 0 = .ok (.aload_n 0, 1) := by decide +kernel
theorem dX8_uses_1 : decode cX8_uses 1 = .ok (.getfield 10, 3) := by decide +kernel
theorem dX8_uses_4 : decode cX8_uses 4 = .ok (.iload_n 1, 1) := by decide +kernel
theorem dX8_uses_5 : decode cX8_uses 5 = .ok (.invokevirtual 86, 3) := by decide +kernel
theorem dX8_uses_8 : decode cX8_uses 8 = .ok (.ifCond .eq 7, 3) := by decide +kernel
theorem dX8_uses_11 : decode cX8_uses 11 = .ok (.iload_n 2, 1) := by decide +kernel
theorem dX8_uses_12 : decode cX8_uses 12 = .ok (.ifCond .ge 5, 3) := by decide +kernel
theorem dX8_uses_15 : decode cX8_uses 15 = .ok (.iconst (-1), 1) := by decide +kernel
theorem dX8_uses_16 : decode cX8_uses 16 = .ok (.ireturn, 1) := by decide +kernel
theorem dX8_uses_17 : decode cX8_uses 17 = .ok (.iconst 0, 1) := by decide +kernel
theorem dX8_uses_18 : decode cX8_uses 18 = .ok (.istore_n 3, 1) := by decide +kernel
theorem dX8_uses_19 : decode cX8_uses 19 = .ok (.iconst 0, 1) := by decide +kernel
theorem dX8_uses_20 : decode cX8_uses 20 = .ok (.istore 4, 2) := by decide +kernel
theorem dX8_uses_22 : decode cX8_uses 22 = .ok (.iload 4, 2) := by decide +kernel
theorem dX8_uses_24 : decode cX8_uses 24 = .ok (.aload_n 0, 1) := by decide +kernel
theorem dX8_uses_25 : decode cX8_uses 25 = .ok (.getfield 10, 3) := by decide +kernel
theorem dX8_uses_28 : decode cX8_uses 28 = .ok (.invokevirtual 106, 3) := by decide +kernel
theorem dX8_uses_31 : decode cX8_uses 31 = .ok (.if_icmp .ge 36, 3) := by decide +kernel
theorem dX8_uses_34 : decode cX8_uses 34 = .ok (.aload_n 0, 1) := by decide +kernel
theorem dX8_uses_35 : decode cX8_uses 35 = .ok (.getfield 28, 3) := by decide +kernel
theorem dX8_uses_38 : decode cX8_uses 38 = .ok (.invokevirtual 118, 3) := by decide +kernel
theorem dX8_uses_41 : decode cX8_uses 41 = .ok (.iload 4, 2) := by decide +kernel
theorem dX8_uses_43 : decode cX8_uses 43 = .ok (.iload_n 1, 1) := by decide +kernel
theorem dX8_uses_44 : decode cX8_uses 44 = .ok (.invokevirtual 180, 3) := by decide +kernel
theorem dX8_uses_47 : decode cX8_uses 47 = .ok (.ifCond .eq 14, 3) := by decide +kernel
theorem dX8_uses_50 : decode cX8_uses 50 = .ok (.iload_n 3, 1) := by decide +kernel
theorem dX8_uses_51 : decode cX8_uses 51 = .ok (.iload_n 2, 1) := by decide +kernel
theorem dX8_uses_52 : decode cX8_uses 52 = .ok (.if_icmp .ne 6, 3) := by decide +kernel
theorem dX8_uses_55 : decode cX8_uses 55 = .ok (.iload 4, 2) := by decide +kernel
theorem dX8_uses_57 : decode cX8_uses 57 = .ok (.ireturn, 1) := by decide +kernel
theorem dX8_uses_58 : decode cX8_uses 58 = .ok (.iinc 3 1, 3) := by decide +kernel
theorem dX8_uses_61 : decode cX8_uses 61 = .ok (.iinc 4 1, 3) := by decide +kernel
theorem dX8_uses_64 : decode cX8_uses 64 = .ok (.goto (-42), 3) := by decide +kernel
theorem dX8_uses_67 : decode cX8_uses 67 = .ok (.iconst (-1), 1) := by decide +kernel
theorem dX8_uses_68 : decode cX8_uses 68 = .ok (.ireturn, 1) := by decide +kernel
abbrev rmX8_uses : Room := { frames := 2, cells := 0, slots := 0, locals := 45 }
theorem ywX8_uses : fY yX8_uses "EqualCourt" cX8_uses 5 (some .int) 2 := ⟨tw_674, tw_675, tw_1, tw_676, by decide +kernel⟩
set_option maxHeartbeats 4000000 in
set_option maxRecDepth 100000 in
theorem cX8_uses_ok {D : va_G} {ad : Nat → Nat} {cy cz : ClassId} {l : Launch} {z : fS} {v1 : Int32} {v2 : Int32} {r : Int32} (h : fX8_uses z v1 v2 = some r) : fMi D 76 ad (cfX ad cy cz) cy cz l yX8_uses cX8_uses 5 (some .int) rmX8_uses [.ref (ad 0), .int v1, .int v2] z r z := by
  refine f_bodyi (by decide) (Nat.le_of_ble_eq_true rfl) (fun p e s m args below meth c Q hC hret ls hl hI => ?_)
  have hx := hC.1
  have hb := hC.2.1
  have hl : lv_has ls 5 [(0, .ref (ad 0)), (1, .int v1), (2, .int v2)] := hl
  unfold fX8_uses at h
  refine lv_aload_n hx hb dX8_uses_0 rfl (lv_at hl 0 rfl) ?_
  refine gX8_terms hC hI tw_281 dX8_uses_1 ?_
  refine lv_iload_n hx hb dX8_uses_4 rfl (lv_at hl 1 rfl) ?_
  replace h := bp_at h
  obtain ⟨r5, e5, h⟩ := h
  refine r_calli (rest := []) hC hI oX_1 (C := "EqualCourt$Terms") rfl ywX7_has tw_451 (cX7_has_ok  e5) ⟨Nat.le_of_ble_eq_true rfl, Nat.le_of_ble_eq_true rfl⟩ ⟨rfl, rfl⟩ rfl hl.1 rfl (Nat.le_of_ble_eq_true rfl) dX8_uses_5 (fun H locs hI => ?_)
  refine lv_if_eq (tgt := 15) hx hb dX8_uses_8 (by decide) (fun c8 => ?_) (fun c8 => ?_)
  · replace h := if_t h c8
    refine lv_iconst (v := -1) hx hb dX8_uses_15 (by decide) ?_
    exact hret (ret_p _ h) dX8_uses_16 hI
  · replace h := if_f h c8
    refine lv_iload_n hx hb dX8_uses_11 rfl (lv_at hl 2 rfl) ?_
    refine lv_if_ge (tgt := 17) hx hb dX8_uses_12 (by decide) (fun c12 => ?_) (fun c12 => ?_)
    · replace h := if_t h c12
      refine lv_iconst (v := 0) hx hb dX8_uses_17 (by decide) ?_
      refine lv_istore_n (lv' := [(3, .int (0 : Int32)), (0, .ref (ad 0)), (1, .int v1), (2, .int v2)]) hx hb dX8_uses_18 rfl hl (by decide) rfl (fun ls hl => ?_)
      refine lv_iconst (v := 0) hx hb dX8_uses_19 (by decide) ?_
      refine lv_istore (lv' := [(4, .int (0 : Int32)), (3, .int (0 : Int32)), (0, .ref (ad 0)), (1, .int v1), (2, .int v2)]) hx hb dX8_uses_20 hl (by decide) rfl (fun ls hl => ?_)
      have w22 : ∀ (N22 : Nat) (v1 : Int32) (v2 : Int32) (v3 : Int32) (v4 : Int32) (H : Heap) (locs : List Loc) (ls : Array Slot), fI D 76 ad (cfX ad cy cz) z s H locs → lv_has ls 5 [(0, .ref (ad 0)), (1, .int v1), (2, .int v2), (3, .int v3), (4, .int v4)] → lX8_uses_22   z v1 v2 N22 v3 v4 = some r → W p l e rmX8_uses s m args below meth c H locs 0 0 Q (F0 m 22 ls []) := by
        intro N22
        induction N22 with
        | zero =>
          intro v1 v2 v3 v4 H locs ls hI hl h
          exact none_no h
        | succ N22 ih22 =>
          intro v1 v2 v3 v4 H locs ls hI hl h
          rw [lX8_uses_22.eq_2] at h
          refine lv_iload hx hb dX8_uses_22 (lv_at hl 4 rfl) ?_
          refine lv_aload_n hx hb dX8_uses_24 rfl (lv_at hl 0 rfl) ?_
          refine gX8_terms hC hI tw_281 dX8_uses_25 ?_
          replace h := bp_at h
          obtain ⟨r28, e28, h⟩ := h
          refine r_calli (rest := [.int v4]) hC hI oX_1 (C := "EqualCourt$Terms") rfl ywX7_count tw_333 (cX7_count_ok  e28) ⟨Nat.le_of_ble_eq_true rfl, Nat.le_of_ble_eq_true rfl⟩ ⟨rfl, rfl⟩ rfl hl.1 rfl (Nat.le_of_ble_eq_true rfl) dX8_uses_28 (fun H locs hI => ?_)
          refine lv_icmp_ge (tgt := 67) hx hb dX8_uses_31 (by decide) (fun c31 => ?_) (fun c31 => ?_)
          · replace h := if_t h c31
            refine lv_iconst (v := -1) hx hb dX8_uses_67 (by decide) ?_
            exact hret (ret_p _ h) dX8_uses_68 hI
          · replace h := if_f h c31
            refine lv_aload_n hx hb dX8_uses_34 rfl (lv_at hl 0 rfl) ?_
            refine gX8_court hC hI tw_283 dX8_uses_35 ?_
            replace h := bp_at h
            obtain ⟨r38, e38, h⟩ := h
            refine r_callr (rest := []) hC hI oX_17 (C := "EqualCourt$Court") rfl ywX2_standing tw_505 (cX2_standing_ok  e38) ⟨Nat.le_of_ble_eq_true rfl, Nat.le_of_ble_eq_true rfl⟩ ⟨rfl, rfl⟩ rfl hl.1 rfl (Nat.le_of_ble_eq_true rfl) dX8_uses_38 (fun H locs hI => ?_)
            refine lv_iload hx hb dX8_uses_41 (lv_at hl 4 rfl) ?_
            refine lv_iload_n hx hb dX8_uses_43 rfl (lv_at hl 1 rfl) ?_
            replace h := bp_at h
            obtain ⟨r44, e44, h⟩ := h
            refine r_calli (rest := []) hC hI (oP (isP_pcell _)) (C := "EqualCourt$Partition") rfl ywX4_hasPartLike tw_677 (cX4_hasPartLike_ok (isP_pcell _) e44) ⟨Nat.le_of_ble_eq_true rfl, Nat.le_of_ble_eq_true rfl⟩ ⟨rfl, rfl⟩ rfl hl.1 rfl (Nat.le_of_ble_eq_true rfl) dX8_uses_44 (fun H locs hI => ?_)
            refine lv_if_eq (tgt := 61) hx hb dX8_uses_47 (by decide) (fun c47 => ?_) (fun c47 => ?_)
            · replace h := if_t h c47
              obtain ⟨x61, e61⟩ : ∃ y : Int32, y = (v4 + (1 : Int32)) := ⟨_, rfl⟩
              replace h := bnd_at h e61
              refine lv_iinc (v := x61) (lv' := [(4, .int x61), (0, .ref (ad 0)), (1, .int v1), (2, .int v2), (3, .int v3)]) hx hb dX8_uses_61 hl (k := 4) rfl (by rw [e61]; rfl) (by decide) rfl (fun ls hl => ?_)
              refine lv_goto (tgt := 22) hx hb dX8_uses_64 (by decide) ?_
              exact ih22 v1 v2 v3 x61 _ _ _ hI (lv_sub hl [1, 2, 3, 4, 0] rfl) h
            · replace h := if_f h c47
              refine lv_iload_n hx hb dX8_uses_50 rfl (lv_at hl 3 rfl) ?_
              refine lv_iload_n hx hb dX8_uses_51 rfl (lv_at hl 2 rfl) ?_
              refine lv_icmp_ne (tgt := 58) hx hb dX8_uses_52 (by decide) (fun c52 => ?_) (fun c52 => ?_)
              · replace h := if_f h c52
                obtain ⟨x58, e58⟩ : ∃ y : Int32, y = (v3 + (1 : Int32)) := ⟨_, rfl⟩
                replace h := bnd_at h e58
                refine lv_iinc (v := x58) (lv' := [(3, .int x58), (0, .ref (ad 0)), (1, .int v1), (2, .int v2), (4, .int v4)]) hx hb dX8_uses_58 hl (k := 3) rfl (by rw [e58]; rfl) (by decide) rfl (fun ls hl => ?_)
                obtain ⟨x61, e61⟩ : ∃ y : Int32, y = (v4 + (1 : Int32)) := ⟨_, rfl⟩
                replace h := bnd_at h e61
                refine lv_iinc (v := x61) (lv' := [(4, .int x61), (3, .int x58), (0, .ref (ad 0)), (1, .int v1), (2, .int v2)]) hx hb dX8_uses_61 hl (k := 4) rfl (by rw [e61]; rfl) (by decide) rfl (fun ls hl => ?_)
                refine lv_goto (tgt := 22) hx hb dX8_uses_64 (by decide) ?_
                exact ih22 v1 v2 x58 x61 _ _ _ hI (lv_sub hl [2, 3, 4, 1, 0] rfl) h
              · replace h := if_t h c52
                refine lv_iload hx hb dX8_uses_55 (lv_at hl 4 rfl) ?_
                exact hret (ret_p _ h) dX8_uses_57 hI
      exact w22 FU v1 v2 (0 : Int32) (0 : Int32) _ _ _ hI (lv_sub hl [2, 3, 4, 1, 0] rfl) h
    · replace h := if_f h c12
      refine lv_iconst (v := -1) hx hb dX8_uses_15 (by decide) ?_
      exact hret (ret_p _ h) dX8_uses_16 hI
theorem dX8_freeInt_0 : decode cX8_freeInt 0 = .ok (.iload_n 1, 1) := by decide +kernel
theorem dX8_freeInt_1 : decode cX8_freeInt 1 = .ok (.istore_n 2, 1) := by decide +kernel
theorem dX8_freeInt_2 : decode cX8_freeInt 2 = .ok (.iconst 0, 1) := by decide +kernel
theorem dX8_freeInt_3 : decode cX8_freeInt 3 = .ok (.istore_n 3, 1) := by decide +kernel
theorem dX8_freeInt_4 : decode cX8_freeInt 4 = .ok (.iload_n 3, 1) := by decide +kernel
theorem dX8_freeInt_5 : decode cX8_freeInt 5 = .ok (.sipush 240, 3) := by decide +kernel
theorem dX8_freeInt_8 : decode cX8_freeInt 8 = .ok (.if_icmp .gt 34, 3) := by decide +kernel
theorem dX8_freeInt_11 : decode cX8_freeInt 11 = .ok (.aload_n 0, 1) := by decide +kernel
theorem dX8_freeInt_12 : decode cX8_freeInt 12 = .ok (.getfield 10, 3) := by decide +kernel
theorem dX8_freeInt_15 : decode cX8_freeInt 15 = .ok (.iconst 1, 1) := by decide +kernel
theorem dX8_freeInt_16 : decode cX8_freeInt 16 = .ok (.iload_n 3, 1) := by decide +kernel
theorem dX8_freeInt_17 : decode cX8_freeInt 17 = .ok (.iconst (-1), 1) := by decide +kernel
theorem dX8_freeInt_18 : decode cX8_freeInt 18 = .ok (.iconst (-1), 1) := by decide +kernel
theorem dX8_freeInt_19 : decode cX8_freeInt 19 = .ok (.iconst (-1), 1) := by decide +kernel
theorem dX8_freeInt_20 : decode cX8_freeInt 20 = .ok (.invokevirtual 234, 3) := by decide +kernel
theorem dX8_freeInt_23 : decode cX8_freeInt 23 = .ok (.iconst (-1), 1) := by decide +kernel
theorem dX8_freeInt_24 : decode cX8_freeInt 24 = .ok (.if_icmp .ne 12, 3) := by decide +kernel
theorem dX8_freeInt_27 : decode cX8_freeInt 27 = .ok (.iload_n 2, 1) := by decide +kernel
theorem dX8_freeInt_28 : decode cX8_freeInt 28 = .ok (.ifCond .ne 5, 3) := by decide +kernel
theorem dX8_freeInt_31 : decode cX8_freeInt 31 = .ok (.iload_n 3, 1) := by decide +kernel
theorem dX8_freeInt_32 : decode cX8_freeInt 32 = .ok (.ireturn, 1) := by decide +kernel
theorem dX8_freeInt_33 : decode cX8_freeInt 33 = .ok (.iinc 2 (-1), 3) := by decide +kernel
theorem dX8_freeInt_36 : decode cX8_freeInt 36 = .ok (.iinc 3 1, 3) := by decide +kernel
theorem dX8_freeInt_39 : decode cX8_freeInt 39 = .ok (.goto (-35), 3) := by decide +kernel
theorem dX8_freeInt_42 : decode cX8_freeInt 42 = .ok (.sipush 240, 3) := by decide +kernel
theorem dX8_freeInt_45 : decode cX8_freeInt 45 = .ok (.ireturn, 1) := by decide +kernel
abbrev rmX8_freeInt : Room := { frames := 2, cells := 0, slots := 0, locals := 53 }
theorem ywX8_freeInt : fY yX8_freeInt "EqualCourt" cX8_freeInt 4 (some .int) 1 := ⟨tw_700, tp_14, tw_1, tw_701, by decide +kernel⟩
set_option maxHeartbeats 4000000 in
set_option maxRecDepth 100000 in
theorem cX8_freeInt_ok {D : va_G} {ad : Nat → Nat} {cy cz : ClassId} {l : Launch} {z : fS} {v1 : Int32} {r : Int32} (h : fX8_freeInt z v1 = some r) : fMi D 76 ad (cfX ad cy cz) cy cz l yX8_freeInt cX8_freeInt 4 (some .int) rmX8_freeInt [.ref (ad 0), .int v1] z r z := by
  refine f_bodyi (by decide) (Nat.le_of_ble_eq_true rfl) (fun p e s m args below meth c Q hC hret ls hl hI => ?_)
  have hx := hC.1
  have hb := hC.2.1
  have hl : lv_has ls 4 [(0, .ref (ad 0)), (1, .int v1)] := hl
  unfold fX8_freeInt at h
  refine lv_iload_n hx hb dX8_freeInt_0 rfl (lv_at hl 1 rfl) ?_
  refine lv_istore_n (lv' := [(2, .int v1), (0, .ref (ad 0)), (1, .int v1)]) hx hb dX8_freeInt_1 rfl hl (by decide) rfl (fun ls hl => ?_)
  refine lv_iconst (v := 0) hx hb dX8_freeInt_2 (by decide) ?_
  refine lv_istore_n (lv' := [(3, .int (0 : Int32)), (2, .int v1), (0, .ref (ad 0)), (1, .int v1)]) hx hb dX8_freeInt_3 rfl hl (by decide) rfl (fun ls hl => ?_)
  have w4 : ∀ (N4 : Nat) (v2 : Int32) (v3 : Int32) (H : Heap) (locs : List Loc) (ls : Array Slot), fI D 76 ad (cfX ad cy cz) z s H locs → lv_has ls 4 [(0, .ref (ad 0)), (2, .int v2), (3, .int v3)] → lX8_freeInt_4   z N4 v2 v3 = some r → W p l e rmX8_freeInt s m args below meth c H locs 0 0 Q (F0 m 4 ls []) := by
    intro N4
    induction N4 with
    | zero =>
      intro v2 v3 H locs ls hI hl h
      exact none_no h
    | succ N4 ih4 =>
      intro v2 v3 H locs ls hI hl h
      rw [lX8_freeInt_4.eq_2] at h
      refine lv_iload_n hx hb dX8_freeInt_4 rfl (lv_at hl 2 rfl) ?_
      refine lv_sipush (v := 240) hx hb dX8_freeInt_5 (by decide) ?_
      refine lv_icmp_gt (tgt := 42) hx hb dX8_freeInt_8 (by decide) (fun c8 => ?_) (fun c8 => ?_)
      · replace h := if_t h c8
        refine lv_sipush (v := 240) hx hb dX8_freeInt_42 (by decide) ?_
        exact hret (ret_p _ h) dX8_freeInt_45 hI
      · replace h := if_f h c8
        refine lv_aload_n hx hb dX8_freeInt_11 rfl (lv_at hl 0 rfl) ?_
        refine gX8_terms hC hI tw_281 dX8_freeInt_12 ?_
        refine lv_iconst (v := 1) hx hb dX8_freeInt_15 (by decide) ?_
        refine lv_iload_n hx hb dX8_freeInt_16 rfl (lv_at hl 2 rfl) ?_
        refine lv_iconst (v := -1) hx hb dX8_freeInt_17 (by decide) ?_
        refine lv_iconst (v := -1) hx hb dX8_freeInt_18 (by decide) ?_
        refine lv_iconst (v := -1) hx hb dX8_freeInt_19 (by decide) ?_
        replace h := bp_at h
        obtain ⟨r20, e20, h⟩ := h
        refine r_calli (rest := []) hC hI oX_1 (C := "EqualCourt$Terms") rfl ywX7_find tw_702 (cX7_find_ok  e20) ⟨Nat.le_of_ble_eq_true rfl, Nat.le_of_ble_eq_true rfl⟩ ⟨rfl, rfl⟩ rfl hl.1 rfl (Nat.le_of_ble_eq_true rfl) dX8_freeInt_20 (fun H locs hI => ?_)
        refine lv_iconst (v := -1) hx hb dX8_freeInt_23 (by decide) ?_
        refine lv_icmp_ne (tgt := 36) hx hb dX8_freeInt_24 (by decide) (fun c24 => ?_) (fun c24 => ?_)
        · replace h := if_f h c24
          obtain ⟨x36, e36⟩ : ∃ y : Int32, y = (v3 + (1 : Int32)) := ⟨_, rfl⟩
          replace h := bnd_at h e36
          refine lv_iinc (v := x36) (lv' := [(3, .int x36), (0, .ref (ad 0)), (2, .int v2)]) hx hb dX8_freeInt_36 hl (k := 2) rfl (by rw [e36]; rfl) (by decide) rfl (fun ls hl => ?_)
          refine lv_goto (tgt := 4) hx hb dX8_freeInt_39 (by decide) ?_
          exact ih4  v2 x36 _ _ _ hI (lv_sub hl [1, 2, 0] rfl) h
        · replace h := if_t h c24
          refine lv_iload_n hx hb dX8_freeInt_27 rfl (lv_at hl 1 rfl) ?_
          refine lv_if_ne (tgt := 33) hx hb dX8_freeInt_28 (by decide) (fun c28 => ?_) (fun c28 => ?_)
          · replace h := if_f h c28
            obtain ⟨x33, e33⟩ : ∃ y : Int32, y = (v2 + (-1 : Int32)) := ⟨_, rfl⟩
            replace h := bnd_at h e33
            refine lv_iinc (v := x33) (lv' := [(2, .int x33), (0, .ref (ad 0)), (3, .int v3)]) hx hb dX8_freeInt_33 hl (k := 1) rfl (by rw [e33]; rfl) (by decide) rfl (fun ls hl => ?_)
            obtain ⟨x36, e36⟩ : ∃ y : Int32, y = (v3 + (1 : Int32)) := ⟨_, rfl⟩
            replace h := bnd_at h e36
            refine lv_iinc (v := x36) (lv' := [(3, .int x36), (2, .int x33), (0, .ref (ad 0))]) hx hb dX8_freeInt_36 hl (k := 2) rfl (by rw [e36]; rfl) (by decide) rfl (fun ls hl => ?_)
            refine lv_goto (tgt := 4) hx hb dX8_freeInt_39 (by decide) ?_
            exact ih4  x33 x36 _ _ _ hI (lv_sub hl [2, 1, 0] rfl) h
          · replace h := if_t h c28
            refine lv_iload_n hx hb dX8_freeInt_31 rfl (lv_at hl 2 rfl) ?_
            exact hret (ret_p _ h) dX8_freeInt_32 hI
  exact w4 FU  v1 (0 : Int32) _ _ _ hI (lv_sub hl [2, 1, 0] rfl) h
theorem dX8_world_0 : decode cX8_world 0 = .ok (.aload_n 0, 1) := by decide +kernel
theorem dX8_world_1 : decode cX8_world 1 = .ok (.getfield 10, 3) := by decide +kernel
theorem dX8_world_4 : decode cX8_world 4 = .ok (.iload_n 1, 1) := by decide +kernel
theorem dX8_world_5 : decode cX8_world 5 = .ok (.invokevirtual 86, 3) := by decide +kernel
theorem dX8_world_8 : decode cX8_world 8 = .ok (.ifCond .ne 7, 3) := by decide +kernel
theorem dX8_world_11 : decode cX8_world 11 = .ok (.ldc2_w 183, 3) := by decide +kernel
theorem dX8_world_14 : decode cX8_world 14 = .ok (.lreturn, 1) := by decide +kernel
theorem dX8_world_15 : decode cX8_world 15 = .ok (.aload_n 0, 1) := by decide +kernel
theorem dX8_world_16 : decode cX8_world 16 = .ok (.getfield 28, 3) := by decide +kernel
theorem dX8_world_19 : decode cX8_world 19 = .ok (.invokevirtual 118, 3) := by decide +kernel
theorem dX8_world_22 : decode cX8_world 22 = .ok (.astore_n 2, 1) := by decide +kernel
theorem dX8_world_23 : decode cX8_world 23 = .ok (.aload_n 2, 1) := by decide +kernel
theorem dX8_world_24 : decode cX8_world 24 = .ok (.iload_n 1, 1) := by decide +kernel
theorem dX8_world_25 : decode cX8_world 25 = .ok (.invokevirtual 185, 3) := by decide +kernel
theorem dX8_world_28 : decode cX8_world 28 = .ok (.istore_n 3, 1) := by decide +kernel
theorem dX8_world_29 : decode cX8_world 29 = .ok (.iload_n 3, 1) := by decide +kernel
theorem dX8_world_30 : decode cX8_world 30 = .ok (.iconst (-1), 1) := by decide +kernel
theorem dX8_world_31 : decode cX8_world 31 = .ok (.if_icmp .eq 13, 3) := by decide +kernel
theorem dX8_world_34 : decode cX8_world 34 = .ok (.aload_n 0, 1) := by decide +kernel
theorem dX8_world_35 : decode cX8_world 35 = .ok (.getfield 10, 3) := by decide +kernel
theorem dX8_world_38 : decode cX8_world 38 = .ok (.iload_n 3, 1) := by decide +kernel
theorem dX8_world_39 : decode cX8_world 39 = .ok (.invokevirtual 103, 3) := by decide +kernel
theorem dX8_world_42 : decode cX8_world 42 = .ok (.i2l, 1) := by decide +kernel
theorem dX8_world_43 : decode cX8_world 43 = .ok (.lreturn, 1) := by decide +kernel
theorem dX8_world_44 : decode cX8_world 44 = .ok (.aload_n 0, 1) := by decide +kernel
theorem dX8_world_45 : decode cX8_world 45 = .ok (.aload_n 2, 1) := by decide +kernel
theorem dX8_world_46 : decode cX8_world 46 = .ok (.aload_n 2, 1) := by decide +kernel
theorem dX8_world_47 : decode cX8_world 47 = .ok (.iload_n 1, 1) := by decide +kernel
theorem dX8_world_48 : decode cX8_world 48 = .ok (.invokevirtual 177, 3) := by decide +kernel
theorem dX8_world_51 : decode cX8_world 51 = .ok (.invokevirtual 188, 3) := by decide +kernel
theorem dX8_world_54 : decode cX8_world 54 = .ok (.invokevirtual 191, 3) := by decide +kernel
theorem dX8_world_57 : decode cX8_world 57 = .ok (.i2l, 1) := by decide +kernel
theorem dX8_world_58 : decode cX8_world 58 = .ok (.lreturn, 1) := by decide +kernel
abbrev rmX8_world : Room := { frames := 3, cells := 0, slots := 0, locals := 76 }
theorem ywX8_world : fY yX8_world "EqualCourt" cX8_world 4 (some .long) 1 := ⟨tw_684, tw_685, tw_1, tw_686, by decide +kernel⟩
set_option maxHeartbeats 4000000 in
set_option maxRecDepth 100000 in
theorem cX8_world_ok {D : va_G} {ad : Nat → Nat} {cy cz : ClassId} {l : Launch} {z : fS} {v1 : Int32} {r : Int64} (h : fX8_world z v1 = some r) : fMl D 76 ad (cfX ad cy cz) cy cz l yX8_world cX8_world 4 (some .long) rmX8_world [.ref (ad 0), .int v1] z r z := by
  refine f_bodyl (by decide) (Nat.le_of_ble_eq_true rfl) (fun p e s m args below meth c Q hC hret ls hl hI => ?_)
  have hx := hC.1
  have hb := hC.2.1
  have hl : lv_has ls 4 [(0, .ref (ad 0)), (1, .int v1)] := hl
  unfold fX8_world at h
  refine lv_aload_n hx hb dX8_world_0 rfl (lv_at hl 0 rfl) ?_
  refine gX8_terms hC hI tw_281 dX8_world_1 ?_
  refine lv_iload_n hx hb dX8_world_4 rfl (lv_at hl 1 rfl) ?_
  replace h := bp_at h
  obtain ⟨r5, e5, h⟩ := h
  refine r_calli (rest := []) hC hI oX_1 (C := "EqualCourt$Terms") rfl ywX7_has tw_451 (cX7_has_ok  e5) ⟨Nat.le_of_ble_eq_true rfl, Nat.le_of_ble_eq_true rfl⟩ ⟨rfl, rfl⟩ rfl hl.1 rfl (Nat.le_of_ble_eq_true rfl) dX8_world_5 (fun H locs hI => ?_)
  refine lv_if_ne (tgt := 15) hx hb dX8_world_8 (by decide) (fun c8 => ?_) (fun c8 => ?_)
  · replace h := if_f h c8
    refine lv_aload_n hx hb dX8_world_15 rfl (lv_at hl 0 rfl) ?_
    refine gX8_court hC hI tw_283 dX8_world_16 ?_
    replace h := bp_at h
    obtain ⟨r19, e19, h⟩ := h
    refine r_callr (rest := []) hC hI oX_17 (C := "EqualCourt$Court") rfl ywX2_standing tw_505 (cX2_standing_ok  e19) ⟨Nat.le_of_ble_eq_true rfl, Nat.le_of_ble_eq_true rfl⟩ ⟨rfl, rfl⟩ rfl hl.1 rfl (Nat.le_of_ble_eq_true rfl) dX8_world_19 (fun H locs hI => ?_)
    refine lv_astore_n (lv' := [(2, .ref (ad (pcell r19))), (0, .ref (ad 0)), (1, .int v1)]) hx hb dX8_world_22 rfl hl (by decide) rfl (fun ls hl => ?_)
    refine lv_aload_n hx hb dX8_world_23 rfl (lv_at hl 0 rfl) ?_
    refine lv_iload_n hx hb dX8_world_24 rfl (lv_at hl 2 rfl) ?_
    replace h := bp_at h
    obtain ⟨r25, e25, h⟩ := h
    refine r_calli (rest := []) hC hI (oP (isP_pcell _)) (C := "EqualCourt$Partition") rfl ywX4_numberOf tw_688 (cX4_numberOf_ok (isP_pcell _) e25) ⟨Nat.le_of_ble_eq_true rfl, Nat.le_of_ble_eq_true rfl⟩ ⟨rfl, rfl⟩ rfl hl.1 rfl (Nat.le_of_ble_eq_true rfl) dX8_world_25 (fun H locs hI => ?_)
    refine lv_istore_n (lv' := [(3, .int r25), (2, .ref (ad (pcell r19))), (0, .ref (ad 0)), (1, .int v1)]) hx hb dX8_world_28 rfl hl (by decide) rfl (fun ls hl => ?_)
    refine lv_iload_n hx hb dX8_world_29 rfl (lv_at hl 0 rfl) ?_
    refine lv_iconst (v := -1) hx hb dX8_world_30 (by decide) ?_
    refine lv_icmp_eq (tgt := 44) hx hb dX8_world_31 (by decide) (fun c31 => ?_) (fun c31 => ?_)
    · replace h := if_t h c31
      refine lv_aload_n hx hb dX8_world_44 rfl (lv_at hl 2 rfl) ?_
      refine lv_aload_n hx hb dX8_world_45 rfl (lv_at hl 1 rfl) ?_
      refine lv_aload_n hx hb dX8_world_46 rfl (lv_at hl 1 rfl) ?_
      refine lv_iload_n hx hb dX8_world_47 rfl (lv_at hl 3 rfl) ?_
      replace h := bp_at h
      obtain ⟨r48, e48, h⟩ := h
      refine r_calli (rest := [.ref (ad (pcell r19)), .ref (ad 0)]) hC hI (oP (isP_pcell _)) (C := "EqualCourt$Partition") rfl ywX4_headOf tw_665 (cX4_headOf_ok (isP_pcell _) e48) ⟨Nat.le_of_ble_eq_true rfl, Nat.le_of_ble_eq_true rfl⟩ ⟨rfl, rfl⟩ rfl hl.1 rfl (Nat.le_of_ble_eq_true rfl) dX8_world_48 (fun H locs hI => ?_)
      replace h := bp_at h
      obtain ⟨r51, e51, h⟩ := h
      refine r_calli (rest := [.ref (ad 0)]) hC hI (oP (isP_pcell _)) (C := "EqualCourt$Partition") rfl ywX4_unnumberedBelow tw_692 (cX4_unnumberedBelow_ok (isP_pcell _) e51) ⟨Nat.le_of_ble_eq_true rfl, Nat.le_of_ble_eq_true rfl⟩ ⟨rfl, rfl⟩ rfl hl.1 rfl (Nat.le_of_ble_eq_true rfl) dX8_world_51 (fun H locs hI => ?_)
      replace h := bp_at h
      obtain ⟨r54, e54, h⟩ := h
      refine r_calli (rest := []) hC hI oX_0 (C := "EqualCourt") rfl ywX8_freeInt tw_698 (cX8_freeInt_ok  e54) ⟨Nat.le_of_ble_eq_true rfl, Nat.le_of_ble_eq_true rfl⟩ ⟨rfl, rfl⟩ rfl hl.1 rfl (Nat.le_of_ble_eq_true rfl) dX8_world_54 (fun H locs hI => ?_)
      refine lv_i2l hx hb dX8_world_57 rfl ?_
      exact hret (ret_p _ h) dX8_world_58 hI
    · replace h := if_f h c31
      refine lv_aload_n hx hb dX8_world_34 rfl (lv_at hl 2 rfl) ?_
      refine gX8_terms hC hI tw_281 dX8_world_35 ?_
      refine lv_iload_n hx hb dX8_world_38 rfl (lv_at hl 0 rfl) ?_
      replace h := bp_at h
      obtain ⟨r39, e39, h⟩ := h
      refine r_calli (rest := []) hC hI oX_1 (C := "EqualCourt$Terms") rfl ywX7_shownBy tw_481 (cX7_shownBy_ok  e39) ⟨Nat.le_of_ble_eq_true rfl, Nat.le_of_ble_eq_true rfl⟩ ⟨rfl, rfl⟩ rfl hl.1 rfl (Nat.le_of_ble_eq_true rfl) dX8_world_39 (fun H locs hI => ?_)
      refine lv_i2l hx hb dX8_world_42 rfl ?_
      exact hret (ret_p _ h) dX8_world_43 hI
  · replace h := if_t h c8
    refine lv_ldc2 (v := 1099511627776) hx hb hC.2.2.2.1 (hC.2.2.2.2.1 _ tw_687) dX8_world_11 ?_
    exact hret (ret_p _ h) dX8_world_14 hI
theorem dX8_push_0 : decode cX8_push 0 = .ok (.aload_n 0, 1) := by decide +kernel
theorem dX8_push_1 : decode cX8_push 1 = .ok (.getfield 19, 3) := by decide +kernel
theorem dX8_push_4 : decode cX8_push 4 = .ok (.invokevirtual 115, 3) := by decide +kernel
theorem dX8_push_7 : decode cX8_push 7 = .ok (.bipush 10, 2) := by decide +kernel
theorem dX8_push_9 : decode cX8_push 9 = .ok (.if_icmp .lt 9, 3) := by decide +kernel
theorem dX8_push_12 : decode cX8_push 12 = .ok (.aload_n 0, 1) := by decide +kernel
theorem dX8_push_13 : decode cX8_push 13 = .ok (.iconst 3, 1) := by decide +kernel
theorem dX8_push_14 : decode cX8_push 14 = .ok (.invokevirtual 78, 3) := by decide +kernel
theorem dX8_push_17 : decode cX8_push 17 = .ok (.ireturn, 1) := by decide +kernel
theorem dX8_push_18 : decode cX8_push 18 = .ok (.aload_n 0, 1) := by decide +kernel
theorem dX8_push_19 : decode cX8_push 19 = .ok (.aload_n 0, 1) := by decide +kernel
theorem dX8_push_20 : decode cX8_push 20 = .ok (.getfield 19, 3) := by decide +kernel
theorem dX8_push_23 : decode cX8_push 23 = .ok (.invokevirtual 194, 3) := by decide +kernel
theorem dX8_push_26 : decode cX8_push 26 = .ok (.invokevirtual 100, 3) := by decide +kernel
theorem dX8_push_29 : decode cX8_push 29 = .ok (.ireturn, 1) := by decide +kernel
abbrev rmX8_push : Room := { frames := 2, cells := 0, slots := 0, locals := 46 }
theorem ywX8_push : fY yX8_push "EqualCourt" cX8_push 1 (some .int) 0 := ⟨tw_704, tw_705, tw_1, tw_706, by decide +kernel⟩
set_option maxHeartbeats 4000000 in
set_option maxRecDepth 100000 in
theorem cX8_push_ok {D : va_G} {ad : Nat → Nat} {cy cz : ClassId} {l : Launch} {z : fS}  {r : Int32} {τ : fS} (h : fX8_push z = some (r, τ)) : fMi D 76 ad (cfX ad cy cz) cy cz l yX8_push cX8_push 1 (some .int) rmX8_push [.ref (ad 0)] z r τ := by
  refine f_bodyi (by decide) (Nat.le_of_ble_eq_true rfl) (fun p e s m args below meth c Q hC hret ls hl hI => ?_)
  have hx := hC.1
  have hb := hC.2.1
  have hl : lv_has ls 1 [(0, .ref (ad 0))] := hl
  unfold fX8_push at h
  refine lv_aload_n hx hb dX8_push_0 rfl (lv_at hl 0 rfl) ?_
  refine gX8_sayings hC hI tw_282 dX8_push_1 ?_
  replace h := bp_at h
  obtain ⟨r4, e4, h⟩ := h
  refine r_calli (rest := []) hC hI oX_11 (C := "EqualCourt$Sayings") rfl ywX5_levels tw_501 (cX5_levels_ok  e4) ⟨Nat.le_of_ble_eq_true rfl, Nat.le_of_ble_eq_true rfl⟩ ⟨rfl, rfl⟩ rfl hl.1 rfl (Nat.le_of_ble_eq_true rfl) dX8_push_4 (fun H locs hI => ?_)
  refine lv_bipush (v := 10) hx hb dX8_push_7 (by decide) ?_
  refine lv_icmp_lt (tgt := 18) hx hb dX8_push_9 (by decide) (fun c9 => ?_) (fun c9 => ?_)
  · replace h := if_t h c9
    refine lv_aload_n hx hb dX8_push_18 rfl (lv_at hl 0 rfl) ?_
    refine lv_aload_n hx hb dX8_push_19 rfl (lv_at hl 0 rfl) ?_
    refine gX8_sayings hC hI tw_282 dX8_push_20 ?_
    replace h := bd_at h
    obtain ⟨r23, z23, e23, h⟩ := h
    refine r_calli (rest := [.ref (ad 0)]) hC hI oX_11 (C := "EqualCourt$Sayings") rfl ywX5_beginLevel tw_707 (cX5_beginLevel_ok  e23) ⟨Nat.le_of_ble_eq_true rfl, Nat.le_of_ble_eq_true rfl⟩ ⟨rfl, rfl⟩ rfl hl.1 rfl (Nat.le_of_ble_eq_true rfl) dX8_push_23 (fun H locs hI => ?_)
    replace h := bd_at h
    obtain ⟨r26, z26, e26, h⟩ := h
    refine r_calli (rest := []) hC hI oX_0 (C := "EqualCourt") rfl ywX8_done tw_439 (cX8_done_ok  e26) ⟨Nat.le_of_ble_eq_true rfl, Nat.le_of_ble_eq_true rfl⟩ ⟨rfl, rfl⟩ rfl hl.1 rfl (Nat.le_of_ble_eq_true rfl) dX8_push_26 (fun H locs hI => ?_)
    exact hret h dX8_push_29 hI
  · replace h := if_f h c9
    refine lv_aload_n hx hb dX8_push_12 rfl (lv_at hl 0 rfl) ?_
    refine lv_iconst (v := 3) hx hb dX8_push_13 (by decide) ?_
    replace h := bd_at h
    obtain ⟨r14, z14, e14, h⟩ := h
    refine r_calli (rest := []) hC hI oX_0 (C := "EqualCourt") rfl ywX8_refused tw_325 (cX8_refused_ok  e14) ⟨Nat.le_of_ble_eq_true rfl, Nat.le_of_ble_eq_true rfl⟩ ⟨rfl, rfl⟩ rfl hl.1 rfl (Nat.le_of_ble_eq_true rfl) dX8_push_14 (fun H locs hI => ?_)
    exact hret h dX8_push_17 hI
theorem dX8_pop_0 : decode cX8_pop 0 = .ok (.aload_n 0, 1) := by decide +kernel
theorem dX8_pop_1 : decode cX8_pop 1 = .ok (.getfield 19, 3) := by decide +kernel
theorem dX8_pop_4 : decode cX8_pop 4 = .ok (.invokevirtual 115, 3) := by decide +kernel
theorem dX8_pop_7 : decode cX8_pop 7 = .ok (.ifCond .ne 10, 3) := by decide +kernel
theorem dX8_pop_10 : decode cX8_pop 10 = .ok (.aload_n 0, 1) := by decide +kernel
theorem dX8_pop_11 : decode cX8_pop 11 = .ok (.bipush 9, 2) := by decide +kernel
theorem dX8_pop_13 : decode cX8_pop 13 = .ok (.invokevirtual 78, 3) := by decide +kernel
theorem dX8_pop_16 : decode cX8_pop 16 = .ok (.ireturn, 1) := by decide +kernel
theorem dX8_pop_17 : decode cX8_pop 17 = .ok (.aload_n 0, 1) := by decide +kernel
theorem dX8_pop_18 : decode cX8_pop 18 = .ok (.getfield 19, 3) := by decide +kernel
theorem dX8_pop_21 : decode cX8_pop 21 = .ok (.invokevirtual 197, 3) := by decide +kernel
theorem dX8_pop_24 : decode cX8_pop 24 = .ok (.aload_n 0, 1) := by decide +kernel
theorem dX8_pop_25 : decode cX8_pop 25 = .ok (.getfield 28, 3) := by decide +kernel
theorem dX8_pop_28 : decode cX8_pop 28 = .ok (.invokevirtual 160, 3) := by decide +kernel
theorem dX8_pop_31 : decode cX8_pop 31 = .ok (.aload_n 0, 1) := by decide +kernel
theorem dX8_pop_32 : decode cX8_pop 32 = .ok (.aload_n 0, 1) := by decide +kernel
theorem dX8_pop_33 : decode cX8_pop 33 = .ok (.getfield 19, 3) := by decide +kernel
theorem dX8_pop_36 : decode cX8_pop 36 = .ok (.invokevirtual 111, 3) := by decide +kernel
theorem dX8_pop_39 : decode cX8_pop 39 = .ok (.invokevirtual 100, 3) := by decide +kernel
theorem dX8_pop_42 : decode cX8_pop 42 = .ok (.ireturn, 1) := by decide +kernel
abbrev rmX8_pop : Room := { frames := 4, cells := 0, slots := 0, locals := 101 }
theorem ywX8_pop : fY yX8_pop "EqualCourt" cX8_pop 1 (some .int) 0 := ⟨tw_713, tw_714, tw_1, tw_715, by decide +kernel⟩
set_option maxHeartbeats 4000000 in
set_option maxRecDepth 100000 in
theorem cX8_pop_ok {D : va_G} {ad : Nat → Nat} {cy cz : ClassId} {l : Launch} {z : fS}  {r : Int32} {τ : fS} (h : fX8_pop z = some (r, τ)) : fMi D 76 ad (cfX ad cy cz) cy cz l yX8_pop cX8_pop 1 (some .int) rmX8_pop [.ref (ad 0)] z r τ := by
  refine f_bodyi (by decide) (Nat.le_of_ble_eq_true rfl) (fun p e s m args below meth c Q hC hret ls hl hI => ?_)
  have hx := hC.1
  have hb := hC.2.1
  have hl : lv_has ls 1 [(0, .ref (ad 0))] := hl
  unfold fX8_pop at h
  refine lv_aload_n hx hb dX8_pop_0 rfl (lv_at hl 0 rfl) ?_
  refine gX8_sayings hC hI tw_282 dX8_pop_1 ?_
  replace h := bp_at h
  obtain ⟨r4, e4, h⟩ := h
  refine r_calli (rest := []) hC hI oX_11 (C := "EqualCourt$Sayings") rfl ywX5_levels tw_501 (cX5_levels_ok  e4) ⟨Nat.le_of_ble_eq_true rfl, Nat.le_of_ble_eq_true rfl⟩ ⟨rfl, rfl⟩ rfl hl.1 rfl (Nat.le_of_ble_eq_true rfl) dX8_pop_4 (fun H locs hI => ?_)
  refine lv_if_ne (tgt := 17) hx hb dX8_pop_7 (by decide) (fun c7 => ?_) (fun c7 => ?_)
  · replace h := if_f h c7
    refine lv_aload_n hx hb dX8_pop_17 rfl (lv_at hl 0 rfl) ?_
    refine gX8_sayings hC hI tw_282 dX8_pop_18 ?_
    replace h := bp_at h
    obtain ⟨z21, e21, h⟩ := h
    refine r_callv (rest := []) hC hI oX_11 (C := "EqualCourt$Sayings") rfl ywX5_endLevel tw_716 (cX5_endLevel_ok  e21) ⟨Nat.le_of_ble_eq_true rfl, Nat.le_of_ble_eq_true rfl⟩ ⟨rfl, rfl⟩ rfl hl.1 rfl (Nat.le_of_ble_eq_true rfl) dX8_pop_21 (fun H locs hI => ?_)
    refine lv_aload_n hx hb dX8_pop_24 rfl (lv_at hl 0 rfl) ?_
    refine gX8_court hC hI tw_283 dX8_pop_25 ?_
    replace h := bp_at h
    obtain ⟨z28, e28, h⟩ := h
    refine r_callv (rest := []) hC hI oX_17 (C := "EqualCourt$Court") rfl ywX2_judgeAnew tw_613 (cX2_judgeAnew_ok  e28) ⟨Nat.le_of_ble_eq_true rfl, Nat.le_of_ble_eq_true rfl⟩ ⟨rfl, rfl⟩ rfl hl.1 rfl (Nat.le_of_ble_eq_true rfl) dX8_pop_28 (fun H locs hI => ?_)
    refine lv_aload_n hx hb dX8_pop_31 rfl (lv_at hl 0 rfl) ?_
    refine lv_aload_n hx hb dX8_pop_32 rfl (lv_at hl 0 rfl) ?_
    refine gX8_sayings hC hI tw_282 dX8_pop_33 ?_
    replace h := bp_at h
    obtain ⟨r36, e36, h⟩ := h
    refine r_calli (rest := [.ref (ad 0)]) hC hI oX_11 (C := "EqualCourt$Sayings") rfl ywX5_takenCount tw_493 (cX5_takenCount_ok  e36) ⟨Nat.le_of_ble_eq_true rfl, Nat.le_of_ble_eq_true rfl⟩ ⟨rfl, rfl⟩ rfl hl.1 rfl (Nat.le_of_ble_eq_true rfl) dX8_pop_36 (fun H locs hI => ?_)
    replace h := bd_at h
    obtain ⟨r39, z39, e39, h⟩ := h
    refine r_calli (rest := []) hC hI oX_0 (C := "EqualCourt") rfl ywX8_done tw_439 (cX8_done_ok  e39) ⟨Nat.le_of_ble_eq_true rfl, Nat.le_of_ble_eq_true rfl⟩ ⟨rfl, rfl⟩ rfl hl.1 rfl (Nat.le_of_ble_eq_true rfl) dX8_pop_39 (fun H locs hI => ?_)
    exact hret h dX8_pop_42 hI
  · replace h := if_t h c7
    refine lv_aload_n hx hb dX8_pop_10 rfl (lv_at hl 0 rfl) ?_
    refine lv_bipush (v := 9) hx hb dX8_pop_11 (by decide) ?_
    replace h := bd_at h
    obtain ⟨r13, z13, e13, h⟩ := h
    refine r_calli (rest := []) hC hI oX_0 (C := "EqualCourt") rfl ywX8_refused tw_325 (cX8_refused_ok  e13) ⟨Nat.le_of_ble_eq_true rfl, Nat.le_of_ble_eq_true rfl⟩ ⟨rfl, rfl⟩ rfl hl.1 rfl (Nat.le_of_ble_eq_true rfl) dX8_pop_13 (fun H locs hI => ?_)
    exact hret h dX8_pop_16 hI
theorem dX8_law_0 : decode cX8_law 0 = .ok (.aload_n 0, 1) := by decide +kernel
theorem dX8_law_1 : decode cX8_law 1 = .ok (.getfield 10, 3) := by decide +kernel
theorem dX8_law_4 : decode cX8_law 4 = .ok (.iload_n 1, 1) := by decide +kernel
theorem dX8_law_5 : decode cX8_law 5 = .ok (.invokevirtual 86, 3) := by decide +kernel
theorem dX8_law_8 : decode cX8_law 8 = .ok (.ifCond .eq 14, 3) := by decide +kernel
theorem dX8_law_11 : decode cX8_law 11 = .ok (.aload_n 0, 1) := by decide +kernel
theorem dX8_law_12 : decode cX8_law 12 = .ok (.getfield 10, 3) := by decide +kernel
theorem dX8_law_15 : decode cX8_law 15 = .ok (.iload_n 2, 1) := by decide +kernel
theorem dX8_law_16 : decode cX8_law 16 = .ok (.invokevirtual 86, 3) := by decide +kernel
theorem dX8_law_19 : decode cX8_law 19 = .ok (.ifCond .ne 9, 3) := by decide +kernel
theorem dX8_law_22 : decode cX8_law 22 = .ok (.aload_n 0, 1) := by decide +kernel
theorem dX8_law_23 : decode cX8_law 23 = .ok (.iconst 1, 1) := by decide +kernel
theorem dX8_law_24 : decode cX8_law 24 = .ok (.invokevirtual 78, 3) := by decide +kernel
theorem dX8_law_27 : decode cX8_law 27 = .ok (.ireturn, 1) := by decide +kernel
theorem dX8_law_28 : decode cX8_law 28 = .ok (.aload_n 0, 1) := by decide +kernel
theorem dX8_law_29 : decode cX8_law 29 = .ok (.getfield 68, 3) := by decide +kernel
theorem dX8_law_32 : decode cX8_law 32 = .ok (.bipush 10, 2) := by decide +kernel
theorem dX8_law_34 : decode cX8_law 34 = .ok (.if_icmp .lt 9, 3) := by decide +kernel
theorem dX8_law_37 : decode cX8_law 37 = .ok (.aload_n 0, 1) := by decide +kernel
theorem dX8_law_38 : decode cX8_law 38 = .ok (.iconst 3, 1) := by decide +kernel
theorem dX8_law_39 : decode cX8_law 39 = .ok (.invokevirtual 78, 3) := by decide +kernel
theorem dX8_law_42 : decode cX8_law 42 = .ok (.ireturn, 1) := by decide +kernel
theorem dX8_law_43 : decode cX8_law 43 = .ok (.aload_n 0, 1) := by decide +kernel
theorem dX8_law_44 : decode cX8_law 44 = .ok (.getfield 58, 3) := by decide +kernel
theorem dX8_law_47 : decode cX8_law 47 = .ok (.aload_n 0, 1) := by decide +kernel
theorem dX8_law_48 : decode cX8_law 48 = .ok (.getfield 68, 3) := by decide +kernel
theorem dX8_law_51 : decode cX8_law 51 = .ok (.iload_n 1, 1) := by decide +kernel
theorem dX8_law_52 : decode cX8_law 52 = .ok (.iastore, 1) := by decide +kernel
theorem dX8_law_53 : decode cX8_law 53 = .ok (.aload_n 0, 1) := by decide +kernel
theorem dX8_law_54 : decode cX8_law 54 = .ok (.getfield 62, 3) := by decide +kernel
theorem dX8_law_57 : decode cX8_law 57 = .ok (.aload_n 0, 1) := by decide +kernel
theorem dX8_law_58 : decode cX8_law 58 = .ok (.getfield 68, 3) := by decide +kernel
theorem dX8_law_61 : decode cX8_law 61 = .ok (.iload_n 2, 1) := by decide +kernel
theorem dX8_law_62 : decode cX8_law 62 = .ok (.iastore, 1) := by decide +kernel
theorem dX8_law_63 : decode cX8_law 63 = .ok (.aload_n 0, 1) := by decide +kernel
theorem dX8_law_64 : decode cX8_law 64 = .ok (.dup, 1) := by decide +kernel
theorem dX8_law_65 : decode cX8_law 65 = .ok (.getfield 68, 3) := by decide +kernel
theorem dX8_law_68 : decode cX8_law 68 = .ok (.iconst 1, 1) := by decide +kernel
theorem dX8_law_69 : decode cX8_law 69 = .ok (.iadd, 1) := by decide +kernel
theorem dX8_law_70 : decode cX8_law 70 = .ok (.putfield 68, 3) := by decide +kernel
theorem dX8_law_73 : decode cX8_law 73 = .ok (.aload_n 0, 1) := by decide +kernel
theorem dX8_law_74 : decode cX8_law 74 = .ok (.aload_n 0, 1) := by decide +kernel
theorem dX8_law_75 : decode cX8_law 75 = .ok (.getfield 68, 3) := by decide +kernel
theorem dX8_law_78 : decode cX8_law 78 = .ok (.iconst 1, 1) := by decide +kernel
theorem dX8_law_79 : decode cX8_law 79 = .ok (.isub, 1) := by decide +kernel
theorem dX8_law_80 : decode cX8_law 80 = .ok (.invokevirtual 100, 3) := by decide +kernel
theorem dX8_law_83 : decode cX8_law 83 = .ok (.ireturn, 1) := by decide +kernel
abbrev rmX8_law : Room := { frames := 1, cells := 0, slots := 0, locals := 21 }
theorem ywX8_law : fY yX8_law "EqualCourt" cX8_law 3 (some .int) 2 := ⟨tw_721, tw_722, tw_1, tw_723, by decide +kernel⟩
set_option maxHeartbeats 4000000 in
set_option maxRecDepth 100000 in
theorem cX8_law_ok {D : va_G} {ad : Nat → Nat} {cy cz : ClassId} {l : Launch} {z : fS} {v1 : Int32} {v2 : Int32} {r : Int32} {τ : fS} (h : fX8_law z v1 v2 = some (r, τ)) : fMi D 76 ad (cfX ad cy cz) cy cz l yX8_law cX8_law 3 (some .int) rmX8_law [.ref (ad 0), .int v1, .int v2] z r τ := by
  refine f_bodyi (by decide) (Nat.le_of_ble_eq_true rfl) (fun p e s m args below meth c Q hC hret ls hl hI => ?_)
  have hx := hC.1
  have hb := hC.2.1
  have hl : lv_has ls 3 [(0, .ref (ad 0)), (1, .int v1), (2, .int v2)] := hl
  unfold fX8_law at h
  refine lv_aload_n hx hb dX8_law_0 rfl (lv_at hl 0 rfl) ?_
  refine gX8_terms hC hI tw_281 dX8_law_1 ?_
  refine lv_iload_n hx hb dX8_law_4 rfl (lv_at hl 1 rfl) ?_
  replace h := bp_at h
  obtain ⟨r5, e5, h⟩ := h
  refine r_calli (rest := []) hC hI oX_1 (C := "EqualCourt$Terms") rfl ywX7_has tw_451 (cX7_has_ok  e5) ⟨Nat.le_of_ble_eq_true rfl, Nat.le_of_ble_eq_true rfl⟩ ⟨rfl, rfl⟩ rfl hl.1 rfl (Nat.le_of_ble_eq_true rfl) dX8_law_5 (fun H locs hI => ?_)
  refine lv_if_eq (tgt := 22) hx hb dX8_law_8 (by decide) (fun c8 => ?_) (fun c8 => ?_)
  · replace h := if_t h c8
    refine lv_aload_n hx hb dX8_law_22 rfl (lv_at hl 0 rfl) ?_
    refine lv_iconst (v := 1) hx hb dX8_law_23 (by decide) ?_
    replace h := bd_at h
    obtain ⟨r24, z24, e24, h⟩ := h
    refine r_calli (rest := []) hC hI oX_0 (C := "EqualCourt") rfl ywX8_refused tw_325 (cX8_refused_ok  e24) ⟨Nat.le_of_ble_eq_true rfl, Nat.le_of_ble_eq_true rfl⟩ ⟨rfl, rfl⟩ rfl hl.1 rfl (Nat.le_of_ble_eq_true rfl) dX8_law_24 (fun H locs hI => ?_)
    exact hret h dX8_law_27 hI
  · replace h := if_f h c8
    refine lv_aload_n hx hb dX8_law_11 rfl (lv_at hl 0 rfl) ?_
    refine gX8_terms hC hI tw_281 dX8_law_12 ?_
    refine lv_iload_n hx hb dX8_law_15 rfl (lv_at hl 2 rfl) ?_
    replace h := bp_at h
    obtain ⟨r16, e16, h⟩ := h
    refine r_calli (rest := []) hC hI oX_1 (C := "EqualCourt$Terms") rfl ywX7_has tw_451 (cX7_has_ok  e16) ⟨Nat.le_of_ble_eq_true rfl, Nat.le_of_ble_eq_true rfl⟩ ⟨rfl, rfl⟩ rfl hl.1 rfl (Nat.le_of_ble_eq_true rfl) dX8_law_16 (fun H locs hI => ?_)
    refine lv_if_ne (tgt := 28) hx hb dX8_law_19 (by decide) (fun c19 => ?_) (fun c19 => ?_)
    · replace h := if_f h c19
      refine lv_aload_n hx hb dX8_law_28 rfl (lv_at hl 0 rfl) ?_
      refine gX8_lawCount hC hI tw_291 dX8_law_29 ?_
      refine lv_bipush (v := 10) hx hb dX8_law_32 (by decide) ?_
      refine lv_icmp_lt (tgt := 43) hx hb dX8_law_34 (by decide) (fun c34 => ?_) (fun c34 => ?_)
      · replace h := if_t h c34
        refine lv_aload_n hx hb dX8_law_43 rfl (lv_at hl 0 rfl) ?_
        refine gX8_lawLefts hC hI tw_288 dX8_law_44 ?_
        refine lv_aload_n hx hb dX8_law_47 rfl (lv_at hl 0 rfl) ?_
        refine gX8_lawCount hC hI tw_291 dX8_law_48 ?_
        refine lv_iload_n hx hb dX8_law_51 rfl (lv_at hl 1 rfl) ?_
        have g52 := (gd_at h).1
        replace h := (gd_at h).2
        refine r_iast hC hI aX_73 g52 dX8_law_52 (fun z52 H locs e52 hI => ?_)
        replace h := bnd_at h e52
        refine lv_aload_n hx hb dX8_law_53 rfl (lv_at hl 0 rfl) ?_
        refine gX8_lawRights hC hI tw_289 dX8_law_54 ?_
        refine lv_aload_n hx hb dX8_law_57 rfl (lv_at hl 0 rfl) ?_
        refine gX8_lawCount hC hI tw_291 dX8_law_58 ?_
        refine lv_iload_n hx hb dX8_law_61 rfl (lv_at hl 2 rfl) ?_
        have g62 := (gd_at h).1
        replace h := (gd_at h).2
        refine r_iast hC hI aX_74 g62 dX8_law_62 (fun z62 H locs e62 hI => ?_)
        replace h := bnd_at h e62
        refine lv_aload_n hx hb dX8_law_63 rfl (lv_at hl 0 rfl) ?_
        refine lv_dup hx hb dX8_law_64 rfl ?_
        refine gX8_lawCount hC hI tw_291 dX8_law_65 ?_
        refine lv_iconst (v := 1) hx hb dX8_law_68 (by decide) ?_
        refine lv_iadd hx hb dX8_law_69 ?_
        refine pX8_lawCount hC hI tw_291 dX8_law_70 (fun z70 H locs e70 hI => ?_)
        replace h := bnd_at h e70
        refine lv_aload_n hx hb dX8_law_73 rfl (lv_at hl 0 rfl) ?_
        refine lv_aload_n hx hb dX8_law_74 rfl (lv_at hl 0 rfl) ?_
        refine gX8_lawCount hC hI tw_291 dX8_law_75 ?_
        refine lv_iconst (v := 1) hx hb dX8_law_78 (by decide) ?_
        refine lv_isub hx hb dX8_law_79 ?_
        replace h := bd_at h
        obtain ⟨r80, z80, e80, h⟩ := h
        refine r_calli (rest := []) hC hI oX_0 (C := "EqualCourt") rfl ywX8_done tw_439 (cX8_done_ok  e80) ⟨Nat.le_of_ble_eq_true rfl, Nat.le_of_ble_eq_true rfl⟩ ⟨rfl, rfl⟩ rfl hl.1 rfl (Nat.le_of_ble_eq_true rfl) dX8_law_80 (fun H locs hI => ?_)
        exact hret h dX8_law_83 hI
      · replace h := if_f h c34
        refine lv_aload_n hx hb dX8_law_37 rfl (lv_at hl 0 rfl) ?_
        refine lv_iconst (v := 3) hx hb dX8_law_38 (by decide) ?_
        replace h := bd_at h
        obtain ⟨r39, z39, e39, h⟩ := h
        refine r_calli (rest := []) hC hI oX_0 (C := "EqualCourt") rfl ywX8_refused tw_325 (cX8_refused_ok  e39) ⟨Nat.le_of_ble_eq_true rfl, Nat.le_of_ble_eq_true rfl⟩ ⟨rfl, rfl⟩ rfl hl.1 rfl (Nat.le_of_ble_eq_true rfl) dX8_law_39 (fun H locs hI => ?_)
        exact hret h dX8_law_42 hI
    · replace h := if_t h c19
      refine lv_aload_n hx hb dX8_law_22 rfl (lv_at hl 0 rfl) ?_
      refine lv_iconst (v := 1) hx hb dX8_law_23 (by decide) ?_
      replace h := bd_at h
      obtain ⟨r24, z24, e24, h⟩ := h
      refine r_calli (rest := []) hC hI oX_0 (C := "EqualCourt") rfl ywX8_refused tw_325 (cX8_refused_ok  e24) ⟨Nat.le_of_ble_eq_true rfl, Nat.le_of_ble_eq_true rfl⟩ ⟨rfl, rfl⟩ rfl hl.1 rfl (Nat.le_of_ble_eq_true rfl) dX8_law_24 (fun H locs hI => ?_)
      exact hret h dX8_law_27 hI
theorem dX8_madeInstance_0 : decode cX8_madeInstance 0 = .ok (.aload_n 0, 1) := by decide +kernel
theorem dX8_madeInstance_1 : decode cX8_madeInstance 1 = .ok (.getfield 10, 3) := by decide +kernel
theorem dX8_madeInstance_4 : decode cX8_madeInstance 4 = .ok (.invokevirtual 106, 3) := by decide +kernel
theorem dX8_madeInstance_7 : decode cX8_madeInstance 7 = .ok (.istore 5, 2) := by decide +kernel
theorem dX8_madeInstance_9 : decode cX8_madeInstance 9 = .ok (.aload_n 0, 1) := by decide +kernel
theorem dX8_madeInstance_10 : decode cX8_madeInstance 10 = .ok (.getfield 37, 3) := by decide +kernel
theorem dX8_madeInstance_13 : decode cX8_madeInstance 13 = .ok (.iload_n 1, 1) := by decide +kernel
theorem dX8_madeInstance_14 : decode cX8_madeInstance 14 = .ok (.iload_n 2, 1) := by decide +kernel
theorem dX8_madeInstance_15 : decode cX8_madeInstance 15 = .ok (.iload_n 3, 1) := by decide +kernel
theorem dX8_madeInstance_16 : decode cX8_madeInstance 16 = .ok (.iload 4, 2) := by decide +kernel
theorem dX8_madeInstance_18 : decode cX8_madeInstance 18 = .ok (.invokevirtual 231, 3) := by decide +kernel
theorem dX8_madeInstance_21 : decode cX8_madeInstance 21 = .ok (.istore 6, 2) := by decide +kernel
theorem dX8_madeInstance_23 : decode cX8_madeInstance 23 = .ok (.aload_n 0, 1) := by decide +kernel
theorem dX8_madeInstance_24 : decode cX8_madeInstance 24 = .ok (.getfield 28, 3) := by decide +kernel
theorem dX8_madeInstance_27 : decode cX8_madeInstance 27 = .ok (.iload 5, 2) := by decide +kernel
theorem dX8_madeInstance_29 : decode cX8_madeInstance 29 = .ok (.invokevirtual 228, 3) := by decide +kernel
theorem dX8_madeInstance_32 : decode cX8_madeInstance 32 = .ok (.iload 6, 2) := by decide +kernel
theorem dX8_madeInstance_34 : decode cX8_madeInstance 34 = .ok (.ireturn, 1) := by decide +kernel
abbrev rmX8_madeInstance : Room := { frames := 5, cells := 0, slots := 0, locals := 136 }
theorem ywX8_madeInstance : fY yX8_madeInstance "EqualCourt" cX8_madeInstance 7 (some .int) 4 := ⟨tw_730, tp_15, tw_1, tw_731, by decide +kernel⟩
set_option maxHeartbeats 4000000 in
set_option maxRecDepth 100000 in
theorem cX8_madeInstance_ok {D : va_G} {ad : Nat → Nat} {cy cz : ClassId} {l : Launch} {z : fS} {v1 : Int32} {v2 : Int32} {v3 : Int32} {v4 : Int32} {r : Int32} {τ : fS} (h : fX8_madeInstance z v1 v2 v3 v4 = some (r, τ)) : fMi D 76 ad (cfX ad cy cz) cy cz l yX8_madeInstance cX8_madeInstance 7 (some .int) rmX8_madeInstance [.ref (ad 0), .int v1, .int v2, .int v3, .int v4] z r τ := by
  refine f_bodyi (by decide) (Nat.le_of_ble_eq_true rfl) (fun p e s m args below meth c Q hC hret ls hl hI => ?_)
  have hx := hC.1
  have hb := hC.2.1
  have hl : lv_has ls 7 [(0, .ref (ad 0)), (1, .int v1), (2, .int v2), (3, .int v3), (4, .int v4)] := hl
  unfold fX8_madeInstance at h
  refine lv_aload_n hx hb dX8_madeInstance_0 rfl (lv_at hl 0 rfl) ?_
  refine gX8_terms hC hI tw_281 dX8_madeInstance_1 ?_
  replace h := bp_at h
  obtain ⟨r4, e4, h⟩ := h
  refine r_calli (rest := []) hC hI oX_1 (C := "EqualCourt$Terms") rfl ywX7_count tw_333 (cX7_count_ok  e4) ⟨Nat.le_of_ble_eq_true rfl, Nat.le_of_ble_eq_true rfl⟩ ⟨rfl, rfl⟩ rfl hl.1 rfl (Nat.le_of_ble_eq_true rfl) dX8_madeInstance_4 (fun H locs hI => ?_)
  refine lv_istore (lv' := [(5, .int r4), (0, .ref (ad 0)), (1, .int v1), (2, .int v2), (3, .int v3), (4, .int v4)]) hx hb dX8_madeInstance_7 hl (by decide) rfl (fun ls hl => ?_)
  refine lv_aload_n hx hb dX8_madeInstance_9 rfl (lv_at hl 1 rfl) ?_
  refine gX8_maker hC hI tw_284 dX8_madeInstance_10 ?_
  refine lv_iload_n hx hb dX8_madeInstance_13 rfl (lv_at hl 2 rfl) ?_
  refine lv_iload_n hx hb dX8_madeInstance_14 rfl (lv_at hl 3 rfl) ?_
  refine lv_iload_n hx hb dX8_madeInstance_15 rfl (lv_at hl 4 rfl) ?_
  refine lv_iload hx hb dX8_madeInstance_16 (lv_at hl 5 rfl) ?_
  replace h := bd_at h
  obtain ⟨r18, z18, e18, h⟩ := h
  refine r_calli (rest := []) hC hI oX_58 (C := "EqualCourt$Maker") rfl ywX3_makeInstance tw_732 (cX3_makeInstance_ok  e18) ⟨Nat.le_of_ble_eq_true rfl, Nat.le_of_ble_eq_true rfl⟩ ⟨rfl, rfl⟩ rfl hl.1 rfl (Nat.le_of_ble_eq_true rfl) dX8_madeInstance_18 (fun H locs hI => ?_)
  refine lv_istore (lv' := [(6, .int r18), (5, .int r4), (0, .ref (ad 0)), (1, .int v1), (2, .int v2), (3, .int v3), (4, .int v4)]) hx hb dX8_madeInstance_21 hl (by decide) rfl (fun ls hl => ?_)
  refine lv_aload_n hx hb dX8_madeInstance_23 rfl (lv_at hl 2 rfl) ?_
  refine gX8_court hC hI tw_283 dX8_madeInstance_24 ?_
  refine lv_iload hx hb dX8_madeInstance_27 (lv_at hl 1 rfl) ?_
  replace h := bp_at h
  obtain ⟨z29, e29, h⟩ := h
  refine r_callv (rest := []) hC hI oX_17 (C := "EqualCourt$Court") rfl ywX2_admitFrom tw_353 (cX2_admitFrom_ok  e29) ⟨Nat.le_of_ble_eq_true rfl, Nat.le_of_ble_eq_true rfl⟩ ⟨rfl, rfl⟩ rfl hl.1 rfl (Nat.le_of_ble_eq_true rfl) dX8_madeInstance_29 (fun H locs hI => ?_)
  refine lv_iload hx hb dX8_madeInstance_32 (lv_at hl 0 rfl) ?_
  exact hret h dX8_madeInstance_34 hI
theorem dX8_instance_0 : decode cX8_instance 0 = .ok (.aload_n 0, 1) := by decide +kernel
theorem dX8_instance_1 : decode cX8_instance 1 = .ok (.getfield 10, 3) := by decide +kernel
theorem dX8_instance_4 : decode cX8_instance 4 = .ok (.iload_n 1, 1) := by decide +kernel
theorem dX8_instance_5 : decode cX8_instance 5 = .ok (.invokevirtual 86, 3) := by decide +kernel
theorem dX8_instance_8 : decode cX8_instance 8 = .ok (.ifCond .eq 37, 3) := by decide +kernel
theorem dX8_instance_11 : decode cX8_instance 11 = .ok (.aload_n 0, 1) := by decide +kernel
theorem dX8_instance_12 : decode cX8_instance 12 = .ok (.getfield 10, 3) := by decide +kernel
theorem dX8_instance_15 : decode cX8_instance 15 = .ok (.iload_n 2, 1) := by decide +kernel
theorem dX8_instance_16 : decode cX8_instance 16 = .ok (.invokevirtual 86, 3) := by decide +kernel
theorem dX8_instance_19 : decode cX8_instance 19 = .ok (.ifCond .eq 26, 3) := by decide +kernel
theorem dX8_instance_22 : decode cX8_instance 22 = .ok (.aload_n 0, 1) := by decide +kernel
theorem dX8_instance_23 : decode cX8_instance 23 = .ok (.getfield 10, 3) := by decide +kernel
theorem dX8_instance_26 : decode cX8_instance 26 = .ok (.iload_n 3, 1) := by decide +kernel
theorem dX8_instance_27 : decode cX8_instance 27 = .ok (.invokevirtual 86, 3) := by decide +kernel
theorem dX8_instance_30 : decode cX8_instance 30 = .ok (.ifCond .eq 15, 3) := by decide +kernel
theorem dX8_instance_33 : decode cX8_instance 33 = .ok (.aload_n 0, 1) := by decide +kernel
theorem dX8_instance_34 : decode cX8_instance 34 = .ok (.getfield 10, 3) := by decide +kernel
theorem dX8_instance_37 : decode cX8_instance 37 = .ok (.iload 4, 2) := by decide +kernel
theorem dX8_instance_39 : decode cX8_instance 39 = .ok (.invokevirtual 86, 3) := by decide +kernel
theorem dX8_instance_42 : decode cX8_instance 42 = .ok (.ifCond .ne 9, 3) := by decide +kernel
theorem dX8_instance_45 : decode cX8_instance 45 = .ok (.aload_n 0, 1) := by decide +kernel
theorem dX8_instance_46 : decode cX8_instance 46 = .ok (.iconst 1, 1) := by decide +kernel
theorem dX8_instance_47 : decode cX8_instance 47 = .ok (.invokevirtual 78, 3) := by decide +kernel
theorem dX8_instance_50 : decode cX8_instance 50 = .ok (.ireturn, 1) := by decide +kernel
theorem dX8_instance_51 : decode cX8_instance 51 = .ok (.aload_n 0, 1) := by decide +kernel
theorem dX8_instance_52 : decode cX8_instance 52 = .ok (.iload_n 1, 1) := by decide +kernel
theorem dX8_instance_53 : decode cX8_instance 53 = .ok (.iload_n 2, 1) := by decide +kernel
theorem dX8_instance_54 : decode cX8_instance 54 = .ok (.iload_n 3, 1) := by decide +kernel
theorem dX8_instance_55 : decode cX8_instance 55 = .ok (.iload 4, 2) := by decide +kernel
theorem dX8_instance_57 : decode cX8_instance 57 = .ok (.invokevirtual 200, 3) := by decide +kernel
theorem dX8_instance_60 : decode cX8_instance 60 = .ok (.istore 5, 2) := by decide +kernel
theorem dX8_instance_62 : decode cX8_instance 62 = .ok (.iload 5, 2) := by decide +kernel
theorem dX8_instance_64 : decode cX8_instance 64 = .ok (.iconst (-1), 1) := by decide +kernel
theorem dX8_instance_65 : decode cX8_instance 65 = .ok (.if_icmp .ne 11, 3) := by decide +kernel
theorem dX8_instance_68 : decode cX8_instance 68 = .ok (.aload_n 0, 1) := by decide +kernel
theorem dX8_instance_69 : decode cX8_instance 69 = .ok (.iconst 3, 1) := by decide +kernel
theorem dX8_instance_70 : decode cX8_instance 70 = .ok (.invokevirtual 78, 3) := by decide +kernel
theorem dX8_instance_73 : decode cX8_instance 73 = .ok (.goto 9, 3) := by decide +kernel
theorem dX8_instance_76 : decode cX8_instance 76 = .ok (.aload_n 0, 1) := by decide +kernel
theorem dX8_instance_77 : decode cX8_instance 77 = .ok (.iload 5, 2) := by decide +kernel
theorem dX8_instance_79 : decode cX8_instance 79 = .ok (.invokevirtual 100, 3) := by decide +kernel
theorem dX8_instance_82 : decode cX8_instance 82 = .ok (.ireturn, 1) := by decide +kernel
abbrev rmX8_instance : Room := { frames := 6, cells := 0, slots := 0, locals := 162 }
theorem ywX8_instance : fY yX8_instance "EqualCourt" cX8_instance 6 (some .int) 4 := ⟨tw_725, tw_726, tw_1, tw_727, by decide +kernel⟩
set_option maxHeartbeats 4000000 in
set_option maxRecDepth 100000 in
theorem cX8_instance_ok {D : va_G} {ad : Nat → Nat} {cy cz : ClassId} {l : Launch} {z : fS} {v1 : Int32} {v2 : Int32} {v3 : Int32} {v4 : Int32} {r : Int32} {τ : fS} (h : fX8_instance z v1 v2 v3 v4 = some (r, τ)) : fMi D 76 ad (cfX ad cy cz) cy cz l yX8_instance cX8_instance 6 (some .int) rmX8_instance [.ref (ad 0), .int v1, .int v2, .int v3, .int v4] z r τ := by
  refine f_bodyi (by decide) (Nat.le_of_ble_eq_true rfl) (fun p e s m args below meth c Q hC hret ls hl hI => ?_)
  have hx := hC.1
  have hb := hC.2.1
  have hl : lv_has ls 6 [(0, .ref (ad 0)), (1, .int v1), (2, .int v2), (3, .int v3), (4, .int v4)] := hl
  unfold fX8_instance at h
  refine lv_aload_n hx hb dX8_instance_0 rfl (lv_at hl 0 rfl) ?_
  refine gX8_terms hC hI tw_281 dX8_instance_1 ?_
  refine lv_iload_n hx hb dX8_instance_4 rfl (lv_at hl 1 rfl) ?_
  replace h := bp_at h
  obtain ⟨r5, e5, h⟩ := h
  refine r_calli (rest := []) hC hI oX_1 (C := "EqualCourt$Terms") rfl ywX7_has tw_451 (cX7_has_ok  e5) ⟨Nat.le_of_ble_eq_true rfl, Nat.le_of_ble_eq_true rfl⟩ ⟨rfl, rfl⟩ rfl hl.1 rfl (Nat.le_of_ble_eq_true rfl) dX8_instance_5 (fun H locs hI => ?_)
  refine lv_if_eq (tgt := 45) hx hb dX8_instance_8 (by decide) (fun c8 => ?_) (fun c8 => ?_)
  · replace h := if_t h c8
    refine lv_aload_n hx hb dX8_instance_45 rfl (lv_at hl 0 rfl) ?_
    refine lv_iconst (v := 1) hx hb dX8_instance_46 (by decide) ?_
    replace h := bd_at h
    obtain ⟨r47, z47, e47, h⟩ := h
    refine r_calli (rest := []) hC hI oX_0 (C := "EqualCourt") rfl ywX8_refused tw_325 (cX8_refused_ok  e47) ⟨Nat.le_of_ble_eq_true rfl, Nat.le_of_ble_eq_true rfl⟩ ⟨rfl, rfl⟩ rfl hl.1 rfl (Nat.le_of_ble_eq_true rfl) dX8_instance_47 (fun H locs hI => ?_)
    exact hret h dX8_instance_50 hI
  · replace h := if_f h c8
    refine lv_aload_n hx hb dX8_instance_11 rfl (lv_at hl 0 rfl) ?_
    refine gX8_terms hC hI tw_281 dX8_instance_12 ?_
    refine lv_iload_n hx hb dX8_instance_15 rfl (lv_at hl 2 rfl) ?_
    replace h := bp_at h
    obtain ⟨r16, e16, h⟩ := h
    refine r_calli (rest := []) hC hI oX_1 (C := "EqualCourt$Terms") rfl ywX7_has tw_451 (cX7_has_ok  e16) ⟨Nat.le_of_ble_eq_true rfl, Nat.le_of_ble_eq_true rfl⟩ ⟨rfl, rfl⟩ rfl hl.1 rfl (Nat.le_of_ble_eq_true rfl) dX8_instance_16 (fun H locs hI => ?_)
    refine lv_if_eq (tgt := 45) hx hb dX8_instance_19 (by decide) (fun c19 => ?_) (fun c19 => ?_)
    · replace h := if_t h c19
      refine lv_aload_n hx hb dX8_instance_45 rfl (lv_at hl 0 rfl) ?_
      refine lv_iconst (v := 1) hx hb dX8_instance_46 (by decide) ?_
      replace h := bd_at h
      obtain ⟨r47, z47, e47, h⟩ := h
      refine r_calli (rest := []) hC hI oX_0 (C := "EqualCourt") rfl ywX8_refused tw_325 (cX8_refused_ok  e47) ⟨Nat.le_of_ble_eq_true rfl, Nat.le_of_ble_eq_true rfl⟩ ⟨rfl, rfl⟩ rfl hl.1 rfl (Nat.le_of_ble_eq_true rfl) dX8_instance_47 (fun H locs hI => ?_)
      exact hret h dX8_instance_50 hI
    · replace h := if_f h c19
      refine lv_aload_n hx hb dX8_instance_22 rfl (lv_at hl 0 rfl) ?_
      refine gX8_terms hC hI tw_281 dX8_instance_23 ?_
      refine lv_iload_n hx hb dX8_instance_26 rfl (lv_at hl 3 rfl) ?_
      replace h := bp_at h
      obtain ⟨r27, e27, h⟩ := h
      refine r_calli (rest := []) hC hI oX_1 (C := "EqualCourt$Terms") rfl ywX7_has tw_451 (cX7_has_ok  e27) ⟨Nat.le_of_ble_eq_true rfl, Nat.le_of_ble_eq_true rfl⟩ ⟨rfl, rfl⟩ rfl hl.1 rfl (Nat.le_of_ble_eq_true rfl) dX8_instance_27 (fun H locs hI => ?_)
      refine lv_if_eq (tgt := 45) hx hb dX8_instance_30 (by decide) (fun c30 => ?_) (fun c30 => ?_)
      · replace h := if_t h c30
        refine lv_aload_n hx hb dX8_instance_45 rfl (lv_at hl 0 rfl) ?_
        refine lv_iconst (v := 1) hx hb dX8_instance_46 (by decide) ?_
        replace h := bd_at h
        obtain ⟨r47, z47, e47, h⟩ := h
        refine r_calli (rest := []) hC hI oX_0 (C := "EqualCourt") rfl ywX8_refused tw_325 (cX8_refused_ok  e47) ⟨Nat.le_of_ble_eq_true rfl, Nat.le_of_ble_eq_true rfl⟩ ⟨rfl, rfl⟩ rfl hl.1 rfl (Nat.le_of_ble_eq_true rfl) dX8_instance_47 (fun H locs hI => ?_)
        exact hret h dX8_instance_50 hI
      · replace h := if_f h c30
        refine lv_aload_n hx hb dX8_instance_33 rfl (lv_at hl 0 rfl) ?_
        refine gX8_terms hC hI tw_281 dX8_instance_34 ?_
        refine lv_iload hx hb dX8_instance_37 (lv_at hl 4 rfl) ?_
        replace h := bp_at h
        obtain ⟨r39, e39, h⟩ := h
        refine r_calli (rest := []) hC hI oX_1 (C := "EqualCourt$Terms") rfl ywX7_has tw_451 (cX7_has_ok  e39) ⟨Nat.le_of_ble_eq_true rfl, Nat.le_of_ble_eq_true rfl⟩ ⟨rfl, rfl⟩ rfl hl.1 rfl (Nat.le_of_ble_eq_true rfl) dX8_instance_39 (fun H locs hI => ?_)
        refine lv_if_ne (tgt := 51) hx hb dX8_instance_42 (by decide) (fun c42 => ?_) (fun c42 => ?_)
        · replace h := if_f h c42
          refine lv_aload_n hx hb dX8_instance_51 rfl (lv_at hl 0 rfl) ?_
          refine lv_iload_n hx hb dX8_instance_52 rfl (lv_at hl 1 rfl) ?_
          refine lv_iload_n hx hb dX8_instance_53 rfl (lv_at hl 2 rfl) ?_
          refine lv_iload_n hx hb dX8_instance_54 rfl (lv_at hl 3 rfl) ?_
          refine lv_iload hx hb dX8_instance_55 (lv_at hl 4 rfl) ?_
          replace h := bd_at h
          obtain ⟨r57, z57, e57, h⟩ := h
          refine r_calli (rest := []) hC hI oX_0 (C := "EqualCourt") rfl ywX8_madeInstance tw_728 (cX8_madeInstance_ok  e57) ⟨Nat.le_of_ble_eq_true rfl, Nat.le_of_ble_eq_true rfl⟩ ⟨rfl, rfl⟩ rfl hl.1 rfl (Nat.le_of_ble_eq_true rfl) dX8_instance_57 (fun H locs hI => ?_)
          refine lv_istore (lv' := [(5, .int r57), (0, .ref (ad 0)), (1, .int v1), (2, .int v2), (3, .int v3), (4, .int v4)]) hx hb dX8_instance_60 hl (by decide) rfl (fun ls hl => ?_)
          refine lv_iload hx hb dX8_instance_62 (lv_at hl 0 rfl) ?_
          refine lv_iconst (v := -1) hx hb dX8_instance_64 (by decide) ?_
          refine lv_icmp_ne (tgt := 76) hx hb dX8_instance_65 (by decide) (fun c65 => ?_) (fun c65 => ?_)
          · replace h := if_f h c65
            refine lv_aload_n hx hb dX8_instance_76 rfl (lv_at hl 1 rfl) ?_
            refine lv_iload hx hb dX8_instance_77 (lv_at hl 0 rfl) ?_
            replace h := bd_at h
            obtain ⟨r79, z79, e79, h⟩ := h
            refine r_calli (rest := []) hC hI oX_0 (C := "EqualCourt") rfl ywX8_done tw_439 (cX8_done_ok  e79) ⟨Nat.le_of_ble_eq_true rfl, Nat.le_of_ble_eq_true rfl⟩ ⟨rfl, rfl⟩ rfl hl.1 rfl (Nat.le_of_ble_eq_true rfl) dX8_instance_79 (fun H locs hI => ?_)
            exact hret h dX8_instance_82 hI
          · replace h := if_t h c65
            refine lv_aload_n hx hb dX8_instance_68 rfl (lv_at hl 1 rfl) ?_
            refine lv_iconst (v := 3) hx hb dX8_instance_69 (by decide) ?_
            replace h := bd_at h
            obtain ⟨r70, z70, e70, h⟩ := h
            refine r_calli (rest := []) hC hI oX_0 (C := "EqualCourt") rfl ywX8_refused tw_325 (cX8_refused_ok  e70) ⟨Nat.le_of_ble_eq_true rfl, Nat.le_of_ble_eq_true rfl⟩ ⟨rfl, rfl⟩ rfl hl.1 rfl (Nat.le_of_ble_eq_true rfl) dX8_instance_70 (fun H locs hI => ?_)
            refine lv_goto (tgt := 82) hx hb dX8_instance_73 (by decide) ?_
            exact hret h dX8_instance_82 hI
        · replace h := if_t h c42
          refine lv_aload_n hx hb dX8_instance_45 rfl (lv_at hl 0 rfl) ?_
          refine lv_iconst (v := 1) hx hb dX8_instance_46 (by decide) ?_
          replace h := bd_at h
          obtain ⟨r47, z47, e47, h⟩ := h
          refine r_calli (rest := []) hC hI oX_0 (C := "EqualCourt") rfl ywX8_refused tw_325 (cX8_refused_ok  e47) ⟨Nat.le_of_ble_eq_true rfl, Nat.le_of_ble_eq_true rfl⟩ ⟨rfl, rfl⟩ rfl hl.1 rfl (Nat.le_of_ble_eq_true rfl) dX8_instance_47 (fun H locs hI => ?_)
          exact hret h dX8_instance_50 hI
theorem dX8_gatherHeads_0 : decode cX8_gatherHeads 0 = .ok (.iconst 0, 1) := by decide +kernel
theorem dX8_gatherHeads_1 : decode cX8_gatherHeads 1 = .ok (.istore_n 1, 1) := by decide +kernel
theorem dX8_gatherHeads_2 : decode cX8_gatherHeads 2 = .ok (.iconst 0, 1) := by decide +kernel
theorem dX8_gatherHeads_3 : decode cX8_gatherHeads 3 = .ok (.istore_n 2, 1) := by decide +kernel
theorem dX8_gatherHeads_4 : decode cX8_gatherHeads 4 = .ok (.iload_n 2, 1) := by decide +kernel
theorem dX8_gatherHeads_5 : decode cX8_gatherHeads 5 = .ok (.aload_n 0, 1) := by decide +kernel
theorem dX8_gatherHeads_6 : decode cX8_gatherHeads 6 = .ok (.getfield 10, 3) := by decide +kernel
theorem dX8_gatherHeads_9 : decode cX8_gatherHeads 9 = .ok (.invokevirtual 106, 3) := by decide +kernel
theorem dX8_gatherHeads_12 : decode cX8_gatherHeads 12 = .ok (.if_icmp .ge 45, 3) := by decide +kernel
theorem dX8_gatherHeads_15 : decode cX8_gatherHeads 15 = .ok (.aload_n 0, 1) := by decide +kernel
theorem dX8_gatherHeads_16 : decode cX8_gatherHeads 16 = .ok (.getfield 28, 3) := by decide +kernel
theorem dX8_gatherHeads_19 : decode cX8_gatherHeads 19 = .ok (.invokevirtual 118, 3) := by decide +kernel
theorem dX8_gatherHeads_22 : decode cX8_gatherHeads 22 = .ok (.iload_n 2, 1) := by decide +kernel
theorem dX8_gatherHeads_23 : decode cX8_gatherHeads 23 = .ok (.invokevirtual 177, 3) := by decide +kernel
theorem dX8_gatherHeads_26 : decode cX8_gatherHeads 26 = .ok (.iload_n 2, 1) := by decide +kernel
theorem dX8_gatherHeads_27 : decode cX8_gatherHeads 27 = .ok (.if_icmp .ne 24, 3) := by decide +kernel
theorem dX8_gatherHeads_30 : decode cX8_gatherHeads 30 = .ok (.aload_n 0, 1) := by decide +kernel
theorem dX8_gatherHeads_31 : decode cX8_gatherHeads 31 = .ok (.getfield 10, 3) := by decide +kernel
theorem dX8_gatherHeads_34 : decode cX8_gatherHeads 34 = .ok (.iload_n 2, 1) := by decide +kernel
theorem dX8_gatherHeads_35 : decode cX8_gatherHeads 35 = .ok (.invokevirtual 237, 3) := by decide +kernel
theorem dX8_gatherHeads_38 : decode cX8_gatherHeads 38 = .ok (.ifCond .ne 13, 3) := by decide +kernel
theorem dX8_gatherHeads_41 : decode cX8_gatherHeads 41 = .ok (.aload_n 0, 1) := by decide +kernel
theorem dX8_gatherHeads_42 : decode cX8_gatherHeads 42 = .ok (.getfield 65, 3) := by decide +kernel
theorem dX8_gatherHeads_45 : decode cX8_gatherHeads 45 = .ok (.iload_n 1, 1) := by decide +kernel
theorem dX8_gatherHeads_46 : decode cX8_gatherHeads 46 = .ok (.iload_n 2, 1) := by decide +kernel
theorem dX8_gatherHeads_47 : decode cX8_gatherHeads 47 = .ok (.iastore, 1) := by decide +kernel
theorem dX8_gatherHeads_48 : decode cX8_gatherHeads 48 = .ok (.iinc 1 1, 3) := by decide +kernel
theorem dX8_gatherHeads_51 : decode cX8_gatherHeads 51 = .ok (.iinc 2 1, 3) := by decide +kernel
theorem dX8_gatherHeads_54 : decode cX8_gatherHeads 54 = .ok (.goto (-50), 3) := by decide +kernel
theorem dX8_gatherHeads_57 : decode cX8_gatherHeads 57 = .ok (.iload_n 1, 1) := by decide +kernel
theorem dX8_gatherHeads_58 : decode cX8_gatherHeads 58 = .ok (.ireturn, 1) := by decide +kernel
abbrev rmX8_gatherHeads : Room := { frames := 1, cells := 0, slots := 0, locals := 21 }
theorem ywX8_gatherHeads : fY yX8_gatherHeads "EqualCourt" cX8_gatherHeads 3 (some .int) 0 := ⟨tw_774, tp_20, tw_1, tw_775, by decide +kernel⟩
set_option maxHeartbeats 4000000 in
set_option maxRecDepth 100000 in
theorem cX8_gatherHeads_ok {D : va_G} {ad : Nat → Nat} {cy cz : ClassId} {l : Launch} {z : fS}  {r : Int32} {τ : fS} (h : fX8_gatherHeads z = some (r, τ)) : fMi D 76 ad (cfX ad cy cz) cy cz l yX8_gatherHeads cX8_gatherHeads 3 (some .int) rmX8_gatherHeads [.ref (ad 0)] z r τ := by
  refine f_bodyi (by decide) (Nat.le_of_ble_eq_true rfl) (fun p e s m args below meth c Q hC hret ls hl hI => ?_)
  have hx := hC.1
  have hb := hC.2.1
  have hl : lv_has ls 3 [(0, .ref (ad 0))] := hl
  unfold fX8_gatherHeads at h
  refine lv_iconst (v := 0) hx hb dX8_gatherHeads_0 (by decide) ?_
  refine lv_istore_n (lv' := [(1, .int (0 : Int32)), (0, .ref (ad 0))]) hx hb dX8_gatherHeads_1 rfl hl (by decide) rfl (fun ls hl => ?_)
  refine lv_iconst (v := 0) hx hb dX8_gatherHeads_2 (by decide) ?_
  refine lv_istore_n (lv' := [(2, .int (0 : Int32)), (1, .int (0 : Int32)), (0, .ref (ad 0))]) hx hb dX8_gatherHeads_3 rfl hl (by decide) rfl (fun ls hl => ?_)
  have w4 : ∀ (N4 : Nat) (v1 : Int32) (v2 : Int32) (z : fS) (H : Heap) (locs : List Loc) (ls : Array Slot), fI D 76 ad (cfX ad cy cz) z s H locs → lv_has ls 3 [(0, .ref (ad 0)), (1, .int v1), (2, .int v2)] → lX8_gatherHeads_4    N4 v1 v2 z = some (r, τ) → W p l e rmX8_gatherHeads s m args below meth c H locs 0 0 Q (F0 m 4 ls []) := by
    intro N4
    induction N4 with
    | zero =>
      intro v1 v2 z H locs ls hI hl h
      exact none_no h
    | succ N4 ih4 =>
      intro v1 v2 z H locs ls hI hl h
      rw [lX8_gatherHeads_4.eq_2] at h
      refine lv_iload_n hx hb dX8_gatherHeads_4 rfl (lv_at hl 2 rfl) ?_
      refine lv_aload_n hx hb dX8_gatherHeads_5 rfl (lv_at hl 0 rfl) ?_
      refine gX8_terms hC hI tw_281 dX8_gatherHeads_6 ?_
      replace h := bp_at h
      obtain ⟨r9, e9, h⟩ := h
      refine r_calli (rest := [.int v2]) hC hI oX_1 (C := "EqualCourt$Terms") rfl ywX7_count tw_333 (cX7_count_ok  e9) ⟨Nat.le_of_ble_eq_true rfl, Nat.le_of_ble_eq_true rfl⟩ ⟨rfl, rfl⟩ rfl hl.1 rfl (Nat.le_of_ble_eq_true rfl) dX8_gatherHeads_9 (fun H locs hI => ?_)
      refine lv_icmp_ge (tgt := 57) hx hb dX8_gatherHeads_12 (by decide) (fun c12 => ?_) (fun c12 => ?_)
      · replace h := if_t h c12
        refine lv_iload_n hx hb dX8_gatherHeads_57 rfl (lv_at hl 1 rfl) ?_
        exact hret h dX8_gatherHeads_58 hI
      · replace h := if_f h c12
        refine lv_aload_n hx hb dX8_gatherHeads_15 rfl (lv_at hl 0 rfl) ?_
        refine gX8_court hC hI tw_283 dX8_gatherHeads_16 ?_
        replace h := bp_at h
        obtain ⟨r19, e19, h⟩ := h
        refine r_callr (rest := []) hC hI oX_17 (C := "EqualCourt$Court") rfl ywX2_standing tw_505 (cX2_standing_ok  e19) ⟨Nat.le_of_ble_eq_true rfl, Nat.le_of_ble_eq_true rfl⟩ ⟨rfl, rfl⟩ rfl hl.1 rfl (Nat.le_of_ble_eq_true rfl) dX8_gatherHeads_19 (fun H locs hI => ?_)
        refine lv_iload_n hx hb dX8_gatherHeads_22 rfl (lv_at hl 2 rfl) ?_
        replace h := bp_at h
        obtain ⟨r23, e23, h⟩ := h
        refine r_calli (rest := []) hC hI (oP (isP_pcell _)) (C := "EqualCourt$Partition") rfl ywX4_headOf tw_665 (cX4_headOf_ok (isP_pcell _) e23) ⟨Nat.le_of_ble_eq_true rfl, Nat.le_of_ble_eq_true rfl⟩ ⟨rfl, rfl⟩ rfl hl.1 rfl (Nat.le_of_ble_eq_true rfl) dX8_gatherHeads_23 (fun H locs hI => ?_)
        refine lv_iload_n hx hb dX8_gatherHeads_26 rfl (lv_at hl 2 rfl) ?_
        refine lv_icmp_ne (tgt := 51) hx hb dX8_gatherHeads_27 (by decide) (fun c27 => ?_) (fun c27 => ?_)
        · replace h := if_f h c27
          obtain ⟨x51, e51⟩ : ∃ y : Int32, y = (v2 + (1 : Int32)) := ⟨_, rfl⟩
          replace h := bnd_at h e51
          refine lv_iinc (v := x51) (lv' := [(2, .int x51), (0, .ref (ad 0)), (1, .int v1)]) hx hb dX8_gatherHeads_51 hl (k := 2) rfl (by rw [e51]; rfl) (by decide) rfl (fun ls hl => ?_)
          refine lv_goto (tgt := 4) hx hb dX8_gatherHeads_54 (by decide) ?_
          exact ih4  v1 x51 z _ _ _ hI (lv_sub hl [1, 2, 0] rfl) h
        · replace h := if_t h c27
          refine lv_aload_n hx hb dX8_gatherHeads_30 rfl (lv_at hl 0 rfl) ?_
          refine gX8_terms hC hI tw_281 dX8_gatherHeads_31 ?_
          refine lv_iload_n hx hb dX8_gatherHeads_34 rfl (lv_at hl 2 rfl) ?_
          replace h := bp_at h
          obtain ⟨r35, e35, h⟩ := h
          refine r_calli (rest := []) hC hI oX_1 (C := "EqualCourt$Terms") rfl ywX7_isHole tw_776 (cX7_isHole_ok  e35) ⟨Nat.le_of_ble_eq_true rfl, Nat.le_of_ble_eq_true rfl⟩ ⟨rfl, rfl⟩ rfl hl.1 rfl (Nat.le_of_ble_eq_true rfl) dX8_gatherHeads_35 (fun H locs hI => ?_)
          refine lv_if_ne (tgt := 51) hx hb dX8_gatherHeads_38 (by decide) (fun c38 => ?_) (fun c38 => ?_)
          · replace h := if_f h c38
            obtain ⟨x51, e51⟩ : ∃ y : Int32, y = (v2 + (1 : Int32)) := ⟨_, rfl⟩
            replace h := bnd_at h e51
            refine lv_iinc (v := x51) (lv' := [(2, .int x51), (0, .ref (ad 0)), (1, .int v1)]) hx hb dX8_gatherHeads_51 hl (k := 2) rfl (by rw [e51]; rfl) (by decide) rfl (fun ls hl => ?_)
            refine lv_goto (tgt := 4) hx hb dX8_gatherHeads_54 (by decide) ?_
            exact ih4  v1 x51 z _ _ _ hI (lv_sub hl [1, 2, 0] rfl) h
          · replace h := if_t h c38
            refine lv_aload_n hx hb dX8_gatherHeads_41 rfl (lv_at hl 0 rfl) ?_
            refine gX8_goneOver hC hI tw_290 dX8_gatherHeads_42 ?_
            refine lv_iload_n hx hb dX8_gatherHeads_45 rfl (lv_at hl 1 rfl) ?_
            refine lv_iload_n hx hb dX8_gatherHeads_46 rfl (lv_at hl 2 rfl) ?_
            have g47 := (gd_at h).1
            replace h := (gd_at h).2
            refine r_iast hC hI aX_75 g47 dX8_gatherHeads_47 (fun z47 H locs e47 hI => ?_)
            replace h := bnd_at h e47
            obtain ⟨x48, e48⟩ : ∃ y : Int32, y = (v1 + (1 : Int32)) := ⟨_, rfl⟩
            replace h := bnd_at h e48
            refine lv_iinc (v := x48) (lv' := [(1, .int x48), (0, .ref (ad 0)), (2, .int v2)]) hx hb dX8_gatherHeads_48 hl (k := 1) rfl (by rw [e48]; rfl) (by decide) rfl (fun ls hl => ?_)
            obtain ⟨x51, e51⟩ : ∃ y : Int32, y = (v2 + (1 : Int32)) := ⟨_, rfl⟩
            replace h := bnd_at h e51
            refine lv_iinc (v := x51) (lv' := [(2, .int x51), (1, .int x48), (0, .ref (ad 0))]) hx hb dX8_gatherHeads_51 hl (k := 2) rfl (by rw [e51]; rfl) (by decide) rfl (fun ls hl => ?_)
            refine lv_goto (tgt := 4) hx hb dX8_gatherHeads_54 (by decide) ?_
            exact ih4  x48 x51 z47 _ _ _ hI (lv_sub hl [2, 1, 0] rfl) h
  exact w4 FU  (0 : Int32) (0 : Int32) z _ _ _ hI (lv_sub hl [2, 1, 0] rfl) h
theorem dX8_applyLaw_0 : decode cX8_applyLaw 0 = .ok (.aload_n 0, 1) := by decide +kernel
theorem dX8_applyLaw_1 : decode cX8_applyLaw 1 = .ok (.aload_n 0, 1) := by decide +kernel
theorem dX8_applyLaw_2 : decode cX8_applyLaw 2 = .ok (.getfield 58, 3) := by decide +kernel
theorem dX8_applyLaw_5 : decode cX8_applyLaw 5 = .ok (.iload_n 1, 1) := by decide +kernel
theorem dX8_applyLaw_6 : decode cX8_applyLaw 6 = .ok (.iaload, 1) := by decide +kernel
theorem dX8_applyLaw_7 : decode cX8_applyLaw 7 = .ok (.iload_n 2, 1) := by decide +kernel
theorem dX8_applyLaw_8 : decode cX8_applyLaw 8 = .ok (.iload_n 3, 1) := by decide +kernel
theorem dX8_applyLaw_9 : decode cX8_applyLaw 9 = .ok (.iload 4, 2) := by decide +kernel
theorem dX8_applyLaw_11 : decode cX8_applyLaw 11 = .ok (.invokevirtual 200, 3) := by decide +kernel
theorem dX8_applyLaw_14 : decode cX8_applyLaw 14 = .ok (.istore 5, 2) := by decide +kernel
theorem dX8_applyLaw_16 : decode cX8_applyLaw 16 = .ok (.iload 5, 2) := by decide +kernel
theorem dX8_applyLaw_18 : decode cX8_applyLaw 18 = .ok (.iconst (-1), 1) := by decide +kernel
theorem dX8_applyLaw_19 : decode cX8_applyLaw 19 = .ok (.if_icmp .ne 5, 3) := by decide +kernel
theorem dX8_applyLaw_22 : decode cX8_applyLaw 22 = .ok (.iconst 2, 1) := by decide +kernel
theorem dX8_applyLaw_23 : decode cX8_applyLaw 23 = .ok (.ireturn, 1) := by decide +kernel
theorem dX8_applyLaw_24 : decode cX8_applyLaw 24 = .ok (.aload_n 0, 1) := by decide +kernel
theorem dX8_applyLaw_25 : decode cX8_applyLaw 25 = .ok (.aload_n 0, 1) := by decide +kernel
theorem dX8_applyLaw_26 : decode cX8_applyLaw 26 = .ok (.getfield 62, 3) := by decide +kernel
theorem dX8_applyLaw_29 : decode cX8_applyLaw 29 = .ok (.iload_n 1, 1) := by decide +kernel
theorem dX8_applyLaw_30 : decode cX8_applyLaw 30 = .ok (.iaload, 1) := by decide +kernel
theorem dX8_applyLaw_31 : decode cX8_applyLaw 31 = .ok (.iload_n 2, 1) := by decide +kernel
theorem dX8_applyLaw_32 : decode cX8_applyLaw 32 = .ok (.iload_n 3, 1) := by decide +kernel
theorem dX8_applyLaw_33 : decode cX8_applyLaw 33 = .ok (.iload 4, 2) := by decide +kernel
theorem dX8_applyLaw_35 : decode cX8_applyLaw 35 = .ok (.invokevirtual 200, 3) := by decide +kernel
theorem dX8_applyLaw_38 : decode cX8_applyLaw 38 = .ok (.istore 6, 2) := by decide +kernel
theorem dX8_applyLaw_40 : decode cX8_applyLaw 40 = .ok (.iload 6, 2) := by decide +kernel
theorem dX8_applyLaw_42 : decode cX8_applyLaw 42 = .ok (.iconst (-1), 1) := by decide +kernel
theorem dX8_applyLaw_43 : decode cX8_applyLaw 43 = .ok (.if_icmp .ne 5, 3) := by decide +kernel
theorem dX8_applyLaw_46 : decode cX8_applyLaw 46 = .ok (.iconst 2, 1) := by decide +kernel
theorem dX8_applyLaw_47 : decode cX8_applyLaw 47 = .ok (.ireturn, 1) := by decide +kernel
theorem dX8_applyLaw_48 : decode cX8_applyLaw 48 = .ok (.aload_n 0, 1) := by decide +kernel
theorem dX8_applyLaw_49 : decode cX8_applyLaw 49 = .ok (.getfield 28, 3) := by decide +kernel
theorem dX8_applyLaw_52 : decode cX8_applyLaw 52 = .ok (.invokevirtual 118, 3) := by decide +kernel
theorem dX8_applyLaw_55 : decode cX8_applyLaw 55 = .ok (.iload 5, 2) := by decide +kernel
theorem dX8_applyLaw_57 : decode cX8_applyLaw 57 = .ok (.iload 6, 2) := by decide +kernel
theorem dX8_applyLaw_59 : decode cX8_applyLaw 59 = .ok (.invokevirtual 146, 3) := by decide +kernel
theorem dX8_applyLaw_62 : decode cX8_applyLaw 62 = .ok (.ifCond .eq 5, 3) := by decide +kernel
theorem dX8_applyLaw_65 : decode cX8_applyLaw 65 = .ok (.iconst 0, 1) := by decide +kernel
theorem dX8_applyLaw_66 : decode cX8_applyLaw 66 = .ok (.ireturn, 1) := by decide +kernel
theorem dX8_applyLaw_67 : decode cX8_applyLaw 67 = .ok (.aload_n 0, 1) := by decide +kernel
theorem dX8_applyLaw_68 : decode cX8_applyLaw 68 = .ok (.getfield 19, 3) := by decide +kernel
theorem dX8_applyLaw_71 : decode cX8_applyLaw 71 = .ok (.invokevirtual 127, 3) := by decide +kernel
theorem dX8_applyLaw_74 : decode cX8_applyLaw 74 = .ok (.ifCond .eq 5, 3) := by decide +kernel
theorem dX8_applyLaw_77 : decode cX8_applyLaw 77 = .ok (.iconst 3, 1) := by decide +kernel
theorem dX8_applyLaw_78 : decode cX8_applyLaw 78 = .ok (.ireturn, 1) := by decide +kernel
theorem dX8_applyLaw_79 : decode cX8_applyLaw 79 = .ok (.aload_n 0, 1) := by decide +kernel
theorem dX8_applyLaw_80 : decode cX8_applyLaw 80 = .ok (.getfield 28, 3) := by decide +kernel
theorem dX8_applyLaw_83 : decode cX8_applyLaw 83 = .ok (.iload 5, 2) := by decide +kernel
theorem dX8_applyLaw_85 : decode cX8_applyLaw 85 = .ok (.iload 6, 2) := by decide +kernel
theorem dX8_applyLaw_87 : decode cX8_applyLaw 87 = .ok (.invokevirtual 131, 3) := by decide +kernel
theorem dX8_applyLaw_90 : decode cX8_applyLaw 90 = .ok (.ifCond .eq 21, 3) := by decide +kernel
theorem dX8_applyLaw_93 : decode cX8_applyLaw 93 = .ok (.aload_n 0, 1) := by decide +kernel
theorem dX8_applyLaw_94 : decode cX8_applyLaw 94 = .ok (.getfield 28, 3) := by decide +kernel
theorem dX8_applyLaw_97 : decode cX8_applyLaw 97 = .ok (.iconst 0, 1) := by decide +kernel
theorem dX8_applyLaw_98 : decode cX8_applyLaw 98 = .ok (.iload 5, 2) := by decide +kernel
theorem dX8_applyLaw_100 : decode cX8_applyLaw 100 = .ok (.iload 6, 2) := by decide +kernel
theorem dX8_applyLaw_102 : decode cX8_applyLaw 102 = .ok (.aload_n 0, 1) := by decide +kernel
theorem dX8_applyLaw_103 : decode cX8_applyLaw 103 = .ok (.getfield 51, 3) := by decide +kernel
theorem dX8_applyLaw_106 : decode cX8_applyLaw 106 = .ok (.invokevirtual 135, 3) := by decide +kernel
theorem dX8_applyLaw_109 : decode cX8_applyLaw 109 = .ok (.iconst 4, 1) := by decide +kernel
theorem dX8_applyLaw_110 : decode cX8_applyLaw 110 = .ok (.ireturn, 1) := by decide +kernel
theorem dX8_applyLaw_111 : decode cX8_applyLaw 111 = .ok (.aload_n 0, 1) := by decide +kernel
theorem dX8_applyLaw_112 : decode cX8_applyLaw 112 = .ok (.getfield 28, 3) := by decide +kernel
theorem dX8_applyLaw_115 : decode cX8_applyLaw 115 = .ok (.invokevirtual 139, 3) := by decide +kernel
theorem dX8_applyLaw_118 : decode cX8_applyLaw 118 = .ok (.aload_n 0, 1) := by decide +kernel
theorem dX8_applyLaw_119 : decode cX8_applyLaw 119 = .ok (.getfield 19, 3) := by decide +kernel
theorem dX8_applyLaw_122 : decode cX8_applyLaw 122 = .ok (.iconst 1, 1) := by decide +kernel
theorem dX8_applyLaw_123 : decode cX8_applyLaw 123 = .ok (.iload 5, 2) := by decide +kernel
theorem dX8_applyLaw_125 : decode cX8_applyLaw 125 = .ok (.iload 6, 2) := by decide +kernel
theorem dX8_applyLaw_127 : decode cX8_applyLaw 127 = .ok (.invokevirtual 142, 3) := by decide +kernel
theorem dX8_applyLaw_130 : decode cX8_applyLaw 130 = .ok (.pop, 1) := by decide +kernel
theorem dX8_applyLaw_131 : decode cX8_applyLaw 131 = .ok (.iconst 0, 1) := by decide +kernel
theorem dX8_applyLaw_132 : decode cX8_applyLaw 132 = .ok (.ireturn, 1) := by decide +kernel
abbrev rmX8_applyLaw : Room := { frames := 6, cells := 0, slots := 0, locals := 162 }
theorem ywX8_applyLaw : fY yX8_applyLaw "EqualCourt" cX8_applyLaw 7 (some .int) 4 := ⟨tw_780, tp_21, tw_1, tw_781, by decide +kernel⟩
set_option maxHeartbeats 4000000 in
set_option maxRecDepth 100000 in
theorem cX8_applyLaw_ok {D : va_G} {ad : Nat → Nat} {cy cz : ClassId} {l : Launch} {z : fS} {v1 : Int32} {v2 : Int32} {v3 : Int32} {v4 : Int32} {r : Int32} {τ : fS} (h : fX8_applyLaw z v1 v2 v3 v4 = some (r, τ)) : fMi D 76 ad (cfX ad cy cz) cy cz l yX8_applyLaw cX8_applyLaw 7 (some .int) rmX8_applyLaw [.ref (ad 0), .int v1, .int v2, .int v3, .int v4] z r τ := by
  refine f_bodyi (by decide) (Nat.le_of_ble_eq_true rfl) (fun p e s m args below meth c Q hC hret ls hl hI => ?_)
  have hx := hC.1
  have hb := hC.2.1
  have hl : lv_has ls 7 [(0, .ref (ad 0)), (1, .int v1), (2, .int v2), (3, .int v3), (4, .int v4)] := hl
  unfold fX8_applyLaw at h
  refine lv_aload_n hx hb dX8_applyLaw_0 rfl (lv_at hl 0 rfl) ?_
  refine lv_aload_n hx hb dX8_applyLaw_1 rfl (lv_at hl 0 rfl) ?_
  refine gX8_lawLefts hC hI tw_288 dX8_applyLaw_2 ?_
  refine lv_iload_n hx hb dX8_applyLaw_5 rfl (lv_at hl 1 rfl) ?_
  have g6 := (gd_at h).1
  replace h := (gd_at h).2
  refine r_iald hC hI aX_73 g6 dX8_applyLaw_6 ?_
  refine lv_iload_n hx hb dX8_applyLaw_7 rfl (lv_at hl 2 rfl) ?_
  refine lv_iload_n hx hb dX8_applyLaw_8 rfl (lv_at hl 3 rfl) ?_
  refine lv_iload hx hb dX8_applyLaw_9 (lv_at hl 4 rfl) ?_
  replace h := bd_at h
  obtain ⟨r11, z11, e11, h⟩ := h
  refine r_calli (rest := []) hC hI oX_0 (C := "EqualCourt") rfl ywX8_madeInstance tw_728 (cX8_madeInstance_ok  e11) ⟨Nat.le_of_ble_eq_true rfl, Nat.le_of_ble_eq_true rfl⟩ ⟨rfl, rfl⟩ rfl hl.1 rfl (Nat.le_of_ble_eq_true rfl) dX8_applyLaw_11 (fun H locs hI => ?_)
  refine lv_istore (lv' := [(5, .int r11), (0, .ref (ad 0)), (1, .int v1), (2, .int v2), (3, .int v3), (4, .int v4)]) hx hb dX8_applyLaw_14 hl (by decide) rfl (fun ls hl => ?_)
  refine lv_iload hx hb dX8_applyLaw_16 (lv_at hl 0 rfl) ?_
  refine lv_iconst (v := -1) hx hb dX8_applyLaw_18 (by decide) ?_
  refine lv_icmp_ne (tgt := 24) hx hb dX8_applyLaw_19 (by decide) (fun c19 => ?_) (fun c19 => ?_)
  · replace h := if_f h c19
    refine lv_aload_n hx hb dX8_applyLaw_24 rfl (lv_at hl 1 rfl) ?_
    refine lv_aload_n hx hb dX8_applyLaw_25 rfl (lv_at hl 1 rfl) ?_
    refine gX8_lawRights hC hI tw_289 dX8_applyLaw_26 ?_
    refine lv_iload_n hx hb dX8_applyLaw_29 rfl (lv_at hl 2 rfl) ?_
    have g30 := (gd_at h).1
    replace h := (gd_at h).2
    refine r_iald hC hI aX_74 g30 dX8_applyLaw_30 ?_
    refine lv_iload_n hx hb dX8_applyLaw_31 rfl (lv_at hl 3 rfl) ?_
    refine lv_iload_n hx hb dX8_applyLaw_32 rfl (lv_at hl 4 rfl) ?_
    refine lv_iload hx hb dX8_applyLaw_33 (lv_at hl 5 rfl) ?_
    replace h := bd_at h
    obtain ⟨r35, z35, e35, h⟩ := h
    refine r_calli (rest := []) hC hI oX_0 (C := "EqualCourt") rfl ywX8_madeInstance tw_728 (cX8_madeInstance_ok  e35) ⟨Nat.le_of_ble_eq_true rfl, Nat.le_of_ble_eq_true rfl⟩ ⟨rfl, rfl⟩ rfl hl.1 rfl (Nat.le_of_ble_eq_true rfl) dX8_applyLaw_35 (fun H locs hI => ?_)
    refine lv_istore (lv' := [(6, .int r35), (5, .int r11), (0, .ref (ad 0)), (1, .int v1), (2, .int v2), (3, .int v3), (4, .int v4)]) hx hb dX8_applyLaw_38 hl (by decide) rfl (fun ls hl => ?_)
    refine lv_iload hx hb dX8_applyLaw_40 (lv_at hl 0 rfl) ?_
    refine lv_iconst (v := -1) hx hb dX8_applyLaw_42 (by decide) ?_
    refine lv_icmp_ne (tgt := 48) hx hb dX8_applyLaw_43 (by decide) (fun c43 => ?_) (fun c43 => ?_)
    · replace h := if_f h c43
      refine lv_aload_n hx hb dX8_applyLaw_48 rfl (lv_at hl 2 rfl) ?_
      refine gX8_court hC hI tw_283 dX8_applyLaw_49 ?_
      replace h := bp_at h
      obtain ⟨r52, e52, h⟩ := h
      refine r_callr (rest := []) hC hI oX_17 (C := "EqualCourt$Court") rfl ywX2_standing tw_505 (cX2_standing_ok  e52) ⟨Nat.le_of_ble_eq_true rfl, Nat.le_of_ble_eq_true rfl⟩ ⟨rfl, rfl⟩ rfl hl.1 rfl (Nat.le_of_ble_eq_true rfl) dX8_applyLaw_52 (fun H locs hI => ?_)
      refine lv_iload hx hb dX8_applyLaw_55 (lv_at hl 1 rfl) ?_
      refine lv_iload hx hb dX8_applyLaw_57 (lv_at hl 0 rfl) ?_
      replace h := bp_at h
      obtain ⟨r59, e59, h⟩ := h
      refine r_calli (rest := []) hC hI (oP (isP_pcell _)) (C := "EqualCourt$Partition") rfl ywX4_isOne tw_598 (cX4_isOne_ok (isP_pcell _) e59) ⟨Nat.le_of_ble_eq_true rfl, Nat.le_of_ble_eq_true rfl⟩ ⟨rfl, rfl⟩ rfl hl.1 rfl (Nat.le_of_ble_eq_true rfl) dX8_applyLaw_59 (fun H locs hI => ?_)
      refine lv_if_eq (tgt := 67) hx hb dX8_applyLaw_62 (by decide) (fun c62 => ?_) (fun c62 => ?_)
      · replace h := if_t h c62
        refine lv_aload_n hx hb dX8_applyLaw_67 rfl (lv_at hl 2 rfl) ?_
        refine gX8_sayings hC hI tw_282 dX8_applyLaw_68 ?_
        replace h := bp_at h
        obtain ⟨r71, e71, h⟩ := h
        refine r_calli (rest := []) hC hI oX_11 (C := "EqualCourt$Sayings") rfl ywX5_isFull tw_517 (cX5_isFull_ok  e71) ⟨Nat.le_of_ble_eq_true rfl, Nat.le_of_ble_eq_true rfl⟩ ⟨rfl, rfl⟩ rfl hl.1 rfl (Nat.le_of_ble_eq_true rfl) dX8_applyLaw_71 (fun H locs hI => ?_)
        refine lv_if_eq (tgt := 79) hx hb dX8_applyLaw_74 (by decide) (fun c74 => ?_) (fun c74 => ?_)
        · replace h := if_t h c74
          refine lv_aload_n hx hb dX8_applyLaw_79 rfl (lv_at hl 2 rfl) ?_
          refine gX8_court hC hI tw_283 dX8_applyLaw_80 ?_
          refine lv_iload hx hb dX8_applyLaw_83 (lv_at hl 1 rfl) ?_
          refine lv_iload hx hb dX8_applyLaw_85 (lv_at hl 0 rfl) ?_
          replace h := bd_at h
          obtain ⟨r87, z87, e87, h⟩ := h
          refine r_calli (rest := []) hC hI oX_17 (C := "EqualCourt$Court") rfl ywX2_wouldClash tw_521 (cX2_wouldClash_ok  e87) ⟨Nat.le_of_ble_eq_true rfl, Nat.le_of_ble_eq_true rfl⟩ ⟨rfl, rfl⟩ rfl hl.1 rfl (Nat.le_of_ble_eq_true rfl) dX8_applyLaw_87 (fun H locs hI => ?_)
          refine lv_if_eq (tgt := 111) hx hb dX8_applyLaw_90 (by decide) (fun c90 => ?_) (fun c90 => ?_)
          · replace h := if_t h c90
            refine lv_aload_n hx hb dX8_applyLaw_111 rfl (lv_at hl 2 rfl) ?_
            refine gX8_court hC hI tw_283 dX8_applyLaw_112 ?_
            replace h := bp_at h
            obtain ⟨z115, e115, h⟩ := h
            refine r_callv (rest := []) hC hI oX_17 (C := "EqualCourt$Court") rfl ywX2_acceptTrial tw_586 (cX2_acceptTrial_ok  e115) ⟨Nat.le_of_ble_eq_true rfl, Nat.le_of_ble_eq_true rfl⟩ ⟨rfl, rfl⟩ rfl hl.1 rfl (Nat.le_of_ble_eq_true rfl) dX8_applyLaw_115 (fun H locs hI => ?_)
            refine lv_aload_n hx hb dX8_applyLaw_118 rfl (lv_at hl 2 rfl) ?_
            refine gX8_sayings hC hI tw_282 dX8_applyLaw_119 ?_
            refine lv_iconst (v := 1) hx hb dX8_applyLaw_122 (by decide) ?_
            refine lv_iload hx hb dX8_applyLaw_123 (lv_at hl 1 rfl) ?_
            refine lv_iload hx hb dX8_applyLaw_125 (lv_at hl 0 rfl) ?_
            replace h := bd_at h
            obtain ⟨r127, z127, e127, h⟩ := h
            refine r_calli (rest := []) hC hI oX_11 (C := "EqualCourt$Sayings") rfl ywX5_add tw_590 (cX5_add_ok  e127) ⟨Nat.le_of_ble_eq_true rfl, Nat.le_of_ble_eq_true rfl⟩ ⟨rfl, rfl⟩ rfl hl.1 rfl (Nat.le_of_ble_eq_true rfl) dX8_applyLaw_127 (fun H locs hI => ?_)
            refine lv_pop hx hb dX8_applyLaw_130 rfl ?_
            refine lv_iconst (v := 0) hx hb dX8_applyLaw_131 (by decide) ?_
            exact hret h dX8_applyLaw_132 hI
          · replace h := if_f h c90
            refine lv_aload_n hx hb dX8_applyLaw_93 rfl (lv_at hl 2 rfl) ?_
            refine gX8_court hC hI tw_283 dX8_applyLaw_94 ?_
            refine lv_iconst (v := 0) hx hb dX8_applyLaw_97 (by decide) ?_
            refine lv_iload hx hb dX8_applyLaw_98 (lv_at hl 1 rfl) ?_
            refine lv_iload hx hb dX8_applyLaw_100 (lv_at hl 0 rfl) ?_
            refine lv_aload_n hx hb dX8_applyLaw_102 rfl (lv_at hl 2 rfl) ?_
            refine gX8_clashCore hC hI tw_286 dX8_applyLaw_103 ?_
            replace h := bp_at h
            obtain ⟨z106, e106, h⟩ := h
            refine r_callv (rest := []) hC hI oX_17 (C := "EqualCourt$Court") rfl ywX2_thin tw_558 (cX2_thin_ok isK_69 e106) ⟨Nat.le_of_ble_eq_true rfl, Nat.le_of_ble_eq_true rfl⟩ ⟨rfl, rfl⟩ rfl hl.1 rfl (Nat.le_of_ble_eq_true rfl) dX8_applyLaw_106 (fun H locs hI => ?_)
            refine lv_iconst (v := 4) hx hb dX8_applyLaw_109 (by decide) ?_
            exact hret h dX8_applyLaw_110 hI
        · replace h := if_f h c74
          refine lv_iconst (v := 3) hx hb dX8_applyLaw_77 (by decide) ?_
          exact hret h dX8_applyLaw_78 hI
      · replace h := if_f h c62
        refine lv_iconst (v := 0) hx hb dX8_applyLaw_65 (by decide) ?_
        exact hret h dX8_applyLaw_66 hI
    · replace h := if_t h c43
      refine lv_iconst (v := 2) hx hb dX8_applyLaw_46 (by decide) ?_
      exact hret h dX8_applyLaw_47 hI
  · replace h := if_t h c19
    refine lv_iconst (v := 2) hx hb dX8_applyLaw_22 (by decide) ?_
    exact hret h dX8_applyLaw_23 hI
theorem dX8_follow_0 : decode cX8_follow 0 = .ok (.iload_n 1, 1) := by decide +kernel
theorem dX8_follow_1 : decode cX8_follow 1 = .ok (.ifCond .lt 22, 3) := by decide +kernel
theorem dX8_follow_4 : decode cX8_follow 4 = .ok (.iload_n 1, 1) := by decide +kernel
theorem dX8_follow_5 : decode cX8_follow 5 = .ok (.aload_n 0, 1) := by decide +kernel
theorem dX8_follow_6 : decode cX8_follow 6 = .ok (.getfield 68, 3) := by decide +kernel
theorem dX8_follow_9 : decode cX8_follow 9 = .ok (.if_icmp .ge 14, 3) := by decide +kernel
theorem dX8_follow_12 : decode cX8_follow 12 = .ok (.iload_n 2, 1) := by decide +kernel
theorem dX8_follow_13 : decode cX8_follow 13 = .ok (.iconst 1, 1) := by decide +kernel
theorem dX8_follow_14 : decode cX8_follow 14 = .ok (.if_icmp .lt 9, 3) := by decide +kernel
theorem dX8_follow_17 : decode cX8_follow 17 = .ok (.iload_n 2, 1) := by decide +kernel
theorem dX8_follow_18 : decode cX8_follow 18 = .ok (.bipush 50, 2) := by decide +kernel
theorem dX8_follow_20 : decode cX8_follow 20 = .ok (.if_icmp .le 9, 3) := by decide +kernel
theorem dX8_follow_23 : decode cX8_follow 23 = .ok (.aload_n 0, 1) := by decide +kernel
theorem dX8_follow_24 : decode cX8_follow 24 = .ok (.iconst 1, 1) := by decide +kernel
theorem dX8_follow_25 : decode cX8_follow 25 = .ok (.invokevirtual 78, 3) := by decide +kernel
theorem dX8_follow_28 : decode cX8_follow 28 = .ok (.ireturn, 1) := by decide +kernel
theorem dX8_follow_29 : decode cX8_follow 29 = .ok (.aload_n 0, 1) := by decide +kernel
theorem dX8_follow_30 : decode cX8_follow 30 = .ok (.invokevirtual 204, 3) := by decide +kernel
theorem dX8_follow_33 : decode cX8_follow 33 = .ok (.istore_n 3, 1) := by decide +kernel
theorem dX8_follow_34 : decode cX8_follow 34 = .ok (.iload_n 3, 1) := by decide +kernel
theorem dX8_follow_35 : decode cX8_follow 35 = .ok (.ifCond .ne 10, 3) := by decide +kernel
theorem dX8_follow_38 : decode cX8_follow 38 = .ok (.aload_n 0, 1) := by decide +kernel
theorem dX8_follow_39 : decode cX8_follow 39 = .ok (.bipush 6, 2) := by decide +kernel
theorem dX8_follow_41 : decode cX8_follow 41 = .ok (.invokevirtual 78, 3) := by decide +kernel
theorem dX8_follow_44 : decode cX8_follow 44 = .ok (.ireturn, 1) := by decide +kernel
theorem dX8_follow_45 : decode cX8_follow 45 = .ok (.aload_n 0, 1) := by decide +kernel
theorem dX8_follow_46 : decode cX8_follow 46 = .ok (.getfield 10, 3) := by decide +kernel
theorem dX8_follow_49 : decode cX8_follow 49 = .ok (.aload_n 0, 1) := by decide +kernel
theorem dX8_follow_50 : decode cX8_follow 50 = .ok (.getfield 58, 3) := by decide +kernel
theorem dX8_follow_53 : decode cX8_follow 53 = .ok (.iload_n 1, 1) := by decide +kernel
theorem dX8_follow_54 : decode cX8_follow 54 = .ok (.iaload, 1) := by decide +kernel
theorem dX8_follow_55 : decode cX8_follow 55 = .ok (.invokevirtual 207, 3) := by decide +kernel
theorem dX8_follow_58 : decode cX8_follow 58 = .ok (.aload_n 0, 1) := by decide +kernel
theorem dX8_follow_59 : decode cX8_follow 59 = .ok (.getfield 10, 3) := by decide +kernel
theorem dX8_follow_62 : decode cX8_follow 62 = .ok (.aload_n 0, 1) := by decide +kernel
theorem dX8_follow_63 : decode cX8_follow 63 = .ok (.getfield 62, 3) := by decide +kernel
theorem dX8_follow_66 : decode cX8_follow 66 = .ok (.iload_n 1, 1) := by decide +kernel
theorem dX8_follow_67 : decode cX8_follow 67 = .ok (.iaload, 1) := by decide +kernel
theorem dX8_follow_68 : decode cX8_follow 68 = .ok (.invokevirtual 207, 3) := by decide +kernel
theorem dX8_follow_71 : decode cX8_follow 71 = .ok (.ior, 1) := by decide +kernel
theorem dX8_follow_72 : decode cX8_follow 72 = .ok (.istore 4, 2) := by decide +kernel
theorem dX8_follow_74 : decode cX8_follow 74 = .ok (.iload 4, 2) := by decide +kernel
theorem dX8_follow_76 : decode cX8_follow 76 = .ok (.iconst 1, 1) := by decide +kernel
theorem dX8_follow_77 : decode cX8_follow 77 = .ok (.iand, 1) := by decide +kernel
theorem dX8_follow_78 : decode cX8_follow 78 = .ok (.ifCond .eq 7, 3) := by decide +kernel
theorem dX8_follow_81 : decode cX8_follow 81 = .ok (.iload_n 3, 1) := by decide +kernel
theorem dX8_follow_82 : decode cX8_follow 82 = .ok (.goto 4, 3) := by decide +kernel
theorem dX8_follow_85 : decode cX8_follow 85 = .ok (.iconst 1, 1) := by decide +kernel
theorem dX8_follow_86 : decode cX8_follow 86 = .ok (.istore 5, 2) := by decide +kernel
theorem dX8_follow_88 : decode cX8_follow 88 = .ok (.iload 4, 2) := by decide +kernel
theorem dX8_follow_90 : decode cX8_follow 90 = .ok (.iconst 2, 1) := by decide +kernel
theorem dX8_follow_91 : decode cX8_follow 91 = .ok (.iand, 1) := by decide +kernel
theorem dX8_follow_92 : decode cX8_follow 92 = .ok (.ifCond .eq 7, 3) := by decide +kernel
theorem dX8_follow_95 : decode cX8_follow 95 = .ok (.iload_n 3, 1) := by decide +kernel
theorem dX8_follow_96 : decode cX8_follow 96 = .ok (.goto 4, 3) := by decide +kernel
theorem dX8_follow_99 : decode cX8_follow 99 = .ok (.iconst 1, 1) := by decide +kernel
theorem dX8_follow_100 : decode cX8_follow 100 = .ok (.istore 6, 2) := by decide +kernel
theorem dX8_follow_102 : decode cX8_follow 102 = .ok (.iload 4, 2) := by decide +kernel
theorem dX8_follow_104 : decode cX8_follow 104 = .ok (.iconst 4, 1) := by decide +kernel
theorem dX8_follow_105 : decode cX8_follow 105 = .ok (.iand, 1) := by decide +kernel
theorem dX8_follow_106 : decode cX8_follow 106 = .ok (.ifCond .eq 7, 3) := by decide +kernel
theorem dX8_follow_109 : decode cX8_follow 109 = .ok (.iload_n 3, 1) := by decide +kernel
theorem dX8_follow_110 : decode cX8_follow 110 = .ok (.goto 4, 3) := by decide +kernel
theorem dX8_follow_113 : decode cX8_follow 113 = .ok (.iconst 1, 1) := by decide +kernel
theorem dX8_follow_114 : decode cX8_follow 114 = .ok (.istore 7, 2) := by decide +kernel
theorem dX8_follow_116 : decode cX8_follow 116 = .ok (.aload_n 0, 1) := by decide +kernel
theorem dX8_follow_117 : decode cX8_follow 117 = .ok (.getfield 19, 3) := by decide +kernel
theorem dX8_follow_120 : decode cX8_follow 120 = .ok (.invokevirtual 110, 3) := by decide +kernel
theorem dX8_follow_123 : decode cX8_follow 123 = .ok (.istore 8, 2) := by decide +kernel
theorem dX8_follow_125 : decode cX8_follow 125 = .ok (.iconst 0, 1) := by decide +kernel
theorem dX8_follow_126 : decode cX8_follow 126 = .ok (.istore 9, 2) := by decide +kernel
theorem dX8_follow_128 : decode cX8_follow 128 = .ok (.iconst 0, 1) := by decide +kernel
theorem dX8_follow_129 : decode cX8_follow 129 = .ok (.istore 10, 2) := by decide +kernel
theorem dX8_follow_131 : decode cX8_follow 131 = .ok (.iload 10, 2) := by decide +kernel
theorem dX8_follow_133 : decode cX8_follow 133 = .ok (.iload 5, 2) := by decide +kernel
theorem dX8_follow_135 : decode cX8_follow 135 = .ok (.if_icmp .ge 106, 3) := by decide +kernel
theorem dX8_follow_138 : decode cX8_follow 138 = .ok (.iload 9, 2) := by decide +kernel
theorem dX8_follow_140 : decode cX8_follow 140 = .ok (.ifCond .ne 101, 3) := by decide +kernel
theorem dX8_follow_143 : decode cX8_follow 143 = .ok (.iconst 0, 1) := by decide +kernel
theorem dX8_follow_144 : decode cX8_follow 144 = .ok (.istore 11, 2) := by decide +kernel
theorem dX8_follow_146 : decode cX8_follow 146 = .ok (.iload 11, 2) := by decide +kernel
theorem dX8_follow_148 : decode cX8_follow 148 = .ok (.iload 6, 2) := by decide +kernel
theorem dX8_follow_150 : decode cX8_follow 150 = .ok (.if_icmp .ge 85, 3) := by decide +kernel
theorem dX8_follow_153 : decode cX8_follow 153 = .ok (.iload 9, 2) := by decide +kernel
theorem dX8_follow_155 : decode cX8_follow 155 = .ok (.ifCond .ne 80, 3) := by decide +kernel
theorem dX8_follow_158 : decode cX8_follow 158 = .ok (.iconst 0, 1) := by decide +kernel
theorem dX8_follow_159 : decode cX8_follow 159 = .ok (.istore 12, 2) := by decide +kernel
theorem dX8_follow_161 : decode cX8_follow 161 = .ok (.iload 12, 2) := by decide +kernel
theorem dX8_follow_163 : decode cX8_follow 163 = .ok (.iload 7, 2) := by decide +kernel
theorem dX8_follow_165 : decode cX8_follow 165 = .ok (.if_icmp .ge 64, 3) := by decide +kernel
theorem dX8_follow_168 : decode cX8_follow 168 = .ok (.iload 9, 2) := by decide +kernel
theorem dX8_follow_170 : decode cX8_follow 170 = .ok (.ifCond .ne 59, 3) := by decide +kernel
theorem dX8_follow_173 : decode cX8_follow 173 = .ok (.aload_n 0, 1) := by decide +kernel
theorem dX8_follow_174 : decode cX8_follow 174 = .ok (.iload_n 1, 1) := by decide +kernel
theorem dX8_follow_175 : decode cX8_follow 175 = .ok (.aload_n 0, 1) := by decide +kernel
theorem dX8_follow_176 : decode cX8_follow 176 = .ok (.getfield 65, 3) := by decide +kernel
theorem dX8_follow_179 : decode cX8_follow 179 = .ok (.iload 10, 2) := by decide +kernel
theorem dX8_follow_181 : decode cX8_follow 181 = .ok (.iaload, 1) := by decide +kernel
theorem dX8_follow_182 : decode cX8_follow 182 = .ok (.aload_n 0, 1) := by decide +kernel
theorem dX8_follow_183 : decode cX8_follow 183 = .ok (.getfield 65, 3) := by decide +kernel
theorem dX8_follow_186 : decode cX8_follow 186 = .ok (.iload 11, 2) := by decide +kernel
theorem dX8_follow_188 : decode cX8_follow 188 = .ok (.iaload, 1) := by decide +kernel
theorem dX8_follow_189 : decode cX8_follow 189 = .ok (.aload_n 0, 1) := by decide +kernel
theorem dX8_follow_190 : decode cX8_follow 190 = .ok (.getfield 65, 3) := by decide +kernel
theorem dX8_follow_193 : decode cX8_follow 193 = .ok (.iload 12, 2) := by decide +kernel
theorem dX8_follow_195 : decode cX8_follow 195 = .ok (.iaload, 1) := by decide +kernel
theorem dX8_follow_196 : decode cX8_follow 196 = .ok (.invokevirtual 210, 3) := by decide +kernel
theorem dX8_follow_199 : decode cX8_follow 199 = .ok (.istore 9, 2) := by decide +kernel
theorem dX8_follow_201 : decode cX8_follow 201 = .ok (.iload 9, 2) := by decide +kernel
theorem dX8_follow_203 : decode cX8_follow 203 = .ok (.ifCond .ne 20, 3) := by decide +kernel
theorem dX8_follow_206 : decode cX8_follow 206 = .ok (.aload_n 0, 1) := by decide +kernel
theorem dX8_follow_207 : decode cX8_follow 207 = .ok (.getfield 19, 3) := by decide +kernel
theorem dX8_follow_210 : decode cX8_follow 210 = .ok (.invokevirtual 110, 3) := by decide +kernel
theorem dX8_follow_213 : decode cX8_follow 213 = .ok (.iload 8, 2) := by decide +kernel
theorem dX8_follow_215 : decode cX8_follow 215 = .ok (.isub, 1) := by decide +kernel
theorem dX8_follow_216 : decode cX8_follow 216 = .ok (.iload_n 2, 1) := by decide +kernel
theorem dX8_follow_217 : decode cX8_follow 217 = .ok (.if_icmp .lt 6, 3) := by decide +kernel
theorem dX8_follow_220 : decode cX8_follow 220 = .ok (.iconst 1, 1) := by decide +kernel
theorem dX8_follow_221 : decode cX8_follow 221 = .ok (.istore 9, 2) := by decide +kernel
theorem dX8_follow_223 : decode cX8_follow 223 = .ok (.iinc 12 1, 3) := by decide +kernel
theorem dX8_follow_226 : decode cX8_follow 226 = .ok (.goto (-65), 3) := by decide +kernel
theorem dX8_follow_229 : decode cX8_follow 229 = .ok (.iinc 11 1, 3) := by decide +kernel
theorem dX8_follow_232 : decode cX8_follow 232 = .ok (.goto (-86), 3) := by decide +kernel
theorem dX8_follow_235 : decode cX8_follow 235 = .ok (.iinc 10 1, 3) := by decide +kernel
theorem dX8_follow_238 : decode cX8_follow 238 = .ok (.goto (-107), 3) := by decide +kernel
theorem dX8_follow_241 : decode cX8_follow 241 = .ok (.aload_n 0, 1) := by decide +kernel
theorem dX8_follow_242 : decode cX8_follow 242 = .ok (.iload 9, 2) := by decide +kernel
theorem dX8_follow_244 : decode cX8_follow 244 = .ok (.putfield 72, 3) := by decide +kernel
theorem dX8_follow_247 : decode cX8_follow 247 = .ok (.aload_n 0, 1) := by decide +kernel
theorem dX8_follow_248 : decode cX8_follow 248 = .ok (.aload_n 0, 1) := by decide +kernel
theorem dX8_follow_249 : decode cX8_follow 249 = .ok (.getfield 19, 3) := by decide +kernel
theorem dX8_follow_252 : decode cX8_follow 252 = .ok (.invokevirtual 110, 3) := by decide +kernel
theorem dX8_follow_255 : decode cX8_follow 255 = .ok (.iload 8, 2) := by decide +kernel
theorem dX8_follow_257 : decode cX8_follow 257 = .ok (.isub, 1) := by decide +kernel
theorem dX8_follow_258 : decode cX8_follow 258 = .ok (.invokevirtual 100, 3) := by decide +kernel
theorem dX8_follow_261 : decode cX8_follow 261 = .ok (.ireturn, 1) := by decide +kernel
abbrev rmX8_follow : Room := { frames := 7, cells := 0, slots := 0, locals := 188 }
theorem ywX8_follow : fY yX8_follow "EqualCourt" cX8_follow 13 (some .int) 2 := ⟨tw_769, tw_770, tw_1, tw_771, by decide +kernel⟩
set_option maxHeartbeats 4000000 in
set_option maxRecDepth 100000 in
theorem cX8_follow_ok {D : va_G} {ad : Nat → Nat} {cy cz : ClassId} {l : Launch} {z : fS} {v1 : Int32} {v2 : Int32} {r : Int32} {τ : fS} (h : fX8_follow z v1 v2 = some (r, τ)) : fMi D 76 ad (cfX ad cy cz) cy cz l yX8_follow cX8_follow 13 (some .int) rmX8_follow [.ref (ad 0), .int v1, .int v2] z r τ := by
  refine f_bodyi (by decide) (Nat.le_of_ble_eq_true rfl) (fun p e s m args below meth c Q hC hret ls hl hI => ?_)
  have hx := hC.1
  have hb := hC.2.1
  have hl : lv_has ls 13 [(0, .ref (ad 0)), (1, .int v1), (2, .int v2)] := hl
  unfold fX8_follow at h
  have w114 : ∀ (v1 : Int32) (v2 : Int32) (v5 : Int32) (v6 : Int32) (y0 : Int32) (z : fS) (H : Heap) (locs : List Loc) (ls : Array Slot), fI D 76 ad (cfX ad cy cz) z s H locs → lv_has ls 13 [(0, .ref (ad 0)), (1, .int v1), (2, .int v2), (5, .int v5), (6, .int v6)] → jX8_follow_114   v1 v2 v5 v6 y0 z = some (r, τ) → W p l e rmX8_follow s m args below meth c H locs 0 0 Q (F0 m 114 ls [.int y0]) := by
    intro v1 v2 v5 v6 y0 z H locs ls hI hl h
    unfold jX8_follow_114 at h
    refine lv_istore (lv' := [(7, .int y0), (0, .ref (ad 0)), (1, .int v1), (2, .int v2), (5, .int v5), (6, .int v6)]) hx hb dX8_follow_114 hl (by decide) rfl (fun ls hl => ?_)
    refine lv_aload_n hx hb dX8_follow_116 rfl (lv_at hl 1 rfl) ?_
    refine gX8_sayings hC hI tw_282 dX8_follow_117 ?_
    replace h := bp_at h
    obtain ⟨r120, e120, h⟩ := h
    refine r_calli (rest := []) hC hI oX_11 (C := "EqualCourt$Sayings") rfl ywX5_count tw_489 (cX5_count_ok  e120) ⟨Nat.le_of_ble_eq_true rfl, Nat.le_of_ble_eq_true rfl⟩ ⟨rfl, rfl⟩ rfl hl.1 rfl (Nat.le_of_ble_eq_true rfl) dX8_follow_120 (fun H locs hI => ?_)
    refine lv_istore (lv' := [(8, .int r120), (7, .int y0), (0, .ref (ad 0)), (1, .int v1), (2, .int v2), (5, .int v5), (6, .int v6)]) hx hb dX8_follow_123 hl (by decide) rfl (fun ls hl => ?_)
    refine lv_iconst (v := 0) hx hb dX8_follow_125 (by decide) ?_
    refine lv_istore (lv' := [(9, .int (0 : Int32)), (8, .int r120), (7, .int y0), (0, .ref (ad 0)), (1, .int v1), (2, .int v2), (5, .int v5), (6, .int v6)]) hx hb dX8_follow_126 hl (by decide) rfl (fun ls hl => ?_)
    refine lv_iconst (v := 0) hx hb dX8_follow_128 (by decide) ?_
    refine lv_istore (lv' := [(10, .int (0 : Int32)), (9, .int (0 : Int32)), (8, .int r120), (7, .int y0), (0, .ref (ad 0)), (1, .int v1), (2, .int v2), (5, .int v5), (6, .int v6)]) hx hb dX8_follow_129 hl (by decide) rfl (fun ls hl => ?_)
    have w131 : ∀ (N131 : Nat) (v1 : Int32) (v2 : Int32) (v5 : Int32) (v6 : Int32) (v7 : Int32) (v8 : Int32) (v9 : Int32) (v10 : Int32) (z : fS) (H : Heap) (locs : List Loc) (ls : Array Slot), fI D 76 ad (cfX ad cy cz) z s H locs → lv_has ls 13 [(0, .ref (ad 0)), (1, .int v1), (2, .int v2), (5, .int v5), (6, .int v6), (7, .int v7), (8, .int v8), (9, .int v9), (10, .int v10)] → lX8_follow_131   v1 v2 v5 v6 v7 v8 N131 v9 v10 z = some (r, τ) → W p l e rmX8_follow s m args below meth c H locs 0 0 Q (F0 m 131 ls []) := by
      intro N131
      induction N131 with
      | zero =>
        intro v1 v2 v5 v6 v7 v8 v9 v10 z H locs ls hI hl h
        exact none_no h
      | succ N131 ih131 =>
        have w235 : ∀ (v1 : Int32) (v2 : Int32) (v5 : Int32) (v6 : Int32) (v7 : Int32) (v8 : Int32) (v10 : Int32) (v9 : Int32) (z : fS) (H : Heap) (locs : List Loc) (ls : Array Slot), fI D 76 ad (cfX ad cy cz) z s H locs → lv_has ls 13 [(0, .ref (ad 0)), (1, .int v1), (2, .int v2), (5, .int v5), (6, .int v6), (7, .int v7), (8, .int v8), (9, .int v9), (10, .int v10)] → jX8_follow_235  (lX8_follow_131   v1 v2 v5 v6 v7 v8 N131) v1 v2 v5 v6 v7 v8 v10 v9 z = some (r, τ) → W p l e rmX8_follow s m args below meth c H locs 0 0 Q (F0 m 235 ls []) := by
          intro v1 v2 v5 v6 v7 v8 v10 v9 z H locs ls hI hl h
          unfold jX8_follow_235 at h
          obtain ⟨x235, e235⟩ : ∃ y : Int32, y = (v10 + (1 : Int32)) := ⟨_, rfl⟩
          replace h := bnd_at h e235
          refine lv_iinc (v := x235) (lv' := [(10, .int x235), (0, .ref (ad 0)), (1, .int v1), (2, .int v2), (5, .int v5), (6, .int v6), (7, .int v7), (8, .int v8), (9, .int v9)]) hx hb dX8_follow_235 hl (k := 8) rfl (by rw [e235]; rfl) (by decide) rfl (fun ls hl => ?_)
          refine lv_goto (tgt := 131) hx hb dX8_follow_238 (by decide) ?_
          exact ih131 v1 v2 v5 v6 v7 v8 v9 x235 z _ _ _ hI (lv_sub hl [1, 2, 3, 4, 5, 6, 7, 8, 0] rfl) h
        intro v1 v2 v5 v6 v7 v8 v9 v10 z H locs ls hI hl h
        rw [lX8_follow_131.eq_2] at h
        refine lv_iload hx hb dX8_follow_131 (lv_at hl 8 rfl) ?_
        refine lv_iload hx hb dX8_follow_133 (lv_at hl 3 rfl) ?_
        refine lv_icmp_ge (tgt := 241) hx hb dX8_follow_135 (by decide) (fun c135 => ?_) (fun c135 => ?_)
        · replace h := if_t h c135
          refine lv_aload_n hx hb dX8_follow_241 rfl (lv_at hl 0 rfl) ?_
          refine lv_iload hx hb dX8_follow_242 (lv_at hl 7 rfl) ?_
          refine pX8_endedBy hC hI tw_292 dX8_follow_244 (fun z244 H locs e244 hI => ?_)
          replace h := bnd_at h e244
          refine lv_aload_n hx hb dX8_follow_247 rfl (lv_at hl 0 rfl) ?_
          refine lv_aload_n hx hb dX8_follow_248 rfl (lv_at hl 0 rfl) ?_
          refine gX8_sayings hC hI tw_282 dX8_follow_249 ?_
          replace h := bp_at h
          obtain ⟨r252, e252, h⟩ := h
          refine r_calli (rest := [.ref (ad 0)]) hC hI oX_11 (C := "EqualCourt$Sayings") rfl ywX5_count tw_489 (cX5_count_ok  e252) ⟨Nat.le_of_ble_eq_true rfl, Nat.le_of_ble_eq_true rfl⟩ ⟨rfl, rfl⟩ rfl hl.1 rfl (Nat.le_of_ble_eq_true rfl) dX8_follow_252 (fun H locs hI => ?_)
          refine lv_iload hx hb dX8_follow_255 (lv_at hl 6 rfl) ?_
          refine lv_isub hx hb dX8_follow_257 ?_
          replace h := bd_at h
          obtain ⟨r258, z258, e258, h⟩ := h
          refine r_calli (rest := []) hC hI oX_0 (C := "EqualCourt") rfl ywX8_done tw_439 (cX8_done_ok  e258) ⟨Nat.le_of_ble_eq_true rfl, Nat.le_of_ble_eq_true rfl⟩ ⟨rfl, rfl⟩ rfl hl.1 rfl (Nat.le_of_ble_eq_true rfl) dX8_follow_258 (fun H locs hI => ?_)
          exact hret h dX8_follow_261 hI
        · replace h := if_f h c135
          refine lv_iload hx hb dX8_follow_138 (lv_at hl 7 rfl) ?_
          refine lv_if_ne (tgt := 241) hx hb dX8_follow_140 (by decide) (fun c140 => ?_) (fun c140 => ?_)
          · replace h := if_f h c140
            refine lv_aload_n hx hb dX8_follow_241 rfl (lv_at hl 0 rfl) ?_
            refine lv_iload hx hb dX8_follow_242 (lv_at hl 7 rfl) ?_
            refine pX8_endedBy hC hI tw_292 dX8_follow_244 (fun z244 H locs e244 hI => ?_)
            replace h := bnd_at h e244
            refine lv_aload_n hx hb dX8_follow_247 rfl (lv_at hl 0 rfl) ?_
            refine lv_aload_n hx hb dX8_follow_248 rfl (lv_at hl 0 rfl) ?_
            refine gX8_sayings hC hI tw_282 dX8_follow_249 ?_
            replace h := bp_at h
            obtain ⟨r252, e252, h⟩ := h
            refine r_calli (rest := [.ref (ad 0)]) hC hI oX_11 (C := "EqualCourt$Sayings") rfl ywX5_count tw_489 (cX5_count_ok  e252) ⟨Nat.le_of_ble_eq_true rfl, Nat.le_of_ble_eq_true rfl⟩ ⟨rfl, rfl⟩ rfl hl.1 rfl (Nat.le_of_ble_eq_true rfl) dX8_follow_252 (fun H locs hI => ?_)
            refine lv_iload hx hb dX8_follow_255 (lv_at hl 6 rfl) ?_
            refine lv_isub hx hb dX8_follow_257 ?_
            replace h := bd_at h
            obtain ⟨r258, z258, e258, h⟩ := h
            refine r_calli (rest := []) hC hI oX_0 (C := "EqualCourt") rfl ywX8_done tw_439 (cX8_done_ok  e258) ⟨Nat.le_of_ble_eq_true rfl, Nat.le_of_ble_eq_true rfl⟩ ⟨rfl, rfl⟩ rfl hl.1 rfl (Nat.le_of_ble_eq_true rfl) dX8_follow_258 (fun H locs hI => ?_)
            exact hret h dX8_follow_261 hI
          · replace h := if_t h c140
            refine lv_iconst (v := 0) hx hb dX8_follow_143 (by decide) ?_
            refine lv_istore (lv' := [(11, .int (0 : Int32)), (0, .ref (ad 0)), (1, .int v1), (2, .int v2), (5, .int v5), (6, .int v6), (7, .int v7), (8, .int v8), (9, .int v9), (10, .int v10)]) hx hb dX8_follow_144 hl (by decide) rfl (fun ls hl => ?_)
            have w146 : ∀ (N146 : Nat) (v1 : Int32) (v2 : Int32) (v5 : Int32) (v6 : Int32) (v7 : Int32) (v8 : Int32) (v10 : Int32) (v9 : Int32) (v11 : Int32) (z : fS) (H : Heap) (locs : List Loc) (ls : Array Slot), fI D 76 ad (cfX ad cy cz) z s H locs → lv_has ls 13 [(0, .ref (ad 0)), (1, .int v1), (2, .int v2), (5, .int v5), (6, .int v6), (7, .int v7), (8, .int v8), (9, .int v9), (10, .int v10), (11, .int v11)] → lX8_follow_146  (jX8_follow_235  (lX8_follow_131   v1 v2 v5 v6 v7 v8 N131) v1 v2 v5 v6 v7 v8 v10) v1 v2 v5 v6 v7 v8 v10 N146 v9 v11 z = some (r, τ) → W p l e rmX8_follow s m args below meth c H locs 0 0 Q (F0 m 146 ls []) := by
              intro N146
              induction N146 with
              | zero =>
                intro v1 v2 v5 v6 v7 v8 v10 v9 v11 z H locs ls hI hl h
                exact none_no h
              | succ N146 ih146 =>
                have w229 : ∀ (v1 : Int32) (v2 : Int32) (v5 : Int32) (v6 : Int32) (v7 : Int32) (v8 : Int32) (v10 : Int32) (v11 : Int32) (v9 : Int32) (z : fS) (H : Heap) (locs : List Loc) (ls : Array Slot), fI D 76 ad (cfX ad cy cz) z s H locs → lv_has ls 13 [(0, .ref (ad 0)), (1, .int v1), (2, .int v2), (5, .int v5), (6, .int v6), (7, .int v7), (8, .int v8), (9, .int v9), (10, .int v10), (11, .int v11)] → jX8_follow_229  (lX8_follow_146  (jX8_follow_235  (lX8_follow_131   v1 v2 v5 v6 v7 v8 N131) v1 v2 v5 v6 v7 v8 v10) v1 v2 v5 v6 v7 v8 v10 N146) (jX8_follow_235  (lX8_follow_131   v1 v2 v5 v6 v7 v8 N131) v1 v2 v5 v6 v7 v8 v10) v1 v2 v5 v6 v7 v8 v10 v11 v9 z = some (r, τ) → W p l e rmX8_follow s m args below meth c H locs 0 0 Q (F0 m 229 ls []) := by
                  intro v1 v2 v5 v6 v7 v8 v10 v11 v9 z H locs ls hI hl h
                  unfold jX8_follow_229 at h
                  obtain ⟨x229, e229⟩ : ∃ y : Int32, y = (v11 + (1 : Int32)) := ⟨_, rfl⟩
                  replace h := bnd_at h e229
                  refine lv_iinc (v := x229) (lv' := [(11, .int x229), (0, .ref (ad 0)), (1, .int v1), (2, .int v2), (5, .int v5), (6, .int v6), (7, .int v7), (8, .int v8), (9, .int v9), (10, .int v10)]) hx hb dX8_follow_229 hl (k := 9) rfl (by rw [e229]; rfl) (by decide) rfl (fun ls hl => ?_)
                  refine lv_goto (tgt := 146) hx hb dX8_follow_232 (by decide) ?_
                  exact ih146 v1 v2 v5 v6 v7 v8 v10 v9 x229 z _ _ _ hI (lv_sub hl [1, 2, 3, 4, 5, 6, 7, 8, 9, 0] rfl) h
                intro v1 v2 v5 v6 v7 v8 v10 v9 v11 z H locs ls hI hl h
                rw [lX8_follow_146.eq_2] at h
                refine lv_iload hx hb dX8_follow_146 (lv_at hl 9 rfl) ?_
                refine lv_iload hx hb dX8_follow_148 (lv_at hl 4 rfl) ?_
                refine lv_icmp_ge (tgt := 235) hx hb dX8_follow_150 (by decide) (fun c150 => ?_) (fun c150 => ?_)
                · replace h := if_t h c150
                  exact w235 v1 v2 v5 v6 v7 v8 v10 v9 z _ _ _ hI (lv_sub hl [0, 1, 2, 3, 4, 5, 6, 7, 8] rfl) h
                · replace h := if_f h c150
                  refine lv_iload hx hb dX8_follow_153 (lv_at hl 7 rfl) ?_
                  refine lv_if_ne (tgt := 235) hx hb dX8_follow_155 (by decide) (fun c155 => ?_) (fun c155 => ?_)
                  · replace h := if_f h c155
                    exact w235 v1 v2 v5 v6 v7 v8 v10 v9 z _ _ _ hI (lv_sub hl [0, 1, 2, 3, 4, 5, 6, 7, 8] rfl) h
                  · replace h := if_t h c155
                    refine lv_iconst (v := 0) hx hb dX8_follow_158 (by decide) ?_
                    refine lv_istore (lv' := [(12, .int (0 : Int32)), (0, .ref (ad 0)), (1, .int v1), (2, .int v2), (5, .int v5), (6, .int v6), (7, .int v7), (8, .int v8), (9, .int v9), (10, .int v10), (11, .int v11)]) hx hb dX8_follow_159 hl (by decide) rfl (fun ls hl => ?_)
                    have w161 : ∀ (N161 : Nat) (v1 : Int32) (v2 : Int32) (v5 : Int32) (v6 : Int32) (v7 : Int32) (v8 : Int32) (v10 : Int32) (v11 : Int32) (v9 : Int32) (v12 : Int32) (z : fS) (H : Heap) (locs : List Loc) (ls : Array Slot), fI D 76 ad (cfX ad cy cz) z s H locs → lv_has ls 13 [(0, .ref (ad 0)), (1, .int v1), (2, .int v2), (5, .int v5), (6, .int v6), (7, .int v7), (8, .int v8), (9, .int v9), (10, .int v10), (11, .int v11), (12, .int v12)] → lX8_follow_161  (jX8_follow_229  (lX8_follow_146  (jX8_follow_235  (lX8_follow_131   v1 v2 v5 v6 v7 v8 N131) v1 v2 v5 v6 v7 v8 v10) v1 v2 v5 v6 v7 v8 v10 N146) (jX8_follow_235  (lX8_follow_131   v1 v2 v5 v6 v7 v8 N131) v1 v2 v5 v6 v7 v8 v10) v1 v2 v5 v6 v7 v8 v10 v11) v1 v2 v5 v6 v7 v8 v10 v11 N161 v9 v12 z = some (r, τ) → W p l e rmX8_follow s m args below meth c H locs 0 0 Q (F0 m 161 ls []) := by
                      intro N161
                      induction N161 with
                      | zero =>
                        intro v1 v2 v5 v6 v7 v8 v10 v11 v9 v12 z H locs ls hI hl h
                        exact none_no h
                      | succ N161 ih161 =>
                        intro v1 v2 v5 v6 v7 v8 v10 v11 v9 v12 z H locs ls hI hl h
                        rw [lX8_follow_161.eq_2] at h
                        refine lv_iload hx hb dX8_follow_161 (lv_at hl 10 rfl) ?_
                        refine lv_iload hx hb dX8_follow_163 (lv_at hl 5 rfl) ?_
                        refine lv_icmp_ge (tgt := 229) hx hb dX8_follow_165 (by decide) (fun c165 => ?_) (fun c165 => ?_)
                        · replace h := if_t h c165
                          exact w229 v1 v2 v5 v6 v7 v8 v10 v11 v9 z _ _ _ hI (lv_sub hl [0, 1, 2, 3, 4, 5, 6, 7, 8, 9] rfl) h
                        · replace h := if_f h c165
                          refine lv_iload hx hb dX8_follow_168 (lv_at hl 7 rfl) ?_
                          refine lv_if_ne (tgt := 229) hx hb dX8_follow_170 (by decide) (fun c170 => ?_) (fun c170 => ?_)
                          · replace h := if_f h c170
                            exact w229 v1 v2 v5 v6 v7 v8 v10 v11 v9 z _ _ _ hI (lv_sub hl [0, 1, 2, 3, 4, 5, 6, 7, 8, 9] rfl) h
                          · replace h := if_t h c170
                            refine lv_aload_n hx hb dX8_follow_173 rfl (lv_at hl 0 rfl) ?_
                            refine lv_iload_n hx hb dX8_follow_174 rfl (lv_at hl 1 rfl) ?_
                            refine lv_aload_n hx hb dX8_follow_175 rfl (lv_at hl 0 rfl) ?_
                            refine gX8_goneOver hC hI tw_290 dX8_follow_176 ?_
                            refine lv_iload hx hb dX8_follow_179 (lv_at hl 8 rfl) ?_
                            have g181 := (gd_at h).1
                            replace h := (gd_at h).2
                            refine r_iald hC hI aX_75 g181 dX8_follow_181 ?_
                            refine lv_aload_n hx hb dX8_follow_182 rfl (lv_at hl 0 rfl) ?_
                            refine gX8_goneOver hC hI tw_290 dX8_follow_183 ?_
                            refine lv_iload hx hb dX8_follow_186 (lv_at hl 9 rfl) ?_
                            have g188 := (gd_at h).1
                            replace h := (gd_at h).2
                            refine r_iald hC hI aX_75 g188 dX8_follow_188 ?_
                            refine lv_aload_n hx hb dX8_follow_189 rfl (lv_at hl 0 rfl) ?_
                            refine gX8_goneOver hC hI tw_290 dX8_follow_190 ?_
                            refine lv_iload hx hb dX8_follow_193 (lv_at hl 10 rfl) ?_
                            have g195 := (gd_at h).1
                            replace h := (gd_at h).2
                            refine r_iald hC hI aX_75 g195 dX8_follow_195 ?_
                            replace h := bd_at h
                            obtain ⟨r196, z196, e196, h⟩ := h
                            refine r_calli (rest := []) hC hI oX_0 (C := "EqualCourt") rfl ywX8_applyLaw tw_778 (cX8_applyLaw_ok  e196) ⟨Nat.le_of_ble_eq_true rfl, Nat.le_of_ble_eq_true rfl⟩ ⟨rfl, rfl⟩ rfl hl.1 rfl (Nat.le_of_ble_eq_true rfl) dX8_follow_196 (fun H locs hI => ?_)
                            refine lv_istore (lv' := [(9, .int r196), (0, .ref (ad 0)), (1, .int v1), (2, .int v2), (5, .int v5), (6, .int v6), (7, .int v7), (8, .int v8), (10, .int v10), (11, .int v11), (12, .int v12)]) hx hb dX8_follow_199 hl (by decide) rfl (fun ls hl => ?_)
                            refine lv_iload hx hb dX8_follow_201 (lv_at hl 0 rfl) ?_
                            refine lv_if_ne (tgt := 223) hx hb dX8_follow_203 (by decide) (fun c203 => ?_) (fun c203 => ?_)
                            · replace h := if_f h c203
                              obtain ⟨x223, e223⟩ : ∃ y : Int32, y = (v12 + (1 : Int32)) := ⟨_, rfl⟩
                              replace h := bnd_at h e223
                              refine lv_iinc (v := x223) (lv' := [(12, .int x223), (9, .int r196), (0, .ref (ad 0)), (1, .int v1), (2, .int v2), (5, .int v5), (6, .int v6), (7, .int v7), (8, .int v8), (10, .int v10), (11, .int v11)]) hx hb dX8_follow_223 hl (k := 10) rfl (by rw [e223]; rfl) (by decide) rfl (fun ls hl => ?_)
                              refine lv_goto (tgt := 161) hx hb dX8_follow_226 (by decide) ?_
                              exact ih161 v1 v2 v5 v6 v7 v8 v10 v11 r196 x223 z196 _ _ _ hI (lv_sub hl [2, 3, 4, 5, 6, 7, 8, 1, 9, 10, 0] rfl) h
                            · replace h := if_t h c203
                              refine lv_aload_n hx hb dX8_follow_206 rfl (lv_at hl 1 rfl) ?_
                              refine gX8_sayings hC hI tw_282 dX8_follow_207 ?_
                              replace h := bp_at h
                              obtain ⟨r210, e210, h⟩ := h
                              refine r_calli (rest := []) hC hI oX_11 (C := "EqualCourt$Sayings") rfl ywX5_count tw_489 (cX5_count_ok  e210) ⟨Nat.le_of_ble_eq_true rfl, Nat.le_of_ble_eq_true rfl⟩ ⟨rfl, rfl⟩ rfl hl.1 rfl (Nat.le_of_ble_eq_true rfl) dX8_follow_210 (fun H locs hI => ?_)
                              refine lv_iload hx hb dX8_follow_213 (lv_at hl 7 rfl) ?_
                              refine lv_isub hx hb dX8_follow_215 ?_
                              refine lv_iload_n hx hb dX8_follow_216 rfl (lv_at hl 3 rfl) ?_
                              refine lv_icmp_lt (tgt := 223) hx hb dX8_follow_217 (by decide) (fun c217 => ?_) (fun c217 => ?_)
                              · replace h := if_t h c217
                                obtain ⟨x223, e223⟩ : ∃ y : Int32, y = (v12 + (1 : Int32)) := ⟨_, rfl⟩
                                replace h := bnd_at h e223
                                refine lv_iinc (v := x223) (lv' := [(12, .int x223), (9, .int r196), (0, .ref (ad 0)), (1, .int v1), (2, .int v2), (5, .int v5), (6, .int v6), (7, .int v7), (8, .int v8), (10, .int v10), (11, .int v11)]) hx hb dX8_follow_223 hl (k := 10) rfl (by rw [e223]; rfl) (by decide) rfl (fun ls hl => ?_)
                                refine lv_goto (tgt := 161) hx hb dX8_follow_226 (by decide) ?_
                                exact ih161 v1 v2 v5 v6 v7 v8 v10 v11 r196 x223 z196 _ _ _ hI (lv_sub hl [2, 3, 4, 5, 6, 7, 8, 1, 9, 10, 0] rfl) h
                              · replace h := if_f h c217
                                refine lv_iconst (v := 1) hx hb dX8_follow_220 (by decide) ?_
                                refine lv_istore (lv' := [(9, .int (1 : Int32)), (0, .ref (ad 0)), (1, .int v1), (2, .int v2), (5, .int v5), (6, .int v6), (7, .int v7), (8, .int v8), (10, .int v10), (11, .int v11), (12, .int v12)]) hx hb dX8_follow_221 hl (by decide) rfl (fun ls hl => ?_)
                                obtain ⟨x223, e223⟩ : ∃ y : Int32, y = (v12 + (1 : Int32)) := ⟨_, rfl⟩
                                replace h := bnd_at h e223
                                refine lv_iinc (v := x223) (lv' := [(12, .int x223), (9, .int (1 : Int32)), (0, .ref (ad 0)), (1, .int v1), (2, .int v2), (5, .int v5), (6, .int v6), (7, .int v7), (8, .int v8), (10, .int v10), (11, .int v11)]) hx hb dX8_follow_223 hl (k := 10) rfl (by rw [e223]; rfl) (by decide) rfl (fun ls hl => ?_)
                                refine lv_goto (tgt := 161) hx hb dX8_follow_226 (by decide) ?_
                                exact ih161 v1 v2 v5 v6 v7 v8 v10 v11 (1 : Int32) x223 z196 _ _ _ hI (lv_sub hl [2, 3, 4, 5, 6, 7, 8, 1, 9, 10, 0] rfl) h
                    exact w161 FU v1 v2 v5 v6 v7 v8 v10 v11 v9 (0 : Int32) z _ _ _ hI (lv_sub hl [1, 2, 3, 4, 5, 6, 7, 8, 9, 10, 0] rfl) h
            exact w146 FU v1 v2 v5 v6 v7 v8 v10 v9 (0 : Int32) z _ _ _ hI (lv_sub hl [1, 2, 3, 4, 5, 6, 7, 8, 9, 0] rfl) h
    exact w131 FU v1 v2 v5 v6 y0 r120 (0 : Int32) (0 : Int32) z _ _ _ hI (lv_sub hl [4, 5, 6, 7, 8, 3, 2, 1, 0] rfl) h
  have w100 : ∀ (v1 : Int32) (v2 : Int32) (v3 : Int32) (v4 : Int32) (v5 : Int32) (y0 : Int32) (z : fS) (H : Heap) (locs : List Loc) (ls : Array Slot), fI D 76 ad (cfX ad cy cz) z s H locs → lv_has ls 13 [(0, .ref (ad 0)), (1, .int v1), (2, .int v2), (3, .int v3), (4, .int v4), (5, .int v5)] → jX8_follow_100   v1 v2 v3 v4 v5 y0 z = some (r, τ) → W p l e rmX8_follow s m args below meth c H locs 0 0 Q (F0 m 100 ls [.int y0]) := by
    intro v1 v2 v3 v4 v5 y0 z H locs ls hI hl h
    unfold jX8_follow_100 at h
    refine lv_istore (lv' := [(6, .int y0), (0, .ref (ad 0)), (1, .int v1), (2, .int v2), (3, .int v3), (4, .int v4), (5, .int v5)]) hx hb dX8_follow_100 hl (by decide) rfl (fun ls hl => ?_)
    refine lv_iload hx hb dX8_follow_102 (lv_at hl 5 rfl) ?_
    refine lv_iconst (v := 4) hx hb dX8_follow_104 (by decide) ?_
    refine lv_iand hx hb dX8_follow_105 ?_
    refine lv_if_eq (tgt := 113) hx hb dX8_follow_106 (by decide) (fun c106 => ?_) (fun c106 => ?_)
    · replace h := if_t h c106
      refine lv_iconst (v := 1) hx hb dX8_follow_113 (by decide) ?_
      exact w114 v1 v2 v5 y0 (1 : Int32) z _ _ _ hI (lv_sub hl [1, 2, 3, 6, 0] rfl) h
    · replace h := if_f h c106
      refine lv_iload_n hx hb dX8_follow_109 rfl (lv_at hl 4 rfl) ?_
      refine lv_goto (tgt := 114) hx hb dX8_follow_110 (by decide) ?_
      exact w114 v1 v2 v5 y0 v3 z _ _ _ hI (lv_sub hl [1, 2, 3, 6, 0] rfl) h
  have w86 : ∀ (v1 : Int32) (v2 : Int32) (v3 : Int32) (v4 : Int32) (y0 : Int32) (z : fS) (H : Heap) (locs : List Loc) (ls : Array Slot), fI D 76 ad (cfX ad cy cz) z s H locs → lv_has ls 13 [(0, .ref (ad 0)), (1, .int v1), (2, .int v2), (3, .int v3), (4, .int v4)] → jX8_follow_86   v1 v2 v3 v4 y0 z = some (r, τ) → W p l e rmX8_follow s m args below meth c H locs 0 0 Q (F0 m 86 ls [.int y0]) := by
    intro v1 v2 v3 v4 y0 z H locs ls hI hl h
    unfold jX8_follow_86 at h
    refine lv_istore (lv' := [(5, .int y0), (0, .ref (ad 0)), (1, .int v1), (2, .int v2), (3, .int v3), (4, .int v4)]) hx hb dX8_follow_86 hl (by decide) rfl (fun ls hl => ?_)
    refine lv_iload hx hb dX8_follow_88 (lv_at hl 5 rfl) ?_
    refine lv_iconst (v := 2) hx hb dX8_follow_90 (by decide) ?_
    refine lv_iand hx hb dX8_follow_91 ?_
    refine lv_if_eq (tgt := 99) hx hb dX8_follow_92 (by decide) (fun c92 => ?_) (fun c92 => ?_)
    · replace h := if_t h c92
      refine lv_iconst (v := 1) hx hb dX8_follow_99 (by decide) ?_
      exact w100 v1 v2 v3 v4 y0 (1 : Int32) z _ _ _ hI (lv_sub hl [1, 2, 3, 4, 5, 0] rfl) h
    · replace h := if_f h c92
      refine lv_iload_n hx hb dX8_follow_95 rfl (lv_at hl 4 rfl) ?_
      refine lv_goto (tgt := 100) hx hb dX8_follow_96 (by decide) ?_
      exact w100 v1 v2 v3 v4 y0 v3 z _ _ _ hI (lv_sub hl [1, 2, 3, 4, 5, 0] rfl) h
  refine lv_iload_n hx hb dX8_follow_0 rfl (lv_at hl 1 rfl) ?_
  refine lv_if_lt (tgt := 23) hx hb dX8_follow_1 (by decide) (fun c1 => ?_) (fun c1 => ?_)
  · replace h := if_t h c1
    refine lv_aload_n hx hb dX8_follow_23 rfl (lv_at hl 0 rfl) ?_
    refine lv_iconst (v := 1) hx hb dX8_follow_24 (by decide) ?_
    replace h := bd_at h
    obtain ⟨r25, z25, e25, h⟩ := h
    refine r_calli (rest := []) hC hI oX_0 (C := "EqualCourt") rfl ywX8_refused tw_325 (cX8_refused_ok  e25) ⟨Nat.le_of_ble_eq_true rfl, Nat.le_of_ble_eq_true rfl⟩ ⟨rfl, rfl⟩ rfl hl.1 rfl (Nat.le_of_ble_eq_true rfl) dX8_follow_25 (fun H locs hI => ?_)
    exact hret h dX8_follow_28 hI
  · replace h := if_f h c1
    refine lv_iload_n hx hb dX8_follow_4 rfl (lv_at hl 1 rfl) ?_
    refine lv_aload_n hx hb dX8_follow_5 rfl (lv_at hl 0 rfl) ?_
    refine gX8_lawCount hC hI tw_291 dX8_follow_6 ?_
    refine lv_icmp_ge (tgt := 23) hx hb dX8_follow_9 (by decide) (fun c9 => ?_) (fun c9 => ?_)
    · replace h := if_t h c9
      refine lv_aload_n hx hb dX8_follow_23 rfl (lv_at hl 0 rfl) ?_
      refine lv_iconst (v := 1) hx hb dX8_follow_24 (by decide) ?_
      replace h := bd_at h
      obtain ⟨r25, z25, e25, h⟩ := h
      refine r_calli (rest := []) hC hI oX_0 (C := "EqualCourt") rfl ywX8_refused tw_325 (cX8_refused_ok  e25) ⟨Nat.le_of_ble_eq_true rfl, Nat.le_of_ble_eq_true rfl⟩ ⟨rfl, rfl⟩ rfl hl.1 rfl (Nat.le_of_ble_eq_true rfl) dX8_follow_25 (fun H locs hI => ?_)
      exact hret h dX8_follow_28 hI
    · replace h := if_f h c9
      refine lv_iload_n hx hb dX8_follow_12 rfl (lv_at hl 2 rfl) ?_
      refine lv_iconst (v := 1) hx hb dX8_follow_13 (by decide) ?_
      refine lv_icmp_lt (tgt := 23) hx hb dX8_follow_14 (by decide) (fun c14 => ?_) (fun c14 => ?_)
      · replace h := if_t h c14
        refine lv_aload_n hx hb dX8_follow_23 rfl (lv_at hl 0 rfl) ?_
        refine lv_iconst (v := 1) hx hb dX8_follow_24 (by decide) ?_
        replace h := bd_at h
        obtain ⟨r25, z25, e25, h⟩ := h
        refine r_calli (rest := []) hC hI oX_0 (C := "EqualCourt") rfl ywX8_refused tw_325 (cX8_refused_ok  e25) ⟨Nat.le_of_ble_eq_true rfl, Nat.le_of_ble_eq_true rfl⟩ ⟨rfl, rfl⟩ rfl hl.1 rfl (Nat.le_of_ble_eq_true rfl) dX8_follow_25 (fun H locs hI => ?_)
        exact hret h dX8_follow_28 hI
      · replace h := if_f h c14
        refine lv_iload_n hx hb dX8_follow_17 rfl (lv_at hl 2 rfl) ?_
        refine lv_bipush (v := 50) hx hb dX8_follow_18 (by decide) ?_
        refine lv_icmp_le (tgt := 29) hx hb dX8_follow_20 (by decide) (fun c20 => ?_) (fun c20 => ?_)
        · replace h := if_t h c20
          refine lv_aload_n hx hb dX8_follow_29 rfl (lv_at hl 0 rfl) ?_
          replace h := bd_at h
          obtain ⟨r30, z30, e30, h⟩ := h
          refine r_calli (rest := []) hC hI oX_0 (C := "EqualCourt") rfl ywX8_gatherHeads tw_772 (cX8_gatherHeads_ok  e30) ⟨Nat.le_of_ble_eq_true rfl, Nat.le_of_ble_eq_true rfl⟩ ⟨rfl, rfl⟩ rfl hl.1 rfl (Nat.le_of_ble_eq_true rfl) dX8_follow_30 (fun H locs hI => ?_)
          refine lv_istore_n (lv' := [(3, .int r30), (0, .ref (ad 0)), (1, .int v1), (2, .int v2)]) hx hb dX8_follow_33 rfl hl (by decide) rfl (fun ls hl => ?_)
          refine lv_iload_n hx hb dX8_follow_34 rfl (lv_at hl 0 rfl) ?_
          refine lv_if_ne (tgt := 45) hx hb dX8_follow_35 (by decide) (fun c35 => ?_) (fun c35 => ?_)
          · replace h := if_f h c35
            refine lv_aload_n hx hb dX8_follow_45 rfl (lv_at hl 1 rfl) ?_
            refine gX8_terms hC hI tw_281 dX8_follow_46 ?_
            refine lv_aload_n hx hb dX8_follow_49 rfl (lv_at hl 1 rfl) ?_
            refine gX8_lawLefts hC hI tw_288 dX8_follow_50 ?_
            refine lv_iload_n hx hb dX8_follow_53 rfl (lv_at hl 2 rfl) ?_
            have g54 := (gd_at h).1
            replace h := (gd_at h).2
            refine r_iald hC hI aX_73 g54 dX8_follow_54 ?_
            replace h := bp_at h
            obtain ⟨r55, e55, h⟩ := h
            refine r_calli (rest := []) hC hI oX_1 (C := "EqualCourt$Terms") rfl ywX7_holesOf tw_777 (cX7_holesOf_ok  e55) ⟨Nat.le_of_ble_eq_true rfl, Nat.le_of_ble_eq_true rfl⟩ ⟨rfl, rfl⟩ rfl hl.1 rfl (Nat.le_of_ble_eq_true rfl) dX8_follow_55 (fun H locs hI => ?_)
            refine lv_aload_n hx hb dX8_follow_58 rfl (lv_at hl 1 rfl) ?_
            refine gX8_terms hC hI tw_281 dX8_follow_59 ?_
            refine lv_aload_n hx hb dX8_follow_62 rfl (lv_at hl 1 rfl) ?_
            refine gX8_lawRights hC hI tw_289 dX8_follow_63 ?_
            refine lv_iload_n hx hb dX8_follow_66 rfl (lv_at hl 2 rfl) ?_
            have g67 := (gd_at h).1
            replace h := (gd_at h).2
            refine r_iald hC hI aX_74 g67 dX8_follow_67 ?_
            replace h := bp_at h
            obtain ⟨r68, e68, h⟩ := h
            refine r_calli (rest := [.int r55]) hC hI oX_1 (C := "EqualCourt$Terms") rfl ywX7_holesOf tw_777 (cX7_holesOf_ok  e68) ⟨Nat.le_of_ble_eq_true rfl, Nat.le_of_ble_eq_true rfl⟩ ⟨rfl, rfl⟩ rfl hl.1 rfl (Nat.le_of_ble_eq_true rfl) dX8_follow_68 (fun H locs hI => ?_)
            refine lv_ior hx hb dX8_follow_71 ?_
            refine lv_topi (fun x72 e72 => ?_)
            replace h := bnd_at h e72
            refine lv_istore (lv' := [(4, .int x72), (3, .int r30), (0, .ref (ad 0)), (1, .int v1), (2, .int v2)]) hx hb dX8_follow_72 hl (by decide) rfl (fun ls hl => ?_)
            refine lv_iload hx hb dX8_follow_74 (lv_at hl 0 rfl) ?_
            refine lv_iconst (v := 1) hx hb dX8_follow_76 (by decide) ?_
            refine lv_iand hx hb dX8_follow_77 ?_
            refine lv_if_eq (tgt := 85) hx hb dX8_follow_78 (by decide) (fun c78 => ?_) (fun c78 => ?_)
            · replace h := if_t h c78
              refine lv_iconst (v := 1) hx hb dX8_follow_85 (by decide) ?_
              exact w86 v1 v2 r30 x72 (1 : Int32) z30 _ _ _ hI (lv_sub hl [2, 3, 4, 1, 0] rfl) h
            · replace h := if_f h c78
              refine lv_iload_n hx hb dX8_follow_81 rfl (lv_at hl 1 rfl) ?_
              refine lv_goto (tgt := 86) hx hb dX8_follow_82 (by decide) ?_
              exact w86 v1 v2 r30 x72 r30 z30 _ _ _ hI (lv_sub hl [2, 3, 4, 1, 0] rfl) h
          · replace h := if_t h c35
            refine lv_aload_n hx hb dX8_follow_38 rfl (lv_at hl 1 rfl) ?_
            refine lv_bipush (v := 6) hx hb dX8_follow_39 (by decide) ?_
            replace h := bd_at h
            obtain ⟨r41, z41, e41, h⟩ := h
            refine r_calli (rest := []) hC hI oX_0 (C := "EqualCourt") rfl ywX8_refused tw_325 (cX8_refused_ok  e41) ⟨Nat.le_of_ble_eq_true rfl, Nat.le_of_ble_eq_true rfl⟩ ⟨rfl, rfl⟩ rfl hl.1 rfl (Nat.le_of_ble_eq_true rfl) dX8_follow_41 (fun H locs hI => ?_)
            exact hret h dX8_follow_44 hI
        · replace h := if_f h c20
          refine lv_aload_n hx hb dX8_follow_23 rfl (lv_at hl 0 rfl) ?_
          refine lv_iconst (v := 1) hx hb dX8_follow_24 (by decide) ?_
          replace h := bd_at h
          obtain ⟨r25, z25, e25, h⟩ := h
          refine r_calli (rest := []) hC hI oX_0 (C := "EqualCourt") rfl ywX8_refused tw_325 (cX8_refused_ok  e25) ⟨Nat.le_of_ble_eq_true rfl, Nat.le_of_ble_eq_true rfl⟩ ⟨rfl, rfl⟩ rfl hl.1 rfl (Nat.le_of_ble_eq_true rfl) dX8_follow_25 (fun H locs hI => ?_)
          exact hret h dX8_follow_28 hI
theorem dX8_ended_0 : decode cX8_ended 0 = .ok (.aload_n 0, 1) := by decide +kernel
theorem dX8_ended_1 : decode cX8_ended 1 = .ok (.getfield 72, 3) := by decide +kernel
theorem dX8_ended_4 : decode cX8_ended 4 = .ok (.ireturn, 1) := by decide +kernel
abbrev rmX8_ended : Room := { frames := 0, cells := 0, slots := 0, locals := 0 }
theorem ywX8_ended : fY yX8_ended "EqualCourt" cX8_ended 1 (some .int) 0 := ⟨tw_783, tw_784, tw_1, tw_785, by decide +kernel⟩
set_option maxHeartbeats 4000000 in
set_option maxRecDepth 100000 in
theorem cX8_ended_ok {D : va_G} {ad : Nat → Nat} {cy cz : ClassId} {l : Launch} {z : fS}  {r : Int32} (h : fX8_ended z = some r) : fMi D 76 ad (cfX ad cy cz) cy cz l yX8_ended cX8_ended 1 (some .int) rmX8_ended [.ref (ad 0)] z r z := by
  refine f_bodyi (by decide) (Nat.le_of_ble_eq_true rfl) (fun p e s m args below meth c Q hC hret ls hl hI => ?_)
  have hx := hC.1
  have hb := hC.2.1
  have hl : lv_has ls 1 [(0, .ref (ad 0))] := hl
  unfold fX8_ended at h
  refine lv_aload_n hx hb dX8_ended_0 rfl (lv_at hl 0 rfl) ?_
  refine gX8_endedBy hC hI tw_292 dX8_ended_1 ?_
  exact hret (ret_p _ h) dX8_ended_4 hI
theorem dX8_claim_0 : decode cX8_claim 0 = .ok (.aload_n 0, 1) := by decide +kernel
theorem dX8_claim_1 : decode cX8_claim 1 = .ok (.getfield 10, 3) := by decide +kernel
theorem dX8_claim_4 : decode cX8_claim 4 = .ok (.iload_n 2, 1) := by decide +kernel
theorem dX8_claim_5 : decode cX8_claim 5 = .ok (.invokevirtual 86, 3) := by decide +kernel
theorem dX8_claim_8 : decode cX8_claim 8 = .ok (.ifCond .eq 14, 3) := by decide +kernel
theorem dX8_claim_11 : decode cX8_claim 11 = .ok (.aload_n 0, 1) := by decide +kernel
theorem dX8_claim_12 : decode cX8_claim 12 = .ok (.getfield 10, 3) := by decide +kernel
theorem dX8_claim_15 : decode cX8_claim 15 = .ok (.iload_n 3, 1) := by decide +kernel
theorem dX8_claim_16 : decode cX8_claim 16 = .ok (.invokevirtual 86, 3) := by decide +kernel
theorem dX8_claim_19 : decode cX8_claim 19 = .ok (.ifCond .ne 9, 3) := by decide +kernel
theorem dX8_claim_22 : decode cX8_claim 22 = .ok (.aload_n 0, 1) := by decide +kernel
theorem dX8_claim_23 : decode cX8_claim 23 = .ok (.iconst 1, 1) := by decide +kernel
theorem dX8_claim_24 : decode cX8_claim 24 = .ok (.invokevirtual 78, 3) := by decide +kernel
theorem dX8_claim_27 : decode cX8_claim 27 = .ok (.ireturn, 1) := by decide +kernel
theorem dX8_claim_28 : decode cX8_claim 28 = .ok (.aload_n 0, 1) := by decide +kernel
theorem dX8_claim_29 : decode cX8_claim 29 = .ok (.getfield 44, 3) := by decide +kernel
theorem dX8_claim_32 : decode cX8_claim 32 = .ok (.invokevirtual 114, 3) := by decide +kernel
theorem dX8_claim_35 : decode cX8_claim 35 = .ok (.bipush 100, 2) := by decide +kernel
theorem dX8_claim_37 : decode cX8_claim 37 = .ok (.if_icmp .lt 9, 3) := by decide +kernel
theorem dX8_claim_40 : decode cX8_claim 40 = .ok (.aload_n 0, 1) := by decide +kernel
theorem dX8_claim_41 : decode cX8_claim 41 = .ok (.iconst 3, 1) := by decide +kernel
theorem dX8_claim_42 : decode cX8_claim 42 = .ok (.invokevirtual 78, 3) := by decide +kernel
theorem dX8_claim_45 : decode cX8_claim 45 = .ok (.ireturn, 1) := by decide +kernel
theorem dX8_claim_46 : decode cX8_claim 46 = .ok (.aload_n 0, 1) := by decide +kernel
theorem dX8_claim_47 : decode cX8_claim 47 = .ok (.aload_n 0, 1) := by decide +kernel
theorem dX8_claim_48 : decode cX8_claim 48 = .ok (.getfield 44, 3) := by decide +kernel
theorem dX8_claim_51 : decode cX8_claim 51 = .ok (.iload_n 1, 1) := by decide +kernel
theorem dX8_claim_52 : decode cX8_claim 52 = .ok (.iload_n 2, 1) := by decide +kernel
theorem dX8_claim_53 : decode cX8_claim 53 = .ok (.iload_n 3, 1) := by decide +kernel
theorem dX8_claim_54 : decode cX8_claim 54 = .ok (.iload 4, 2) := by decide +kernel
theorem dX8_claim_56 : decode cX8_claim 56 = .ok (.iload 5, 2) := by decide +kernel
theorem dX8_claim_58 : decode cX8_claim 58 = .ok (.invokevirtual 213, 3) := by decide +kernel
theorem dX8_claim_61 : decode cX8_claim 61 = .ok (.invokevirtual 100, 3) := by decide +kernel
theorem dX8_claim_64 : decode cX8_claim 64 = .ok (.ireturn, 1) := by decide +kernel
abbrev rmX8_claim : Room := { frames := 1, cells := 0, slots := 0, locals := 25 }
theorem ywX8_claim : fY yX8_claim "EqualCourt" cX8_claim 6 (some .int) 5 := ⟨tw_787, tw_788, tw_1, tw_789, by decide +kernel⟩
set_option maxHeartbeats 4000000 in
set_option maxRecDepth 100000 in
theorem cX8_claim_ok {D : va_G} {ad : Nat → Nat} {cy cz : ClassId} {l : Launch} {z : fS} {v1 : Int32} {v2 : Int32} {v3 : Int32} {v4 : Int32} {v5 : Int32} {r : Int32} {τ : fS} (h : fX8_claim z v1 v2 v3 v4 v5 = some (r, τ)) : fMi D 76 ad (cfX ad cy cz) cy cz l yX8_claim cX8_claim 6 (some .int) rmX8_claim [.ref (ad 0), .int v1, .int v2, .int v3, .int v4, .int v5] z r τ := by
  refine f_bodyi (by decide) (Nat.le_of_ble_eq_true rfl) (fun p e s m args below meth c Q hC hret ls hl hI => ?_)
  have hx := hC.1
  have hb := hC.2.1
  have hl : lv_has ls 6 [(0, .ref (ad 0)), (1, .int v1), (2, .int v2), (3, .int v3), (4, .int v4), (5, .int v5)] := hl
  unfold fX8_claim at h
  refine lv_aload_n hx hb dX8_claim_0 rfl (lv_at hl 0 rfl) ?_
  refine gX8_terms hC hI tw_281 dX8_claim_1 ?_
  refine lv_iload_n hx hb dX8_claim_4 rfl (lv_at hl 2 rfl) ?_
  replace h := bp_at h
  obtain ⟨r5, e5, h⟩ := h
  refine r_calli (rest := []) hC hI oX_1 (C := "EqualCourt$Terms") rfl ywX7_has tw_451 (cX7_has_ok  e5) ⟨Nat.le_of_ble_eq_true rfl, Nat.le_of_ble_eq_true rfl⟩ ⟨rfl, rfl⟩ rfl hl.1 rfl (Nat.le_of_ble_eq_true rfl) dX8_claim_5 (fun H locs hI => ?_)
  refine lv_if_eq (tgt := 22) hx hb dX8_claim_8 (by decide) (fun c8 => ?_) (fun c8 => ?_)
  · replace h := if_t h c8
    refine lv_aload_n hx hb dX8_claim_22 rfl (lv_at hl 0 rfl) ?_
    refine lv_iconst (v := 1) hx hb dX8_claim_23 (by decide) ?_
    replace h := bd_at h
    obtain ⟨r24, z24, e24, h⟩ := h
    refine r_calli (rest := []) hC hI oX_0 (C := "EqualCourt") rfl ywX8_refused tw_325 (cX8_refused_ok  e24) ⟨Nat.le_of_ble_eq_true rfl, Nat.le_of_ble_eq_true rfl⟩ ⟨rfl, rfl⟩ rfl hl.1 rfl (Nat.le_of_ble_eq_true rfl) dX8_claim_24 (fun H locs hI => ?_)
    exact hret h dX8_claim_27 hI
  · replace h := if_f h c8
    refine lv_aload_n hx hb dX8_claim_11 rfl (lv_at hl 0 rfl) ?_
    refine gX8_terms hC hI tw_281 dX8_claim_12 ?_
    refine lv_iload_n hx hb dX8_claim_15 rfl (lv_at hl 3 rfl) ?_
    replace h := bp_at h
    obtain ⟨r16, e16, h⟩ := h
    refine r_calli (rest := []) hC hI oX_1 (C := "EqualCourt$Terms") rfl ywX7_has tw_451 (cX7_has_ok  e16) ⟨Nat.le_of_ble_eq_true rfl, Nat.le_of_ble_eq_true rfl⟩ ⟨rfl, rfl⟩ rfl hl.1 rfl (Nat.le_of_ble_eq_true rfl) dX8_claim_16 (fun H locs hI => ?_)
    refine lv_if_ne (tgt := 28) hx hb dX8_claim_19 (by decide) (fun c19 => ?_) (fun c19 => ?_)
    · replace h := if_f h c19
      refine lv_aload_n hx hb dX8_claim_28 rfl (lv_at hl 0 rfl) ?_
      refine gX8_steps hC hI tw_285 dX8_claim_29 ?_
      replace h := bp_at h
      obtain ⟨r32, e32, h⟩ := h
      refine r_calli (rest := []) hC hI oX_63 (C := "EqualCourt$Steps") rfl ywX6_count tw_497 (cX6_count_ok  e32) ⟨Nat.le_of_ble_eq_true rfl, Nat.le_of_ble_eq_true rfl⟩ ⟨rfl, rfl⟩ rfl hl.1 rfl (Nat.le_of_ble_eq_true rfl) dX8_claim_32 (fun H locs hI => ?_)
      refine lv_bipush (v := 100) hx hb dX8_claim_35 (by decide) ?_
      refine lv_icmp_lt (tgt := 46) hx hb dX8_claim_37 (by decide) (fun c37 => ?_) (fun c37 => ?_)
      · replace h := if_t h c37
        refine lv_aload_n hx hb dX8_claim_46 rfl (lv_at hl 0 rfl) ?_
        refine lv_aload_n hx hb dX8_claim_47 rfl (lv_at hl 0 rfl) ?_
        refine gX8_steps hC hI tw_285 dX8_claim_48 ?_
        refine lv_iload_n hx hb dX8_claim_51 rfl (lv_at hl 1 rfl) ?_
        refine lv_iload_n hx hb dX8_claim_52 rfl (lv_at hl 2 rfl) ?_
        refine lv_iload_n hx hb dX8_claim_53 rfl (lv_at hl 3 rfl) ?_
        refine lv_iload hx hb dX8_claim_54 (lv_at hl 4 rfl) ?_
        refine lv_iload hx hb dX8_claim_56 (lv_at hl 5 rfl) ?_
        replace h := bd_at h
        obtain ⟨r58, z58, e58, h⟩ := h
        refine r_calli (rest := [.ref (ad 0)]) hC hI oX_63 (C := "EqualCourt$Steps") rfl ywX6_add tw_790 (cX6_add_ok  e58) ⟨Nat.le_of_ble_eq_true rfl, Nat.le_of_ble_eq_true rfl⟩ ⟨rfl, rfl⟩ rfl hl.1 rfl (Nat.le_of_ble_eq_true rfl) dX8_claim_58 (fun H locs hI => ?_)
        replace h := bd_at h
        obtain ⟨r61, z61, e61, h⟩ := h
        refine r_calli (rest := []) hC hI oX_0 (C := "EqualCourt") rfl ywX8_done tw_439 (cX8_done_ok  e61) ⟨Nat.le_of_ble_eq_true rfl, Nat.le_of_ble_eq_true rfl⟩ ⟨rfl, rfl⟩ rfl hl.1 rfl (Nat.le_of_ble_eq_true rfl) dX8_claim_61 (fun H locs hI => ?_)
        exact hret h dX8_claim_64 hI
      · replace h := if_f h c37
        refine lv_aload_n hx hb dX8_claim_40 rfl (lv_at hl 0 rfl) ?_
        refine lv_iconst (v := 3) hx hb dX8_claim_41 (by decide) ?_
        replace h := bd_at h
        obtain ⟨r42, z42, e42, h⟩ := h
        refine r_calli (rest := []) hC hI oX_0 (C := "EqualCourt") rfl ywX8_refused tw_325 (cX8_refused_ok  e42) ⟨Nat.le_of_ble_eq_true rfl, Nat.le_of_ble_eq_true rfl⟩ ⟨rfl, rfl⟩ rfl hl.1 rfl (Nat.le_of_ble_eq_true rfl) dX8_claim_42 (fun H locs hI => ?_)
        exact hret h dX8_claim_45 hI
    · replace h := if_t h c19
      refine lv_aload_n hx hb dX8_claim_22 rfl (lv_at hl 0 rfl) ?_
      refine lv_iconst (v := 1) hx hb dX8_claim_23 (by decide) ?_
      replace h := bd_at h
      obtain ⟨r24, z24, e24, h⟩ := h
      refine r_calli (rest := []) hC hI oX_0 (C := "EqualCourt") rfl ywX8_refused tw_325 (cX8_refused_ok  e24) ⟨Nat.le_of_ble_eq_true rfl, Nat.le_of_ble_eq_true rfl⟩ ⟨rfl, rfl⟩ rfl hl.1 rfl (Nat.le_of_ble_eq_true rfl) dX8_claim_24 (fun H locs hI => ?_)
      exact hret h dX8_claim_27 hI
theorem dX8_unclaim_0 : decode cX8_unclaim 0 = .ok (.aload_n 0, 1) := by decide +kernel
theorem dX8_unclaim_1 : decode cX8_unclaim 1 = .ok (.getfield 44, 3) := by decide +kernel
theorem dX8_unclaim_4 : decode cX8_unclaim 4 = .ok (.invokevirtual 114, 3) := by decide +kernel
theorem dX8_unclaim_7 : decode cX8_unclaim 7 = .ok (.istore_n 1, 1) := by decide +kernel
theorem dX8_unclaim_8 : decode cX8_unclaim 8 = .ok (.aload_n 0, 1) := by decide +kernel
theorem dX8_unclaim_9 : decode cX8_unclaim 9 = .ok (.getfield 44, 3) := by decide +kernel
theorem dX8_unclaim_12 : decode cX8_unclaim 12 = .ok (.invokevirtual 215, 3) := by decide +kernel
theorem dX8_unclaim_15 : decode cX8_unclaim 15 = .ok (.aload_n 0, 1) := by decide +kernel
theorem dX8_unclaim_16 : decode cX8_unclaim 16 = .ok (.iload_n 1, 1) := by decide +kernel
theorem dX8_unclaim_17 : decode cX8_unclaim 17 = .ok (.invokevirtual 100, 3) := by decide +kernel
theorem dX8_unclaim_20 : decode cX8_unclaim 20 = .ok (.ireturn, 1) := by decide +kernel
abbrev rmX8_unclaim : Room := { frames := 1, cells := 0, slots := 0, locals := 21 }
theorem ywX8_unclaim : fY yX8_unclaim "EqualCourt" cX8_unclaim 2 (some .int) 0 := ⟨tw_795, tw_796, tw_1, tw_797, by decide +kernel⟩
set_option maxHeartbeats 4000000 in
set_option maxRecDepth 100000 in
theorem cX8_unclaim_ok {D : va_G} {ad : Nat → Nat} {cy cz : ClassId} {l : Launch} {z : fS}  {r : Int32} {τ : fS} (h : fX8_unclaim z = some (r, τ)) : fMi D 76 ad (cfX ad cy cz) cy cz l yX8_unclaim cX8_unclaim 2 (some .int) rmX8_unclaim [.ref (ad 0)] z r τ := by
  refine f_bodyi (by decide) (Nat.le_of_ble_eq_true rfl) (fun p e s m args below meth c Q hC hret ls hl hI => ?_)
  have hx := hC.1
  have hb := hC.2.1
  have hl : lv_has ls 2 [(0, .ref (ad 0))] := hl
  unfold fX8_unclaim at h
  refine lv_aload_n hx hb dX8_unclaim_0 rfl (lv_at hl 0 rfl) ?_
  refine gX8_steps hC hI tw_285 dX8_unclaim_1 ?_
  replace h := bp_at h
  obtain ⟨r4, e4, h⟩ := h
  refine r_calli (rest := []) hC hI oX_63 (C := "EqualCourt$Steps") rfl ywX6_count tw_497 (cX6_count_ok  e4) ⟨Nat.le_of_ble_eq_true rfl, Nat.le_of_ble_eq_true rfl⟩ ⟨rfl, rfl⟩ rfl hl.1 rfl (Nat.le_of_ble_eq_true rfl) dX8_unclaim_4 (fun H locs hI => ?_)
  refine lv_istore_n (lv' := [(1, .int r4), (0, .ref (ad 0))]) hx hb dX8_unclaim_7 rfl hl (by decide) rfl (fun ls hl => ?_)
  refine lv_aload_n hx hb dX8_unclaim_8 rfl (lv_at hl 1 rfl) ?_
  refine gX8_steps hC hI tw_285 dX8_unclaim_9 ?_
  replace h := bp_at h
  obtain ⟨z12, e12, h⟩ := h
  refine r_callv (rest := []) hC hI oX_63 (C := "EqualCourt$Steps") rfl ywX6_forget tw_798 (cX6_forget_ok  e12) ⟨Nat.le_of_ble_eq_true rfl, Nat.le_of_ble_eq_true rfl⟩ ⟨rfl, rfl⟩ rfl hl.1 rfl (Nat.le_of_ble_eq_true rfl) dX8_unclaim_12 (fun H locs hI => ?_)
  refine lv_aload_n hx hb dX8_unclaim_15 rfl (lv_at hl 1 rfl) ?_
  refine lv_iload_n hx hb dX8_unclaim_16 rfl (lv_at hl 0 rfl) ?_
  replace h := bd_at h
  obtain ⟨r17, z17, e17, h⟩ := h
  refine r_calli (rest := []) hC hI oX_0 (C := "EqualCourt") rfl ywX8_done tw_439 (cX8_done_ok  e17) ⟨Nat.le_of_ble_eq_true rfl, Nat.le_of_ble_eq_true rfl⟩ ⟨rfl, rfl⟩ rfl hl.1 rfl (Nat.le_of_ble_eq_true rfl) dX8_unclaim_17 (fun H locs hI => ?_)
  exact hret h dX8_unclaim_20 hI
theorem dX8_check_0 : decode cX8_check 0 = .ok (.iconst 0, 1) := by decide +kernel
theorem dX8_check_1 : decode cX8_check 1 = .ok (.istore_n 3, 1) := by decide +kernel
theorem dX8_check_2 : decode cX8_check 2 = .ok (.iload_n 3, 1) := by decide +kernel
theorem dX8_check_3 : decode cX8_check 3 = .ok (.aload_n 0, 1) := by decide +kernel
theorem dX8_check_4 : decode cX8_check 4 = .ok (.getfield 44, 3) := by decide +kernel
theorem dX8_check_7 : decode cX8_check 7 = .ok (.invokevirtual 114, 3) := by decide +kernel
theorem dX8_check_10 : decode cX8_check 10 = .ok (.if_icmp .ge 22, 3) := by decide +kernel
theorem dX8_check_13 : decode cX8_check 13 = .ok (.aload_n 0, 1) := by decide +kernel
theorem dX8_check_14 : decode cX8_check 14 = .ok (.getfield 44, 3) := by decide +kernel
theorem dX8_check_17 : decode cX8_check 17 = .ok (.iload_n 3, 1) := by decide +kernel
theorem dX8_check_18 : decode cX8_check 18 = .ok (.invokevirtual 218, 3) := by decide +kernel
theorem dX8_check_21 : decode cX8_check 21 = .ok (.ifCond .ne 5, 3) := by decide +kernel
theorem dX8_check_24 : decode cX8_check 24 = .ok (.iload_n 3, 1) := by decide +kernel
theorem dX8_check_25 : decode cX8_check 25 = .ok (.ireturn, 1) := by decide +kernel
theorem dX8_check_26 : decode cX8_check 26 = .ok (.iinc 3 1, 3) := by decide +kernel
theorem dX8_check_29 : decode cX8_check 29 = .ok (.goto (-27), 3) := by decide +kernel
theorem dX8_check_32 : decode cX8_check 32 = .ok (.aload_n 0, 1) := by decide +kernel
theorem dX8_check_33 : decode cX8_check 33 = .ok (.getfield 44, 3) := by decide +kernel
theorem dX8_check_36 : decode cX8_check 36 = .ok (.aload_n 0, 1) := by decide +kernel
theorem dX8_check_37 : decode cX8_check 37 = .ok (.getfield 44, 3) := by decide +kernel
theorem dX8_check_40 : decode cX8_check 40 = .ok (.invokevirtual 114, 3) := by decide +kernel
theorem dX8_check_43 : decode cX8_check 43 = .ok (.iconst 1, 1) := by decide +kernel
theorem dX8_check_44 : decode cX8_check 44 = .ok (.isub, 1) := by decide +kernel
theorem dX8_check_45 : decode cX8_check 45 = .ok (.iload_n 1, 1) := by decide +kernel
theorem dX8_check_46 : decode cX8_check 46 = .ok (.iload_n 2, 1) := by decide +kernel
theorem dX8_check_47 : decode cX8_check 47 = .ok (.invokevirtual 221, 3) := by decide +kernel
theorem dX8_check_50 : decode cX8_check 50 = .ok (.ifCond .eq 7, 3) := by decide +kernel
theorem dX8_check_53 : decode cX8_check 53 = .ok (.iconst (-1), 1) := by decide +kernel
theorem dX8_check_54 : decode cX8_check 54 = .ok (.goto 10, 3) := by decide +kernel
theorem dX8_check_57 : decode cX8_check 57 = .ok (.aload_n 0, 1) := by decide +kernel
theorem dX8_check_58 : decode cX8_check 58 = .ok (.getfield 44, 3) := by decide +kernel
theorem dX8_check_61 : decode cX8_check 61 = .ok (.invokevirtual 114, 3) := by decide +kernel
theorem dX8_check_64 : decode cX8_check 64 = .ok (.ireturn, 1) := by decide +kernel
abbrev rmX8_check : Room := { frames := 4, cells := 0, slots := 0, locals := 100 }
theorem ywX8_check : fY yX8_check "EqualCourt" cX8_check 4 (some .int) 2 := ⟨tw_803, tw_804, tw_1, tw_805, by decide +kernel⟩
set_option maxHeartbeats 4000000 in
set_option maxRecDepth 100000 in
theorem cX8_check_ok {D : va_G} {ad : Nat → Nat} {cy cz : ClassId} {l : Launch} {z : fS} {v1 : Int32} {v2 : Int32} {r : Int32} (h : fX8_check z v1 v2 = some r) : fMi D 76 ad (cfX ad cy cz) cy cz l yX8_check cX8_check 4 (some .int) rmX8_check [.ref (ad 0), .int v1, .int v2] z r z := by
  refine f_bodyi (by decide) (Nat.le_of_ble_eq_true rfl) (fun p e s m args below meth c Q hC hret ls hl hI => ?_)
  have hx := hC.1
  have hb := hC.2.1
  have hl : lv_has ls 4 [(0, .ref (ad 0)), (1, .int v1), (2, .int v2)] := hl
  unfold fX8_check at h
  have w32 : ∀ (v1 : Int32) (v2 : Int32) (H : Heap) (locs : List Loc) (ls : Array Slot), fI D 76 ad (cfX ad cy cz) z s H locs → lv_has ls 4 [(0, .ref (ad 0)), (1, .int v1), (2, .int v2)] → jX8_check_32   z v1 v2 = some r → W p l e rmX8_check s m args below meth c H locs 0 0 Q (F0 m 32 ls []) := by
    intro v1 v2 H locs ls hI hl h
    unfold jX8_check_32 at h
    refine lv_aload_n hx hb dX8_check_32 rfl (lv_at hl 0 rfl) ?_
    refine gX8_steps hC hI tw_285 dX8_check_33 ?_
    refine lv_aload_n hx hb dX8_check_36 rfl (lv_at hl 0 rfl) ?_
    refine gX8_steps hC hI tw_285 dX8_check_37 ?_
    replace h := bp_at h
    obtain ⟨r40, e40, h⟩ := h
    refine r_calli (rest := [.ref (ad 63)]) hC hI oX_63 (C := "EqualCourt$Steps") rfl ywX6_count tw_497 (cX6_count_ok  e40) ⟨Nat.le_of_ble_eq_true rfl, Nat.le_of_ble_eq_true rfl⟩ ⟨rfl, rfl⟩ rfl hl.1 rfl (Nat.le_of_ble_eq_true rfl) dX8_check_40 (fun H locs hI => ?_)
    refine lv_iconst (v := 1) hx hb dX8_check_43 (by decide) ?_
    refine lv_isub hx hb dX8_check_44 ?_
    refine lv_iload_n hx hb dX8_check_45 rfl (lv_at hl 1 rfl) ?_
    refine lv_iload_n hx hb dX8_check_46 rfl (lv_at hl 2 rfl) ?_
    replace h := bp_at h
    obtain ⟨r47, e47, h⟩ := h
    refine r_calli (rest := []) hC hI oX_63 (C := "EqualCourt$Steps") rfl ywX6_says tw_843 (cX6_says_ok  e47) ⟨Nat.le_of_ble_eq_true rfl, Nat.le_of_ble_eq_true rfl⟩ ⟨rfl, rfl⟩ rfl hl.1 rfl (Nat.le_of_ble_eq_true rfl) dX8_check_47 (fun H locs hI => ?_)
    refine lv_if_eq (tgt := 57) hx hb dX8_check_50 (by decide) (fun c50 => ?_) (fun c50 => ?_)
    · replace h := if_t h c50
      refine lv_aload_n hx hb dX8_check_57 rfl (lv_at hl 0 rfl) ?_
      refine gX8_steps hC hI tw_285 dX8_check_58 ?_
      replace h := bp_at h
      obtain ⟨r61, e61, h⟩ := h
      refine r_calli (rest := []) hC hI oX_63 (C := "EqualCourt$Steps") rfl ywX6_count tw_497 (cX6_count_ok  e61) ⟨Nat.le_of_ble_eq_true rfl, Nat.le_of_ble_eq_true rfl⟩ ⟨rfl, rfl⟩ rfl hl.1 rfl (Nat.le_of_ble_eq_true rfl) dX8_check_61 (fun H locs hI => ?_)
      exact hret (ret_p _ h) dX8_check_64 hI
    · replace h := if_f h c50
      refine lv_iconst (v := -1) hx hb dX8_check_53 (by decide) ?_
      refine lv_goto (tgt := 64) hx hb dX8_check_54 (by decide) ?_
      exact hret (ret_p _ h) dX8_check_64 hI
  refine lv_iconst (v := 0) hx hb dX8_check_0 (by decide) ?_
  refine lv_istore_n (lv' := [(3, .int (0 : Int32)), (0, .ref (ad 0)), (1, .int v1), (2, .int v2)]) hx hb dX8_check_1 rfl hl (by decide) rfl (fun ls hl => ?_)
  have w2 : ∀ (N2 : Nat) (v1 : Int32) (v2 : Int32) (v3 : Int32) (H : Heap) (locs : List Loc) (ls : Array Slot), fI D 76 ad (cfX ad cy cz) z s H locs → lv_has ls 4 [(0, .ref (ad 0)), (1, .int v1), (2, .int v2), (3, .int v3)] → lX8_check_2  (jX8_check_32   z v1 v2) z v1 v2 N2 v3 = some r → W p l e rmX8_check s m args below meth c H locs 0 0 Q (F0 m 2 ls []) := by
    intro N2
    induction N2 with
    | zero =>
      intro v1 v2 v3 H locs ls hI hl h
      exact none_no h
    | succ N2 ih2 =>
      intro v1 v2 v3 H locs ls hI hl h
      rw [lX8_check_2.eq_2] at h
      refine lv_iload_n hx hb dX8_check_2 rfl (lv_at hl 3 rfl) ?_
      refine lv_aload_n hx hb dX8_check_3 rfl (lv_at hl 0 rfl) ?_
      refine gX8_steps hC hI tw_285 dX8_check_4 ?_
      replace h := bp_at h
      obtain ⟨r7, e7, h⟩ := h
      refine r_calli (rest := [.int v3]) hC hI oX_63 (C := "EqualCourt$Steps") rfl ywX6_count tw_497 (cX6_count_ok  e7) ⟨Nat.le_of_ble_eq_true rfl, Nat.le_of_ble_eq_true rfl⟩ ⟨rfl, rfl⟩ rfl hl.1 rfl (Nat.le_of_ble_eq_true rfl) dX8_check_7 (fun H locs hI => ?_)
      refine lv_icmp_ge (tgt := 32) hx hb dX8_check_10 (by decide) (fun c10 => ?_) (fun c10 => ?_)
      · replace h := if_t h c10
        exact w32 v1 v2 _ _ _ hI (lv_sub hl [0, 1, 2] rfl) h
      · replace h := if_f h c10
        refine lv_aload_n hx hb dX8_check_13 rfl (lv_at hl 0 rfl) ?_
        refine gX8_steps hC hI tw_285 dX8_check_14 ?_
        refine lv_iload_n hx hb dX8_check_17 rfl (lv_at hl 3 rfl) ?_
        replace h := bp_at h
        obtain ⟨r18, e18, h⟩ := h
        refine r_calli (rest := []) hC hI oX_63 (C := "EqualCourt$Steps") rfl ywX6_isRight tw_806 (cX6_isRight_ok  e18) ⟨Nat.le_of_ble_eq_true rfl, Nat.le_of_ble_eq_true rfl⟩ ⟨rfl, rfl⟩ rfl hl.1 rfl (Nat.le_of_ble_eq_true rfl) dX8_check_18 (fun H locs hI => ?_)
        refine lv_if_ne (tgt := 26) hx hb dX8_check_21 (by decide) (fun c21 => ?_) (fun c21 => ?_)
        · replace h := if_f h c21
          obtain ⟨x26, e26⟩ : ∃ y : Int32, y = (v3 + (1 : Int32)) := ⟨_, rfl⟩
          replace h := bnd_at h e26
          refine lv_iinc (v := x26) (lv' := [(3, .int x26), (0, .ref (ad 0)), (1, .int v1), (2, .int v2)]) hx hb dX8_check_26 hl (k := 3) rfl (by rw [e26]; rfl) (by decide) rfl (fun ls hl => ?_)
          refine lv_goto (tgt := 2) hx hb dX8_check_29 (by decide) ?_
          exact ih2 v1 v2 x26 _ _ _ hI (lv_sub hl [1, 2, 3, 0] rfl) h
        · replace h := if_t h c21
          refine lv_iload_n hx hb dX8_check_24 rfl (lv_at hl 3 rfl) ?_
          exact hret (ret_p _ h) dX8_check_25 hI
  exact w2 FU v1 v2 (0 : Int32) _ _ _ hI (lv_sub hl [1, 2, 3, 0] rfl) h
theorem dX8_status_0 : decode cX8_status 0 = .ok (.aload_n 0, 1) := by decide +kernel
theorem dX8_status_1 : decode cX8_status 1 = .ok (.getfield 75, 3) := by decide +kernel
theorem dX8_status_4 : decode cX8_status 4 = .ok (.ireturn, 1) := by decide +kernel
abbrev rmX8_status : Room := { frames := 0, cells := 0, slots := 0, locals := 0 }
theorem ywX8_status : fY yX8_status "EqualCourt" cX8_status 1 (some .int) 0 := ⟨tw_845, tw_846, tw_1, tw_847, by decide +kernel⟩
set_option maxHeartbeats 4000000 in
set_option maxRecDepth 100000 in
theorem cX8_status_ok {D : va_G} {ad : Nat → Nat} {cy cz : ClassId} {l : Launch} {z : fS}  {r : Int32} (h : fX8_status z = some r) : fMi D 76 ad (cfX ad cy cz) cy cz l yX8_status cX8_status 1 (some .int) rmX8_status [.ref (ad 0)] z r z := by
  refine f_bodyi (by decide) (Nat.le_of_ble_eq_true rfl) (fun p e s m args below meth c Q hC hret ls hl hI => ?_)
  have hx := hC.1
  have hb := hC.2.1
  have hl : lv_has ls 1 [(0, .ref (ad 0))] := hl
  unfold fX8_status at h
  refine lv_aload_n hx hb dX8_status_0 rfl (lv_at hl 0 rfl) ?_
  refine gX8_finding hC hI tw_293 dX8_status_1 ?_
  exact hret (ret_p _ h) dX8_status_4 hI
