theorem dX9_why_0 : decode cX9_why 0 = .ok (.aload_n 0, 1) := by decide +kernel
theorem dX9_why_1 : decode cX9_why 1 = .ok (.iload_n 1, 1) := by decide +kernel
theorem dX9_why_2 : decode cX9_why 2 = .ok (.invokevirtual 132, 3) := by decide +kernel
theorem dX9_why_5 : decode cX9_why 5 = .ok (.ifCond .eq 11, 3) := by decide +kernel
theorem dX9_why_8 : decode cX9_why 8 = .ok (.aload_n 0, 1) := by decide +kernel
theorem dX9_why_9 : decode cX9_why 9 = .ok (.iload_n 2, 1) := by decide +kernel
theorem dX9_why_10 : decode cX9_why 10 = .ok (.invokevirtual 132, 3) := by decide +kernel
theorem dX9_why_13 : decode cX9_why 13 = .ok (.ifCond .ne 9, 3) := by decide +kernel
theorem dX9_why_16 : decode cX9_why 16 = .ok (.aload_n 0, 1) := by decide +kernel
theorem dX9_why_17 : decode cX9_why 17 = .ok (.iconst 1, 1) := by decide +kernel
theorem dX9_why_18 : decode cX9_why 18 = .ok (.invokevirtual 119, 3) := by decide +kernel
theorem dX9_why_21 : decode cX9_why 21 = .ok (.ireturn, 1) := by decide +kernel
theorem dX9_why_22 : decode cX9_why 22 = .ok (.aload_n 0, 1) := by decide +kernel
theorem dX9_why_23 : decode cX9_why 23 = .ok (.iload_n 1, 1) := by decide +kernel
theorem dX9_why_24 : decode cX9_why 24 = .ok (.iload_n 2, 1) := by decide +kernel
theorem dX9_why_25 : decode cX9_why 25 = .ok (.invokevirtual 210, 3) := by decide +kernel
theorem dX9_why_28 : decode cX9_why 28 = .ok (.istore_n 3, 1) := by decide +kernel
theorem dX9_why_29 : decode cX9_why 29 = .ok (.iload_n 3, 1) := by decide +kernel
theorem dX9_why_30 : decode cX9_why 30 = .ok (.iconst 2, 1) := by decide +kernel
theorem dX9_why_31 : decode cX9_why 31 = .ok (.if_icmp .ne 10, 3) := by decide +kernel
theorem dX9_why_34 : decode cX9_why 34 = .ok (.aload_n 0, 1) := by decide +kernel
theorem dX9_why_35 : decode cX9_why 35 = .ok (.bipush 6, 2) := by decide +kernel
theorem dX9_why_37 : decode cX9_why 37 = .ok (.invokevirtual 119, 3) := by decide +kernel
theorem dX9_why_40 : decode cX9_why 40 = .ok (.ireturn, 1) := by decide +kernel
theorem dX9_why_41 : decode cX9_why 41 = .ok (.aload_n 0, 1) := by decide +kernel
theorem dX9_why_42 : decode cX9_why 42 = .ok (.invokevirtual 158, 3) := by decide +kernel
theorem dX9_why_45 : decode cX9_why 45 = .ok (.iload_n 3, 1) := by decide +kernel
theorem dX9_why_46 : decode cX9_why 46 = .ok (.iconst 1, 1) := by decide +kernel
theorem dX9_why_47 : decode cX9_why 47 = .ok (.if_icmp .ne 20, 3) := by decide +kernel
theorem dX9_why_50 : decode cX9_why 50 = .ok (.aload_n 0, 1) := by decide +kernel
theorem dX9_why_51 : decode cX9_why 51 = .ok (.aload_n 0, 1) := by decide +kernel
theorem dX9_why_52 : decode cX9_why 52 = .ok (.iload_n 1, 1) := by decide +kernel
theorem dX9_why_53 : decode cX9_why 53 = .ok (.iload_n 2, 1) := by decide +kernel
theorem dX9_why_54 : decode cX9_why 54 = .ok (.aload_n 0, 1) := by decide +kernel
theorem dX9_why_55 : decode cX9_why 55 = .ok (.getfield 62, 3) := by decide +kernel
theorem dX9_why_58 : decode cX9_why 58 = .ok (.invokevirtual 189, 3) := by decide +kernel
theorem dX9_why_61 : decode cX9_why 61 = .ok (.putfield 214, 3) := by decide +kernel
theorem dX9_why_64 : decode cX9_why 64 = .ok (.goto 24, 3) := by decide +kernel
theorem dX9_why_67 : decode cX9_why 67 = .ok (.aload_n 0, 1) := by decide +kernel
theorem dX9_why_68 : decode cX9_why 68 = .ok (.iload_n 1, 1) := by decide +kernel
theorem dX9_why_69 : decode cX9_why 69 = .ok (.iload_n 2, 1) := by decide +kernel
theorem dX9_why_70 : decode cX9_why 70 = .ok (.iconst 1, 1) := by decide +kernel
theorem dX9_why_71 : decode cX9_why 71 = .ok (.invokevirtual 185, 3) := by decide +kernel
theorem dX9_why_74 : decode cX9_why 74 = .ok (.aload_n 0, 1) := by decide +kernel
theorem dX9_why_75 : decode cX9_why 75 = .ok (.aload_n 0, 1) := by decide +kernel
theorem dX9_why_76 : decode cX9_why 76 = .ok (.iconst (-1), 1) := by decide +kernel
theorem dX9_why_77 : decode cX9_why 77 = .ok (.iconst (-1), 1) := by decide +kernel
theorem dX9_why_78 : decode cX9_why 78 = .ok (.aload_n 0, 1) := by decide +kernel
theorem dX9_why_79 : decode cX9_why 79 = .ok (.getfield 62, 3) := by decide +kernel
theorem dX9_why_82 : decode cX9_why 82 = .ok (.invokevirtual 189, 3) := by decide +kernel
theorem dX9_why_85 : decode cX9_why 85 = .ok (.putfield 214, 3) := by decide +kernel
theorem dX9_why_88 : decode cX9_why 88 = .ok (.aload_n 0, 1) := by decide +kernel
theorem dX9_why_89 : decode cX9_why 89 = .ok (.aload_n 0, 1) := by decide +kernel
theorem dX9_why_90 : decode cX9_why 90 = .ok (.getfield 214, 3) := by decide +kernel
theorem dX9_why_93 : decode cX9_why 93 = .ok (.invokevirtual 123, 3) := by decide +kernel
theorem dX9_why_96 : decode cX9_why 96 = .ok (.ireturn, 1) := by decide +kernel
abbrev rmX9_why : Room := { frames := 7, cells := 0, slots := 0, locals := 164 }
theorem ywX9_why : fY yX9_why "EqualCourtModel" cX9_why 4 (some .int) 2 := ⟨tw_1134, tw_1135, tw_11, tw_1136, by decide +kernel⟩
set_option maxHeartbeats 4000000 in
set_option maxRecDepth 100000 in
theorem cX9_why_ok {D : va_G} {ad : Nat → Nat} {cy cz : ClassId} {l : Launch} {z : fS} {v1 : Int32} {v2 : Int32} {r : Int32} {τ : fS} (h : fX9_why z v1 v2 = some (r, τ)) : fMi D 31 ad (cfM ad cy cz) cy cz l yX9_why cX9_why 4 (some .int) rmX9_why [.ref (ad 0), .int v1, .int v2] z r τ := by
  refine f_bodyi (by decide) (Nat.le_of_ble_eq_true rfl) (fun p e s m args below meth c Q hC hret ls hl hI => ?_)
  have hx := hC.1
  have hb := hC.2.1
  have hl : lv_has ls 4 [(0, .ref (ad 0)), (1, .int v1), (2, .int v2)] := hl
  unfold fX9_why at h
  refine lv_aload_n hx hb dX9_why_0 rfl (lv_at hl 0 rfl) ?_
  refine lv_iload_n hx hb dX9_why_1 rfl (lv_at hl 1 rfl) ?_
  replace h := bp_at h
  obtain ⟨r2, e2, h⟩ := h
  refine r_calli (rest := []) hC hI oM_0 (C := "EqualCourtModel") rfl ywX9_isTerm tw_1013 (cX9_isTerm_ok  e2) ⟨Nat.le_of_ble_eq_true rfl, Nat.le_of_ble_eq_true rfl⟩ ⟨rfl, rfl⟩ rfl hl.1 rfl (Nat.le_of_ble_eq_true rfl) dX9_why_2 (fun H locs hI => ?_)
  refine lv_if_eq (tgt := 16) hx hb dX9_why_5 (by decide) (fun c5 => ?_) (fun c5 => ?_)
  · replace h := if_t h c5
    refine lv_aload_n hx hb dX9_why_16 rfl (lv_at hl 0 rfl) ?_
    refine lv_iconst (v := 1) hx hb dX9_why_17 (by decide) ?_
    replace h := bd_at h
    obtain ⟨r18, z18, e18, h⟩ := h
    refine r_calli (rest := []) hC hI oM_0 (C := "EqualCourtModel") rfl ywX9_refuse tw_985 (cX9_refuse_ok  e18) ⟨Nat.le_of_ble_eq_true rfl, Nat.le_of_ble_eq_true rfl⟩ ⟨rfl, rfl⟩ rfl hl.1 rfl (Nat.le_of_ble_eq_true rfl) dX9_why_18 (fun H locs hI => ?_)
    exact hret h dX9_why_21 hI
  · replace h := if_f h c5
    refine lv_aload_n hx hb dX9_why_8 rfl (lv_at hl 0 rfl) ?_
    refine lv_iload_n hx hb dX9_why_9 rfl (lv_at hl 2 rfl) ?_
    replace h := bp_at h
    obtain ⟨r10, e10, h⟩ := h
    refine r_calli (rest := []) hC hI oM_0 (C := "EqualCourtModel") rfl ywX9_isTerm tw_1013 (cX9_isTerm_ok  e10) ⟨Nat.le_of_ble_eq_true rfl, Nat.le_of_ble_eq_true rfl⟩ ⟨rfl, rfl⟩ rfl hl.1 rfl (Nat.le_of_ble_eq_true rfl) dX9_why_10 (fun H locs hI => ?_)
    refine lv_if_ne (tgt := 22) hx hb dX9_why_13 (by decide) (fun c13 => ?_) (fun c13 => ?_)
    · replace h := if_f h c13
      refine lv_aload_n hx hb dX9_why_22 rfl (lv_at hl 0 rfl) ?_
      refine lv_iload_n hx hb dX9_why_23 rfl (lv_at hl 1 rfl) ?_
      refine lv_iload_n hx hb dX9_why_24 rfl (lv_at hl 2 rfl) ?_
      replace h := bd_at h
      obtain ⟨r25, z25, e25, h⟩ := h
      refine r_calli (rest := []) hC hI oM_0 (C := "EqualCourtModel") rfl ywX9_judge tw_1137 (cX9_judge_ok  e25) ⟨Nat.le_of_ble_eq_true rfl, Nat.le_of_ble_eq_true rfl⟩ ⟨rfl, rfl⟩ rfl hl.1 rfl (Nat.le_of_ble_eq_true rfl) dX9_why_25 (fun H locs hI => ?_)
      refine lv_istore_n (lv' := [(3, .int r25), (0, .ref (ad 0)), (1, .int v1), (2, .int v2)]) hx hb dX9_why_28 rfl hl (by decide) rfl (fun ls hl => ?_)
      refine lv_iload_n hx hb dX9_why_29 rfl (lv_at hl 0 rfl) ?_
      refine lv_iconst (v := 2) hx hb dX9_why_30 (by decide) ?_
      refine lv_icmp_ne (tgt := 41) hx hb dX9_why_31 (by decide) (fun c31 => ?_) (fun c31 => ?_)
      · replace h := if_f h c31
        refine lv_aload_n hx hb dX9_why_41 rfl (lv_at hl 1 rfl) ?_
        replace h := bp_at h
        obtain ⟨z42, e42, h⟩ := h
        refine r_callv (rest := []) hC hI oM_0 (C := "EqualCourtModel") rfl ywX9_takeCourt tw_1053 (cX9_takeCourt_ok  e42) ⟨Nat.le_of_ble_eq_true rfl, Nat.le_of_ble_eq_true rfl⟩ ⟨rfl, rfl⟩ rfl hl.1 rfl (Nat.le_of_ble_eq_true rfl) dX9_why_42 (fun H locs hI => ?_)
        refine lv_iload_n hx hb dX9_why_45 rfl (lv_at hl 0 rfl) ?_
        refine lv_iconst (v := 1) hx hb dX9_why_46 (by decide) ?_
        refine lv_icmp_ne (tgt := 67) hx hb dX9_why_47 (by decide) (fun c47 => ?_) (fun c47 => ?_)
        · replace h := if_f h c47
          refine lv_aload_n hx hb dX9_why_67 rfl (lv_at hl 1 rfl) ?_
          refine lv_iload_n hx hb dX9_why_68 rfl (lv_at hl 2 rfl) ?_
          refine lv_iload_n hx hb dX9_why_69 rfl (lv_at hl 3 rfl) ?_
          refine lv_iconst (v := 1) hx hb dX9_why_70 (by decide) ?_
          replace h := bp_at h
          obtain ⟨z71, e71, h⟩ := h
          refine r_callv (rest := []) hC hI oM_0 (C := "EqualCourtModel") rfl ywX9_add tw_1089 (cX9_add_ok  e71) ⟨Nat.le_of_ble_eq_true rfl, Nat.le_of_ble_eq_true rfl⟩ ⟨rfl, rfl⟩ rfl hl.1 rfl (Nat.le_of_ble_eq_true rfl) dX9_why_71 (fun H locs hI => ?_)
          refine lv_aload_n hx hb dX9_why_74 rfl (lv_at hl 1 rfl) ?_
          refine lv_aload_n hx hb dX9_why_75 rfl (lv_at hl 1 rfl) ?_
          refine lv_iconst (v := -1) hx hb dX9_why_76 (by decide) ?_
          refine lv_iconst (v := -1) hx hb dX9_why_77 (by decide) ?_
          refine lv_aload_n hx hb dX9_why_78 rfl (lv_at hl 1 rfl) ?_
          refine gX9_whyRow hC hI tw_877 dX9_why_79 ?_
          replace h := bd_at h
          obtain ⟨r82, z82, e82, h⟩ := h
          refine r_calli (rest := [.ref (ad 0)]) hC hI oM_0 (C := "EqualCourtModel") rfl ywX9_thin tw_1097 (cX9_thin_ok aM_18 e82) ⟨Nat.le_of_ble_eq_true rfl, Nat.le_of_ble_eq_true rfl⟩ ⟨rfl, rfl⟩ rfl hl.1 rfl (Nat.le_of_ble_eq_true rfl) dX9_why_82 (fun H locs hI => ?_)
          refine pX9_whyMany hC hI tw_878 dX9_why_85 (fun z85 H locs e85 hI => ?_)
          replace h := bnd_at h e85
          refine lv_aload_n hx hb dX9_why_88 rfl (lv_at hl 1 rfl) ?_
          refine lv_aload_n hx hb dX9_why_89 rfl (lv_at hl 1 rfl) ?_
          refine gX9_whyMany hC hI tw_878 dX9_why_90 ?_
          replace h := bd_at h
          obtain ⟨r93, z93, e93, h⟩ := h
          refine r_calli (rest := []) hC hI oM_0 (C := "EqualCourtModel") rfl ywX9_done tw_1001 (cX9_done_ok  e93) ⟨Nat.le_of_ble_eq_true rfl, Nat.le_of_ble_eq_true rfl⟩ ⟨rfl, rfl⟩ rfl hl.1 rfl (Nat.le_of_ble_eq_true rfl) dX9_why_93 (fun H locs hI => ?_)
          exact hret h dX9_why_96 hI
        · replace h := if_t h c47
          refine lv_aload_n hx hb dX9_why_50 rfl (lv_at hl 1 rfl) ?_
          refine lv_aload_n hx hb dX9_why_51 rfl (lv_at hl 1 rfl) ?_
          refine lv_iload_n hx hb dX9_why_52 rfl (lv_at hl 2 rfl) ?_
          refine lv_iload_n hx hb dX9_why_53 rfl (lv_at hl 3 rfl) ?_
          refine lv_aload_n hx hb dX9_why_54 rfl (lv_at hl 1 rfl) ?_
          refine gX9_whyRow hC hI tw_877 dX9_why_55 ?_
          replace h := bd_at h
          obtain ⟨r58, z58, e58, h⟩ := h
          refine r_calli (rest := [.ref (ad 0)]) hC hI oM_0 (C := "EqualCourtModel") rfl ywX9_thin tw_1097 (cX9_thin_ok aM_18 e58) ⟨Nat.le_of_ble_eq_true rfl, Nat.le_of_ble_eq_true rfl⟩ ⟨rfl, rfl⟩ rfl hl.1 rfl (Nat.le_of_ble_eq_true rfl) dX9_why_58 (fun H locs hI => ?_)
          refine pX9_whyMany hC hI tw_878 dX9_why_61 (fun z61 H locs e61 hI => ?_)
          replace h := bnd_at h e61
          refine lv_goto (tgt := 88) hx hb dX9_why_64 (by decide) ?_
          refine lv_aload_n hx hb dX9_why_88 rfl (lv_at hl 1 rfl) ?_
          refine lv_aload_n hx hb dX9_why_89 rfl (lv_at hl 1 rfl) ?_
          refine gX9_whyMany hC hI tw_878 dX9_why_90 ?_
          replace h := bd_at h
          obtain ⟨r93, z93, e93, h⟩ := h
          refine r_calli (rest := []) hC hI oM_0 (C := "EqualCourtModel") rfl ywX9_done tw_1001 (cX9_done_ok  e93) ⟨Nat.le_of_ble_eq_true rfl, Nat.le_of_ble_eq_true rfl⟩ ⟨rfl, rfl⟩ rfl hl.1 rfl (Nat.le_of_ble_eq_true rfl) dX9_why_93 (fun H locs hI => ?_)
          exact hret h dX9_why_96 hI
      · replace h := if_t h c31
        refine lv_aload_n hx hb dX9_why_34 rfl (lv_at hl 1 rfl) ?_
        refine lv_bipush (v := 6) hx hb dX9_why_35 (by decide) ?_
        replace h := bd_at h
        obtain ⟨r37, z37, e37, h⟩ := h
        refine r_calli (rest := []) hC hI oM_0 (C := "EqualCourtModel") rfl ywX9_refuse tw_985 (cX9_refuse_ok  e37) ⟨Nat.le_of_ble_eq_true rfl, Nat.le_of_ble_eq_true rfl⟩ ⟨rfl, rfl⟩ rfl hl.1 rfl (Nat.le_of_ble_eq_true rfl) dX9_why_37 (fun H locs hI => ?_)
        exact hret h dX9_why_40 hI
    · replace h := if_t h c13
      refine lv_aload_n hx hb dX9_why_16 rfl (lv_at hl 0 rfl) ?_
      refine lv_iconst (v := 1) hx hb dX9_why_17 (by decide) ?_
      replace h := bd_at h
      obtain ⟨r18, z18, e18, h⟩ := h
      refine r_calli (rest := []) hC hI oM_0 (C := "EqualCourtModel") rfl ywX9_refuse tw_985 (cX9_refuse_ok  e18) ⟨Nat.le_of_ble_eq_true rfl, Nat.le_of_ble_eq_true rfl⟩ ⟨rfl, rfl⟩ rfl hl.1 rfl (Nat.le_of_ble_eq_true rfl) dX9_why_18 (fun H locs hI => ?_)
      exact hret h dX9_why_21 hI
theorem dX9_nextSet_0 : decode cX9_nextSet 0 = .ok (.iload_n 2, 1) := by decide +kernel
theorem dX9_nextSet_1 : decode cX9_nextSet 1 = .ok (.iconst 1, 1) := by decide +kernel
theorem dX9_nextSet_2 : decode cX9_nextSet 2 = .ok (.isub, 1) := by decide +kernel
theorem dX9_nextSet_3 : decode cX9_nextSet 3 = .ok (.istore_n 3, 1) := by decide +kernel
theorem dX9_nextSet_4 : decode cX9_nextSet 4 = .ok (.iload_n 3, 1) := by decide +kernel
theorem dX9_nextSet_5 : decode cX9_nextSet 5 = .ok (.ifCond .lt 23, 3) := by decide +kernel
theorem dX9_nextSet_8 : decode cX9_nextSet 8 = .ok (.aload_n 0, 1) := by decide +kernel
theorem dX9_nextSet_9 : decode cX9_nextSet 9 = .ok (.getfield 81, 3) := by decide +kernel
theorem dX9_nextSet_12 : decode cX9_nextSet 12 = .ok (.iload_n 3, 1) := by decide +kernel
theorem dX9_nextSet_13 : decode cX9_nextSet 13 = .ok (.iaload, 1) := by decide +kernel
theorem dX9_nextSet_14 : decode cX9_nextSet 14 = .ok (.iload_n 1, 1) := by decide +kernel
theorem dX9_nextSet_15 : decode cX9_nextSet 15 = .ok (.iload_n 2, 1) := by decide +kernel
theorem dX9_nextSet_16 : decode cX9_nextSet 16 = .ok (.isub, 1) := by decide +kernel
theorem dX9_nextSet_17 : decode cX9_nextSet 17 = .ok (.iload_n 3, 1) := by decide +kernel
theorem dX9_nextSet_18 : decode cX9_nextSet 18 = .ok (.iadd, 1) := by decide +kernel
theorem dX9_nextSet_19 : decode cX9_nextSet 19 = .ok (.if_icmp .ne 9, 3) := by decide +kernel
theorem dX9_nextSet_22 : decode cX9_nextSet 22 = .ok (.iinc 3 (-1), 3) := by decide +kernel
theorem dX9_nextSet_25 : decode cX9_nextSet 25 = .ok (.goto (-21), 3) := by decide +kernel
theorem dX9_nextSet_28 : decode cX9_nextSet 28 = .ok (.iload_n 3, 1) := by decide +kernel
theorem dX9_nextSet_29 : decode cX9_nextSet 29 = .ok (.ifCond .ge 5, 3) := by decide +kernel
theorem dX9_nextSet_32 : decode cX9_nextSet 32 = .ok (.iconst 0, 1) := by decide +kernel
theorem dX9_nextSet_33 : decode cX9_nextSet 33 = .ok (.ireturn, 1) := by decide +kernel
theorem dX9_nextSet_34 : decode cX9_nextSet 34 = .ok (.aload_n 0, 1) := by decide +kernel
theorem dX9_nextSet_35 : decode cX9_nextSet 35 = .ok (.getfield 81, 3) := by decide +kernel
theorem dX9_nextSet_38 : decode cX9_nextSet 38 = .ok (.iload_n 3, 1) := by decide +kernel
theorem dX9_nextSet_39 : decode cX9_nextSet 39 = .ok (.dup2, 1) := by decide +kernel
theorem dX9_nextSet_40 : decode cX9_nextSet 40 = .ok (.iaload, 1) := by decide +kernel
theorem dX9_nextSet_41 : decode cX9_nextSet 41 = .ok (.iconst 1, 1) := by decide +kernel
theorem dX9_nextSet_42 : decode cX9_nextSet 42 = .ok (.iadd, 1) := by decide +kernel
theorem dX9_nextSet_43 : decode cX9_nextSet 43 = .ok (.iastore, 1) := by decide +kernel
theorem dX9_nextSet_44 : decode cX9_nextSet 44 = .ok (.iload_n 3, 1) := by decide +kernel
theorem dX9_nextSet_45 : decode cX9_nextSet 45 = .ok (.iconst 1, 1) := by decide +kernel
theorem dX9_nextSet_46 : decode cX9_nextSet 46 = .ok (.iadd, 1) := by decide +kernel
theorem dX9_nextSet_47 : decode cX9_nextSet 47 = .ok (.istore 4, 2) := by decide +kernel
theorem dX9_nextSet_49 : decode cX9_nextSet 49 = .ok (.iload 4, 2) := by decide +kernel
theorem dX9_nextSet_51 : decode cX9_nextSet 51 = .ok (.iload_n 2, 1) := by decide +kernel
theorem dX9_nextSet_52 : decode cX9_nextSet 52 = .ok (.if_icmp .ge 27, 3) := by decide +kernel
theorem dX9_nextSet_55 : decode cX9_nextSet 55 = .ok (.aload_n 0, 1) := by decide +kernel
theorem dX9_nextSet_56 : decode cX9_nextSet 56 = .ok (.getfield 81, 3) := by decide +kernel
theorem dX9_nextSet_59 : decode cX9_nextSet 59 = .ok (.iload 4, 2) := by decide +kernel
theorem dX9_nextSet_61 : decode cX9_nextSet 61 = .ok (.aload_n 0, 1) := by decide +kernel
theorem dX9_nextSet_62 : decode cX9_nextSet 62 = .ok (.getfield 81, 3) := by decide +kernel
theorem dX9_nextSet_65 : decode cX9_nextSet 65 = .ok (.iload 4, 2) := by decide +kernel
theorem dX9_nextSet_67 : decode cX9_nextSet 67 = .ok (.iconst 1, 1) := by decide +kernel
theorem dX9_nextSet_68 : decode cX9_nextSet 68 = .ok (.isub, 1) := by decide +kernel
theorem dX9_nextSet_69 : decode cX9_nextSet 69 = .ok (.iaload, 1) := by decide +kernel
theorem dX9_nextSet_70 : decode cX9_nextSet 70 = .ok (.iconst 1, 1) := by decide +kernel
theorem dX9_nextSet_71 : decode cX9_nextSet 71 = .ok (.iadd, 1) := by decide +kernel
theorem dX9_nextSet_72 : decode cX9_nextSet 72 = .ok (.iastore, 1) := by decide +kernel
theorem dX9_nextSet_73 : decode cX9_nextSet 73 = .ok (.iinc 4 1, 3) := by decide +kernel
theorem dX9_nextSet_76 : decode cX9_nextSet 76 = .ok (.goto (-27), 3) := by decide +kernel
theorem dX9_nextSet_79 : decode cX9_nextSet 79 = .ok (.iconst 1, 1) := by decide +kernel
theorem dX9_nextSet_80 : decode cX9_nextSet 80 = .ok (.ireturn, 1) := by decide +kernel
abbrev rmX9_nextSet : Room := { frames := 0, cells := 0, slots := 0, locals := 0 }
theorem ywX9_nextSet : fY yX9_nextSet "EqualCourtModel" cX9_nextSet 5 (some .boolean) 2 := ⟨tw_1148, tp_51, tw_11, tw_1149, by decide +kernel⟩
set_option maxHeartbeats 4000000 in
set_option maxRecDepth 100000 in
theorem cX9_nextSet_ok {D : va_G} {ad : Nat → Nat} {cy cz : ClassId} {l : Launch} {z : fS} {v1 : Int32} {v2 : Int32} {r : Int32} {τ : fS} (h : fX9_nextSet z v1 v2 = some (r, τ)) : fMi D 31 ad (cfM ad cy cz) cy cz l yX9_nextSet cX9_nextSet 5 (some .boolean) rmX9_nextSet [.ref (ad 0), .int v1, .int v2] z r τ := by
  refine f_bodyz (by decide) (Nat.le_of_ble_eq_true rfl) (fun p e s m args below meth c Q hC hret ls hl hI => ?_)
  have hx := hC.1
  have hb := hC.2.1
  have hl : lv_has ls 5 [(0, .ref (ad 0)), (1, .int v1), (2, .int v2)] := hl
  unfold fX9_nextSet at h
  have w28 : ∀ (z : fS) (v2 : Int32) (v3 : Int32) (H : Heap) (locs : List Loc) (ls : Array Slot), fI D 31 ad (cfM ad cy cz) z s H locs → lv_has ls 5 [(0, .ref (ad 0)), (2, .int v2), (3, .int v3)] → jX9_nextSet_28   z v2 v3 = some (r, τ) → W p l e rmX9_nextSet s m args below meth c H locs 0 0 Q (F0 m 28 ls []) := by
    intro z v2 v3 H locs ls hI hl h
    unfold jX9_nextSet_28 at h
    refine lv_iload_n hx hb dX9_nextSet_28 rfl (lv_at hl 2 rfl) ?_
    refine lv_if_ge (tgt := 34) hx hb dX9_nextSet_29 (by decide) (fun c29 => ?_) (fun c29 => ?_)
    · replace h := if_t h c29
      refine lv_aload_n hx hb dX9_nextSet_34 rfl (lv_at hl 0 rfl) ?_
      refine gX9_chosen hC hI tw_886 dX9_nextSet_35 ?_
      refine lv_iload_n hx hb dX9_nextSet_38 rfl (lv_at hl 2 rfl) ?_
      refine lv_dup2_11 hx hb dX9_nextSet_39 rfl rfl ?_
      have g40 := (gd_at h).1
      replace h := (gd_at h).2
      refine r_iald hC hI aM_23 g40 dX9_nextSet_40 ?_
      refine lv_iconst (v := 1) hx hb dX9_nextSet_41 (by decide) ?_
      refine lv_iadd hx hb dX9_nextSet_42 ?_
      have g43 := (gd_at h).1
      replace h := (gd_at h).2
      refine r_iast hC hI aM_23 g43 dX9_nextSet_43 (fun z43 H locs e43 hI => ?_)
      replace h := bnd_at h e43
      refine lv_iload_n hx hb dX9_nextSet_44 rfl (lv_at hl 2 rfl) ?_
      refine lv_iconst (v := 1) hx hb dX9_nextSet_45 (by decide) ?_
      refine lv_iadd hx hb dX9_nextSet_46 ?_
      refine lv_topi (fun x47 e47 => ?_)
      replace h := bnd_at h e47
      refine lv_istore (lv' := [(4, .int x47), (0, .ref (ad 0)), (2, .int v2), (3, .int v3)]) hx hb dX9_nextSet_47 hl (by decide) rfl (fun ls hl => ?_)
      have w49 : ∀ (N49 : Nat) (v2 : Int32) (v4 : Int32) (z : fS) (H : Heap) (locs : List Loc) (ls : Array Slot), fI D 31 ad (cfM ad cy cz) z s H locs → lv_has ls 5 [(0, .ref (ad 0)), (2, .int v2), (4, .int v4)] → lX9_nextSet_49   v2 N49 v4 z = some (r, τ) → W p l e rmX9_nextSet s m args below meth c H locs 0 0 Q (F0 m 49 ls []) := by
        intro N49
        induction N49 with
        | zero =>
          intro v2 v4 z H locs ls hI hl h
          exact none_no h
        | succ N49 ih49 =>
          intro v2 v4 z H locs ls hI hl h
          rw [lX9_nextSet_49.eq_2] at h
          refine lv_iload hx hb dX9_nextSet_49 (lv_at hl 2 rfl) ?_
          refine lv_iload_n hx hb dX9_nextSet_51 rfl (lv_at hl 1 rfl) ?_
          refine lv_icmp_ge (tgt := 79) hx hb dX9_nextSet_52 (by decide) (fun c52 => ?_) (fun c52 => ?_)
          · replace h := if_t h c52
            refine lv_iconst (v := 1) hx hb dX9_nextSet_79 (by decide) ?_
            exact hret h (by decide) dX9_nextSet_80 hI
          · replace h := if_f h c52
            refine lv_aload_n hx hb dX9_nextSet_55 rfl (lv_at hl 0 rfl) ?_
            refine gX9_chosen hC hI tw_886 dX9_nextSet_56 ?_
            refine lv_iload hx hb dX9_nextSet_59 (lv_at hl 2 rfl) ?_
            refine lv_aload_n hx hb dX9_nextSet_61 rfl (lv_at hl 0 rfl) ?_
            refine gX9_chosen hC hI tw_886 dX9_nextSet_62 ?_
            refine lv_iload hx hb dX9_nextSet_65 (lv_at hl 2 rfl) ?_
            refine lv_iconst (v := 1) hx hb dX9_nextSet_67 (by decide) ?_
            refine lv_isub hx hb dX9_nextSet_68 ?_
            have g69 := (gd_at h).1
            replace h := (gd_at h).2
            refine r_iald hC hI aM_23 g69 dX9_nextSet_69 ?_
            refine lv_iconst (v := 1) hx hb dX9_nextSet_70 (by decide) ?_
            refine lv_iadd hx hb dX9_nextSet_71 ?_
            have g72 := (gd_at h).1
            replace h := (gd_at h).2
            refine r_iast hC hI aM_23 g72 dX9_nextSet_72 (fun z72 H locs e72 hI => ?_)
            replace h := bnd_at h e72
            obtain ⟨x73, e73⟩ : ∃ y : Int32, y = (v4 + (1 : Int32)) := ⟨_, rfl⟩
            replace h := bnd_at h e73
            refine lv_iinc (v := x73) (lv' := [(4, .int x73), (0, .ref (ad 0)), (2, .int v2)]) hx hb dX9_nextSet_73 hl (k := 2) rfl (by rw [e73]; rfl) (by decide) rfl (fun ls hl => ?_)
            refine lv_goto (tgt := 49) hx hb dX9_nextSet_76 (by decide) ?_
            exact ih49 v2 x73 z72 _ _ _ hI (lv_sub hl [1, 2, 0] rfl) h
      exact w49 FU v2 x47 z43 _ _ _ hI (lv_sub hl [1, 2, 0] rfl) h
    · replace h := if_f h c29
      refine lv_iconst (v := 0) hx hb dX9_nextSet_32 (by decide) ?_
      exact hret h (by decide) dX9_nextSet_33 hI
  refine lv_iload_n hx hb dX9_nextSet_0 rfl (lv_at hl 2 rfl) ?_
  refine lv_iconst (v := 1) hx hb dX9_nextSet_1 (by decide) ?_
  refine lv_isub hx hb dX9_nextSet_2 ?_
  refine lv_topi (fun x3 e3 => ?_)
  replace h := bnd_at h e3
  refine lv_istore_n (lv' := [(3, .int x3), (0, .ref (ad 0)), (1, .int v1), (2, .int v2)]) hx hb dX9_nextSet_3 rfl hl (by decide) rfl (fun ls hl => ?_)
  have w4 : ∀ (N4 : Nat) (z : fS) (v1 : Int32) (v2 : Int32) (v3 : Int32) (H : Heap) (locs : List Loc) (ls : Array Slot), fI D 31 ad (cfM ad cy cz) z s H locs → lv_has ls 5 [(0, .ref (ad 0)), (1, .int v1), (2, .int v2), (3, .int v3)] → lX9_nextSet_4  (jX9_nextSet_28   z v2) z v1 v2 N4 v3 = some (r, τ) → W p l e rmX9_nextSet s m args below meth c H locs 0 0 Q (F0 m 4 ls []) := by
    intro N4
    induction N4 with
    | zero =>
      intro z v1 v2 v3 H locs ls hI hl h
      exact none_no h
    | succ N4 ih4 =>
      intro z v1 v2 v3 H locs ls hI hl h
      rw [lX9_nextSet_4.eq_2] at h
      refine lv_iload_n hx hb dX9_nextSet_4 rfl (lv_at hl 3 rfl) ?_
      refine lv_if_lt (tgt := 28) hx hb dX9_nextSet_5 (by decide) (fun c5 => ?_) (fun c5 => ?_)
      · replace h := if_t h c5
        exact w28 z v2 v3 _ _ _ hI (lv_sub hl [0, 2, 3] rfl) h
      · replace h := if_f h c5
        refine lv_aload_n hx hb dX9_nextSet_8 rfl (lv_at hl 0 rfl) ?_
        refine gX9_chosen hC hI tw_886 dX9_nextSet_9 ?_
        refine lv_iload_n hx hb dX9_nextSet_12 rfl (lv_at hl 3 rfl) ?_
        have g13 := (gd_at h).1
        replace h := (gd_at h).2
        refine r_iald hC hI aM_23 g13 dX9_nextSet_13 ?_
        refine lv_iload_n hx hb dX9_nextSet_14 rfl (lv_at hl 1 rfl) ?_
        refine lv_iload_n hx hb dX9_nextSet_15 rfl (lv_at hl 2 rfl) ?_
        refine lv_isub hx hb dX9_nextSet_16 ?_
        refine lv_iload_n hx hb dX9_nextSet_17 rfl (lv_at hl 3 rfl) ?_
        refine lv_iadd hx hb dX9_nextSet_18 ?_
        refine lv_icmp_ne (tgt := 28) hx hb dX9_nextSet_19 (by decide) (fun c19 => ?_) (fun c19 => ?_)
        · replace h := if_f h c19
          exact w28 z v2 v3 _ _ _ hI (lv_sub hl [0, 2, 3] rfl) h
        · replace h := if_t h c19
          obtain ⟨x22, e22⟩ : ∃ y : Int32, y = (v3 + (-1 : Int32)) := ⟨_, rfl⟩
          replace h := bnd_at h e22
          refine lv_iinc (v := x22) (lv' := [(3, .int x22), (0, .ref (ad 0)), (1, .int v1), (2, .int v2)]) hx hb dX9_nextSet_22 hl (k := 3) rfl (by rw [e22]; rfl) (by decide) rfl (fun ls hl => ?_)
          refine lv_goto (tgt := 4) hx hb dX9_nextSet_25 (by decide) ?_
          exact ih4 z v1 v2 x22 _ _ _ hI (lv_sub hl [1, 2, 3, 0] rfl) h
  exact w4 FU z v1 v2 x3 _ _ _ hI (lv_sub hl [1, 2, 3, 0] rfl) h
theorem dX9_isEnough_0 : decode cX9_isEnough 0 = .ok (.iconst 0, 1) := by decide +kernel
theorem dX9_isEnough_1 : decode cX9_isEnough 1 = .ok (.istore 4, 2) := by decide +kernel
theorem dX9_isEnough_3 : decode cX9_isEnough 3 = .ok (.iload 4, 2) := by decide +kernel
theorem dX9_isEnough_5 : decode cX9_isEnough 5 = .ok (.bipush 100, 2) := by decide +kernel
theorem dX9_isEnough_7 : decode cX9_isEnough 7 = .ok (.if_icmp .gt 17, 3) := by decide +kernel
theorem dX9_isEnough_10 : decode cX9_isEnough 10 = .ok (.aload_n 0, 1) := by decide +kernel
theorem dX9_isEnough_11 : decode cX9_isEnough 11 = .ok (.getfield 75, 3) := by decide +kernel
theorem dX9_isEnough_14 : decode cX9_isEnough 14 = .ok (.iload 4, 2) := by decide +kernel
theorem dX9_isEnough_16 : decode cX9_isEnough 16 = .ok (.iconst 0, 1) := by decide +kernel
theorem dX9_isEnough_17 : decode cX9_isEnough 17 = .ok (.bastore, 1) := by decide +kernel
theorem dX9_isEnough_18 : decode cX9_isEnough 18 = .ok (.iinc 4 1, 3) := by decide +kernel
theorem dX9_isEnough_21 : decode cX9_isEnough 21 = .ok (.goto (-18), 3) := by decide +kernel
theorem dX9_isEnough_24 : decode cX9_isEnough 24 = .ok (.iconst 0, 1) := by decide +kernel
theorem dX9_isEnough_25 : decode cX9_isEnough 25 = .ok (.istore 4, 2) := by decide +kernel
theorem dX9_isEnough_27 : decode cX9_isEnough 27 = .ok (.iload 4, 2) := by decide +kernel
theorem dX9_isEnough_29 : decode cX9_isEnough 29 = .ok (.iload_n 1, 1) := by decide +kernel
theorem dX9_isEnough_30 : decode cX9_isEnough 30 = .ok (.if_icmp .ge 27, 3) := by decide +kernel
theorem dX9_isEnough_33 : decode cX9_isEnough 33 = .ok (.aload_n 0, 1) := by decide +kernel
theorem dX9_isEnough_34 : decode cX9_isEnough 34 = .ok (.getfield 75, 3) := by decide +kernel
theorem dX9_isEnough_37 : decode cX9_isEnough 37 = .ok (.aload_n 0, 1) := by decide +kernel
theorem dX9_isEnough_38 : decode cX9_isEnough 38 = .ok (.getfield 78, 3) := by decide +kernel
theorem dX9_isEnough_41 : decode cX9_isEnough 41 = .ok (.aload_n 0, 1) := by decide +kernel
theorem dX9_isEnough_42 : decode cX9_isEnough 42 = .ok (.getfield 81, 3) := by decide +kernel
theorem dX9_isEnough_45 : decode cX9_isEnough 45 = .ok (.iload 4, 2) := by decide +kernel
theorem dX9_isEnough_47 : decode cX9_isEnough 47 = .ok (.iaload, 1) := by decide +kernel
theorem dX9_isEnough_48 : decode cX9_isEnough 48 = .ok (.iaload, 1) := by decide +kernel
theorem dX9_isEnough_49 : decode cX9_isEnough 49 = .ok (.iconst 1, 1) := by decide +kernel
theorem dX9_isEnough_50 : decode cX9_isEnough 50 = .ok (.bastore, 1) := by decide +kernel
theorem dX9_isEnough_51 : decode cX9_isEnough 51 = .ok (.iinc 4 1, 3) := by decide +kernel
theorem dX9_isEnough_54 : decode cX9_isEnough 54 = .ok (.goto (-27), 3) := by decide +kernel
theorem dX9_isEnough_57 : decode cX9_isEnough 57 = .ok (.aload_n 0, 1) := by decide +kernel
theorem dX9_isEnough_58 : decode cX9_isEnough 58 = .ok (.invokevirtual 152, 3) := by decide +kernel
theorem dX9_isEnough_61 : decode cX9_isEnough 61 = .ok (.aload_n 0, 1) := by decide +kernel
theorem dX9_isEnough_62 : decode cX9_isEnough 62 = .ok (.getfield 72, 3) := by decide +kernel
theorem dX9_isEnough_65 : decode cX9_isEnough 65 = .ok (.iload_n 2, 1) := by decide +kernel
theorem dX9_isEnough_66 : decode cX9_isEnough 66 = .ok (.iaload, 1) := by decide +kernel
theorem dX9_isEnough_67 : decode cX9_isEnough 67 = .ok (.aload_n 0, 1) := by decide +kernel
theorem dX9_isEnough_68 : decode cX9_isEnough 68 = .ok (.getfield 72, 3) := by decide +kernel
theorem dX9_isEnough_71 : decode cX9_isEnough 71 = .ok (.iload_n 3, 1) := by decide +kernel
theorem dX9_isEnough_72 : decode cX9_isEnough 72 = .ok (.iaload, 1) := by decide +kernel
theorem dX9_isEnough_73 : decode cX9_isEnough 73 = .ok (.if_icmp .ne 7, 3) := by decide +kernel
theorem dX9_isEnough_76 : decode cX9_isEnough 76 = .ok (.iconst 1, 1) := by decide +kernel
theorem dX9_isEnough_77 : decode cX9_isEnough 77 = .ok (.goto 4, 3) := by decide +kernel
theorem dX9_isEnough_80 : decode cX9_isEnough 80 = .ok (.iconst 0, 1) := by decide +kernel
theorem dX9_isEnough_81 : decode cX9_isEnough 81 = .ok (.ireturn, 1) := by decide +kernel
abbrev rmX9_isEnough : Room := { frames := 4, cells := 0, slots := 0, locals := 94 }
theorem ywX9_isEnough : fY yX9_isEnough "EqualCourtModel" cX9_isEnough 5 (some .boolean) 3 := ⟨tw_1144, tp_50, tw_11, tw_1145, by decide +kernel⟩
set_option maxHeartbeats 4000000 in
set_option maxRecDepth 100000 in
theorem cX9_isEnough_ok {D : va_G} {ad : Nat → Nat} {cy cz : ClassId} {l : Launch} {z : fS} {v1 : Int32} {v2 : Int32} {v3 : Int32} {r : Int32} {τ : fS} (h : fX9_isEnough z v1 v2 v3 = some (r, τ)) : fMi D 31 ad (cfM ad cy cz) cy cz l yX9_isEnough cX9_isEnough 5 (some .boolean) rmX9_isEnough [.ref (ad 0), .int v1, .int v2, .int v3] z r τ := by
  refine f_bodyz (by decide) (Nat.le_of_ble_eq_true rfl) (fun p e s m args below meth c Q hC hret ls hl hI => ?_)
  have hx := hC.1
  have hb := hC.2.1
  have hl : lv_has ls 5 [(0, .ref (ad 0)), (1, .int v1), (2, .int v2), (3, .int v3)] := hl
  unfold fX9_isEnough at h
  have w57 : ∀ (v2 : Int32) (v3 : Int32) (z : fS) (H : Heap) (locs : List Loc) (ls : Array Slot), fI D 31 ad (cfM ad cy cz) z s H locs → lv_has ls 5 [(0, .ref (ad 0)), (2, .int v2), (3, .int v3)] → jX9_isEnough_57   v2 v3 z = some (r, τ) → W p l e rmX9_isEnough s m args below meth c H locs 0 0 Q (F0 m 57 ls []) := by
    intro v2 v3 z H locs ls hI hl h
    unfold jX9_isEnough_57 at h
    refine lv_aload_n hx hb dX9_isEnough_57 rfl (lv_at hl 0 rfl) ?_
    replace h := bp_at h
    obtain ⟨z58, e58, h⟩ := h
    refine r_callv (rest := []) hC hI oM_0 (C := "EqualCourtModel") rfl ywX9_findOnes tw_1057 (cX9_findOnes_ok  e58) ⟨Nat.le_of_ble_eq_true rfl, Nat.le_of_ble_eq_true rfl⟩ ⟨rfl, rfl⟩ rfl hl.1 rfl (Nat.le_of_ble_eq_true rfl) dX9_isEnough_58 (fun H locs hI => ?_)
    refine lv_aload_n hx hb dX9_isEnough_61 rfl (lv_at hl 0 rfl) ?_
    refine gX9_one hC hI tw_882 dX9_isEnough_62 ?_
    refine lv_iload_n hx hb dX9_isEnough_65 rfl (lv_at hl 1 rfl) ?_
    have g66 := (gd_at h).1
    replace h := (gd_at h).2
    refine r_iald hC hI aM_20 g66 dX9_isEnough_66 ?_
    refine lv_aload_n hx hb dX9_isEnough_67 rfl (lv_at hl 0 rfl) ?_
    refine gX9_one hC hI tw_882 dX9_isEnough_68 ?_
    refine lv_iload_n hx hb dX9_isEnough_71 rfl (lv_at hl 2 rfl) ?_
    have g72 := (gd_at h).1
    replace h := (gd_at h).2
    refine r_iald hC hI aM_20 g72 dX9_isEnough_72 ?_
    refine lv_icmp_ne (tgt := 80) hx hb dX9_isEnough_73 (by decide) (fun c73 => ?_) (fun c73 => ?_)
    · replace h := if_f h c73
      refine lv_iconst (v := 0) hx hb dX9_isEnough_80 (by decide) ?_
      exact hret h (by decide) dX9_isEnough_81 hI
    · replace h := if_t h c73
      refine lv_iconst (v := 1) hx hb dX9_isEnough_76 (by decide) ?_
      refine lv_goto (tgt := 81) hx hb dX9_isEnough_77 (by decide) ?_
      exact hret h (by decide) dX9_isEnough_81 hI
  have w24 : ∀ (v1 : Int32) (v2 : Int32) (v3 : Int32) (z : fS) (H : Heap) (locs : List Loc) (ls : Array Slot), fI D 31 ad (cfM ad cy cz) z s H locs → lv_has ls 5 [(0, .ref (ad 0)), (1, .int v1), (2, .int v2), (3, .int v3)] → jX9_isEnough_24   v1 v2 v3 z = some (r, τ) → W p l e rmX9_isEnough s m args below meth c H locs 0 0 Q (F0 m 24 ls []) := by
    intro v1 v2 v3 z H locs ls hI hl h
    unfold jX9_isEnough_24 at h
    refine lv_iconst (v := 0) hx hb dX9_isEnough_24 (by decide) ?_
    refine lv_istore (lv' := [(4, .int (0 : Int32)), (0, .ref (ad 0)), (1, .int v1), (2, .int v2), (3, .int v3)]) hx hb dX9_isEnough_25 hl (by decide) rfl (fun ls hl => ?_)
    have w27 : ∀ (N27 : Nat) (v1 : Int32) (v2 : Int32) (v3 : Int32) (v4 : Int32) (z : fS) (H : Heap) (locs : List Loc) (ls : Array Slot), fI D 31 ad (cfM ad cy cz) z s H locs → lv_has ls 5 [(0, .ref (ad 0)), (1, .int v1), (2, .int v2), (3, .int v3), (4, .int v4)] → lX9_isEnough_27  (jX9_isEnough_57   v2 v3) v1 v2 v3 N27 v4 z = some (r, τ) → W p l e rmX9_isEnough s m args below meth c H locs 0 0 Q (F0 m 27 ls []) := by
      intro N27
      induction N27 with
      | zero =>
        intro v1 v2 v3 v4 z H locs ls hI hl h
        exact none_no h
      | succ N27 ih27 =>
        intro v1 v2 v3 v4 z H locs ls hI hl h
        rw [lX9_isEnough_27.eq_2] at h
        refine lv_iload hx hb dX9_isEnough_27 (lv_at hl 4 rfl) ?_
        refine lv_iload_n hx hb dX9_isEnough_29 rfl (lv_at hl 1 rfl) ?_
        refine lv_icmp_ge (tgt := 57) hx hb dX9_isEnough_30 (by decide) (fun c30 => ?_) (fun c30 => ?_)
        · replace h := if_t h c30
          exact w57 v2 v3 z _ _ _ hI (lv_sub hl [0, 2, 3] rfl) h
        · replace h := if_f h c30
          refine lv_aload_n hx hb dX9_isEnough_33 rfl (lv_at hl 0 rfl) ?_
          refine gX9_isIn hC hI tw_883 dX9_isEnough_34 ?_
          refine lv_aload_n hx hb dX9_isEnough_37 rfl (lv_at hl 0 rfl) ?_
          refine gX9_court hC hI tw_885 dX9_isEnough_38 ?_
          refine lv_aload_n hx hb dX9_isEnough_41 rfl (lv_at hl 0 rfl) ?_
          refine gX9_chosen hC hI tw_886 dX9_isEnough_42 ?_
          refine lv_iload hx hb dX9_isEnough_45 (lv_at hl 4 rfl) ?_
          have g47 := (gd_at h).1
          replace h := (gd_at h).2
          refine r_iald hC hI aM_23 g47 dX9_isEnough_47 ?_
          have g48 := (gd_at h).1
          replace h := (gd_at h).2
          refine r_iald hC hI aM_22 g48 dX9_isEnough_48 ?_
          refine lv_iconst (v := 1) hx hb dX9_isEnough_49 (by decide) ?_
          have g50 := (gd_at h).1
          replace h := (gd_at h).2
          refine r_zast hC hI aM_21 g50 dX9_isEnough_50 (fun z50 H locs e50 hI => ?_)
          replace h := bnd_at h e50
          obtain ⟨x51, e51⟩ : ∃ y : Int32, y = (v4 + (1 : Int32)) := ⟨_, rfl⟩
          replace h := bnd_at h e51
          refine lv_iinc (v := x51) (lv' := [(4, .int x51), (0, .ref (ad 0)), (1, .int v1), (2, .int v2), (3, .int v3)]) hx hb dX9_isEnough_51 hl (k := 4) rfl (by rw [e51]; rfl) (by decide) rfl (fun ls hl => ?_)
          refine lv_goto (tgt := 27) hx hb dX9_isEnough_54 (by decide) ?_
          exact ih27 v1 v2 v3 x51 z50 _ _ _ hI (lv_sub hl [1, 2, 3, 4, 0] rfl) h
    exact w27 FU v1 v2 v3 (0 : Int32) z _ _ _ hI (lv_sub hl [1, 2, 3, 4, 0] rfl) h
  refine lv_iconst (v := 0) hx hb dX9_isEnough_0 (by decide) ?_
  refine lv_istore (lv' := [(4, .int (0 : Int32)), (0, .ref (ad 0)), (1, .int v1), (2, .int v2), (3, .int v3)]) hx hb dX9_isEnough_1 hl (by decide) rfl (fun ls hl => ?_)
  have w3 : ∀ (N3 : Nat) (v1 : Int32) (v2 : Int32) (v3 : Int32) (v4 : Int32) (z : fS) (H : Heap) (locs : List Loc) (ls : Array Slot), fI D 31 ad (cfM ad cy cz) z s H locs → lv_has ls 5 [(0, .ref (ad 0)), (1, .int v1), (2, .int v2), (3, .int v3), (4, .int v4)] → lX9_isEnough_3  (jX9_isEnough_24   v1 v2 v3) v1 v2 v3 N3 v4 z = some (r, τ) → W p l e rmX9_isEnough s m args below meth c H locs 0 0 Q (F0 m 3 ls []) := by
    intro N3
    induction N3 with
    | zero =>
      intro v1 v2 v3 v4 z H locs ls hI hl h
      exact none_no h
    | succ N3 ih3 =>
      intro v1 v2 v3 v4 z H locs ls hI hl h
      rw [lX9_isEnough_3.eq_2] at h
      refine lv_iload hx hb dX9_isEnough_3 (lv_at hl 4 rfl) ?_
      refine lv_bipush (v := 100) hx hb dX9_isEnough_5 (by decide) ?_
      refine lv_icmp_gt (tgt := 24) hx hb dX9_isEnough_7 (by decide) (fun c7 => ?_) (fun c7 => ?_)
      · replace h := if_t h c7
        exact w24 v1 v2 v3 z _ _ _ hI (lv_sub hl [0, 1, 2, 3] rfl) h
      · replace h := if_f h c7
        refine lv_aload_n hx hb dX9_isEnough_10 rfl (lv_at hl 0 rfl) ?_
        refine gX9_isIn hC hI tw_883 dX9_isEnough_11 ?_
        refine lv_iload hx hb dX9_isEnough_14 (lv_at hl 4 rfl) ?_
        refine lv_iconst (v := 0) hx hb dX9_isEnough_16 (by decide) ?_
        have g17 := (gd_at h).1
        replace h := (gd_at h).2
        refine r_zast hC hI aM_21 g17 dX9_isEnough_17 (fun z17 H locs e17 hI => ?_)
        replace h := bnd_at h e17
        obtain ⟨x18, e18⟩ : ∃ y : Int32, y = (v4 + (1 : Int32)) := ⟨_, rfl⟩
        replace h := bnd_at h e18
        refine lv_iinc (v := x18) (lv' := [(4, .int x18), (0, .ref (ad 0)), (1, .int v1), (2, .int v2), (3, .int v3)]) hx hb dX9_isEnough_18 hl (k := 4) rfl (by rw [e18]; rfl) (by decide) rfl (fun ls hl => ?_)
        refine lv_goto (tgt := 3) hx hb dX9_isEnough_21 (by decide) ?_
        exact ih3 v1 v2 v3 x18 z17 _ _ _ hI (lv_sub hl [1, 2, 3, 4, 0] rfl) h
  exact w3 FU v1 v2 v3 (0 : Int32) z _ _ _ hI (lv_sub hl [1, 2, 3, 4, 0] rfl) h
theorem dX9_least_0 : decode cX9_least 0 = .ok (.aload_n 0, 1) := by decide +kernel
theorem dX9_least_1 : decode cX9_least 1 = .ok (.iload_n 1, 1) := by decide +kernel
theorem dX9_least_2 : decode cX9_least 2 = .ok (.invokevirtual 132, 3) := by decide +kernel
theorem dX9_least_5 : decode cX9_least 5 = .ok (.ifCond .eq 23, 3) := by decide +kernel
theorem dX9_least_8 : decode cX9_least 8 = .ok (.aload_n 0, 1) := by decide +kernel
theorem dX9_least_9 : decode cX9_least 9 = .ok (.iload_n 2, 1) := by decide +kernel
theorem dX9_least_10 : decode cX9_least 10 = .ok (.invokevirtual 132, 3) := by decide +kernel
theorem dX9_least_13 : decode cX9_least 13 = .ok (.ifCond .eq 15, 3) := by decide +kernel
theorem dX9_least_16 : decode cX9_least 16 = .ok (.iload_n 3, 1) := by decide +kernel
theorem dX9_least_17 : decode cX9_least 17 = .ok (.iconst 1, 1) := by decide +kernel
theorem dX9_least_18 : decode cX9_least 18 = .ok (.if_icmp .lt 10, 3) := by decide +kernel
theorem dX9_least_21 : decode cX9_least 21 = .ok (.iload_n 3, 1) := by decide +kernel
theorem dX9_least_22 : decode cX9_least 22 = .ok (.sipush 500, 3) := by decide +kernel
theorem dX9_least_25 : decode cX9_least 25 = .ok (.if_icmp .le 9, 3) := by decide +kernel
theorem dX9_least_28 : decode cX9_least 28 = .ok (.aload_n 0, 1) := by decide +kernel
theorem dX9_least_29 : decode cX9_least 29 = .ok (.iconst 1, 1) := by decide +kernel
theorem dX9_least_30 : decode cX9_least 30 = .ok (.invokevirtual 119, 3) := by decide +kernel
theorem dX9_least_33 : decode cX9_least 33 = .ok (.ireturn, 1) := by decide +kernel
theorem dX9_least_34 : decode cX9_least 34 = .ok (.aload_n 0, 1) := by decide +kernel
theorem dX9_least_35 : decode cX9_least 35 = .ok (.iload_n 1, 1) := by decide +kernel
theorem dX9_least_36 : decode cX9_least 36 = .ok (.iload_n 2, 1) := by decide +kernel
theorem dX9_least_37 : decode cX9_least 37 = .ok (.invokevirtual 207, 3) := by decide +kernel
theorem dX9_least_40 : decode cX9_least 40 = .ok (.ifCond .ne 10, 3) := by decide +kernel
theorem dX9_least_43 : decode cX9_least 43 = .ok (.aload_n 0, 1) := by decide +kernel
theorem dX9_least_44 : decode cX9_least 44 = .ok (.bipush 6, 2) := by decide +kernel
theorem dX9_least_46 : decode cX9_least 46 = .ok (.invokevirtual 119, 3) := by decide +kernel
theorem dX9_least_49 : decode cX9_least 49 = .ok (.ireturn, 1) := by decide +kernel
theorem dX9_least_50 : decode cX9_least 50 = .ok (.iconst 0, 1) := by decide +kernel
theorem dX9_least_51 : decode cX9_least 51 = .ok (.istore 4, 2) := by decide +kernel
theorem dX9_least_53 : decode cX9_least 53 = .ok (.iconst 0, 1) := by decide +kernel
theorem dX9_least_54 : decode cX9_least 54 = .ok (.istore 5, 2) := by decide +kernel
theorem dX9_least_56 : decode cX9_least 56 = .ok (.iload 5, 2) := by decide +kernel
theorem dX9_least_58 : decode cX9_least 58 = .ok (.aload_n 0, 1) := by decide +kernel
theorem dX9_least_59 : decode cX9_least 59 = .ok (.getfield 155, 3) := by decide +kernel
theorem dX9_least_62 : decode cX9_least 62 = .ok (.if_icmp .ge 31, 3) := by decide +kernel
theorem dX9_least_65 : decode cX9_least 65 = .ok (.aload_n 0, 1) := by decide +kernel
theorem dX9_least_66 : decode cX9_least 66 = .ok (.getfield 32, 3) := by decide +kernel
theorem dX9_least_69 : decode cX9_least 69 = .ok (.iload 5, 2) := by decide +kernel
theorem dX9_least_71 : decode cX9_least 71 = .ok (.baload, 1) := by decide +kernel
theorem dX9_least_72 : decode cX9_least 72 = .ok (.ifCond .eq 15, 3) := by decide +kernel
theorem dX9_least_75 : decode cX9_least 75 = .ok (.aload_n 0, 1) := by decide +kernel
theorem dX9_least_76 : decode cX9_least 76 = .ok (.getfield 78, 3) := by decide +kernel
theorem dX9_least_79 : decode cX9_least 79 = .ok (.iload 4, 2) := by decide +kernel
theorem dX9_least_81 : decode cX9_least 81 = .ok (.iload 5, 2) := by decide +kernel
theorem dX9_least_83 : decode cX9_least 83 = .ok (.iastore, 1) := by decide +kernel
theorem dX9_least_84 : decode cX9_least 84 = .ok (.iinc 4 1, 3) := by decide +kernel
theorem dX9_least_87 : decode cX9_least 87 = .ok (.iinc 5 1, 3) := by decide +kernel
theorem dX9_least_90 : decode cX9_least 90 = .ok (.goto (-34), 3) := by decide +kernel
theorem dX9_least_93 : decode cX9_least 93 = .ok (.iload_n 3, 1) := by decide +kernel
theorem dX9_least_94 : decode cX9_least 94 = .ok (.istore 5, 2) := by decide +kernel
theorem dX9_least_96 : decode cX9_least 96 = .ok (.iconst 0, 1) := by decide +kernel
theorem dX9_least_97 : decode cX9_least 97 = .ok (.istore 6, 2) := by decide +kernel
theorem dX9_least_99 : decode cX9_least 99 = .ok (.iload 6, 2) := by decide +kernel
theorem dX9_least_101 : decode cX9_least 101 = .ok (.iload 4, 2) := by decide +kernel
theorem dX9_least_103 : decode cX9_least 103 = .ok (.if_icmp .gt 129, 3) := by decide +kernel
theorem dX9_least_106 : decode cX9_least 106 = .ok (.iconst 0, 1) := by decide +kernel
theorem dX9_least_107 : decode cX9_least 107 = .ok (.istore 7, 2) := by decide +kernel
theorem dX9_least_109 : decode cX9_least 109 = .ok (.iload 7, 2) := by decide +kernel
theorem dX9_least_111 : decode cX9_least 111 = .ok (.iload 6, 2) := by decide +kernel
theorem dX9_least_113 : decode cX9_least 113 = .ok (.if_icmp .ge 18, 3) := by decide +kernel
theorem dX9_least_116 : decode cX9_least 116 = .ok (.aload_n 0, 1) := by decide +kernel
theorem dX9_least_117 : decode cX9_least 117 = .ok (.getfield 81, 3) := by decide +kernel
theorem dX9_least_120 : decode cX9_least 120 = .ok (.iload 7, 2) := by decide +kernel
theorem dX9_least_122 : decode cX9_least 122 = .ok (.iload 7, 2) := by decide +kernel
theorem dX9_least_124 : decode cX9_least 124 = .ok (.iastore, 1) := by decide +kernel
theorem dX9_least_125 : decode cX9_least 125 = .ok (.iinc 7 1, 3) := by decide +kernel
theorem dX9_least_128 : decode cX9_least 128 = .ok (.goto (-19), 3) := by decide +kernel
theorem dX9_least_131 : decode cX9_least 131 = .ok (.iconst 1, 1) := by decide +kernel
theorem dX9_least_132 : decode cX9_least 132 = .ok (.istore 7, 2) := by decide +kernel
theorem dX9_least_134 : decode cX9_least 134 = .ok (.iload 7, 2) := by decide +kernel
theorem dX9_least_136 : decode cX9_least 136 = .ok (.ifCond .eq 90, 3) := by decide +kernel
theorem dX9_least_139 : decode cX9_least 139 = .ok (.iload 5, 2) := by decide +kernel
theorem dX9_least_141 : decode cX9_least 141 = .ok (.ifCond .ne 10, 3) := by decide +kernel
theorem dX9_least_144 : decode cX9_least 144 = .ok (.aload_n 0, 1) := by decide +kernel
theorem dX9_least_145 : decode cX9_least 145 = .ok (.bipush 7, 2) := by decide +kernel
theorem dX9_least_147 : decode cX9_least 147 = .ok (.invokevirtual 119, 3) := by decide +kernel
theorem dX9_least_150 : decode cX9_least 150 = .ok (.ireturn, 1) := by decide +kernel
theorem dX9_least_151 : decode cX9_least 151 = .ok (.iinc 5 (-1), 3) := by decide +kernel
theorem dX9_least_154 : decode cX9_least 154 = .ok (.aload_n 0, 1) := by decide +kernel
theorem dX9_least_155 : decode cX9_least 155 = .ok (.iload 6, 2) := by decide +kernel
theorem dX9_least_157 : decode cX9_least 157 = .ok (.iload_n 1, 1) := by decide +kernel
theorem dX9_least_158 : decode cX9_least 158 = .ok (.iload_n 2, 1) := by decide +kernel
theorem dX9_least_159 : decode cX9_least 159 = .ok (.invokevirtual 217, 3) := by decide +kernel
theorem dX9_least_162 : decode cX9_least 162 = .ok (.ifCond .eq 51, 3) := by decide +kernel
theorem dX9_least_165 : decode cX9_least 165 = .ok (.aload_n 0, 1) := by decide +kernel
theorem dX9_least_166 : decode cX9_least 166 = .ok (.iload 6, 2) := by decide +kernel
theorem dX9_least_168 : decode cX9_least 168 = .ok (.putfield 214, 3) := by decide +kernel
theorem dX9_least_171 : decode cX9_least 171 = .ok (.iconst 0, 1) := by decide +kernel
theorem dX9_least_172 : decode cX9_least 172 = .ok (.istore 8, 2) := by decide +kernel
theorem dX9_least_174 : decode cX9_least 174 = .ok (.iload 8, 2) := by decide +kernel
theorem dX9_least_176 : decode cX9_least 176 = .ok (.iload 6, 2) := by decide +kernel
theorem dX9_least_178 : decode cX9_least 178 = .ok (.if_icmp .ge 28, 3) := by decide +kernel
theorem dX9_least_181 : decode cX9_least 181 = .ok (.aload_n 0, 1) := by decide +kernel
theorem dX9_least_182 : decode cX9_least 182 = .ok (.getfield 62, 3) := by decide +kernel
theorem dX9_least_185 : decode cX9_least 185 = .ok (.iload 8, 2) := by decide +kernel
theorem dX9_least_187 : decode cX9_least 187 = .ok (.aload_n 0, 1) := by decide +kernel
theorem dX9_least_188 : decode cX9_least 188 = .ok (.getfield 78, 3) := by decide +kernel
theorem dX9_least_191 : decode cX9_least 191 = .ok (.aload_n 0, 1) := by decide +kernel
theorem dX9_least_192 : decode cX9_least 192 = .ok (.getfield 81, 3) := by decide +kernel
theorem dX9_least_195 : decode cX9_least 195 = .ok (.iload 8, 2) := by decide +kernel
theorem dX9_least_197 : decode cX9_least 197 = .ok (.iaload, 1) := by decide +kernel
theorem dX9_least_198 : decode cX9_least 198 = .ok (.iaload, 1) := by decide +kernel
theorem dX9_least_199 : decode cX9_least 199 = .ok (.iastore, 1) := by decide +kernel
theorem dX9_least_200 : decode cX9_least 200 = .ok (.iinc 8 1, 3) := by decide +kernel
theorem dX9_least_203 : decode cX9_least 203 = .ok (.goto (-29), 3) := by decide +kernel
theorem dX9_least_206 : decode cX9_least 206 = .ok (.aload_n 0, 1) := by decide +kernel
theorem dX9_least_207 : decode cX9_least 207 = .ok (.iload 6, 2) := by decide +kernel
theorem dX9_least_209 : decode cX9_least 209 = .ok (.invokevirtual 123, 3) := by decide +kernel
theorem dX9_least_212 : decode cX9_least 212 = .ok (.ireturn, 1) := by decide +kernel
theorem dX9_least_213 : decode cX9_least 213 = .ok (.aload_n 0, 1) := by decide +kernel
theorem dX9_least_214 : decode cX9_least 214 = .ok (.iload 4, 2) := by decide +kernel
theorem dX9_least_216 : decode cX9_least 216 = .ok (.iload 6, 2) := by decide +kernel
theorem dX9_least_218 : decode cX9_least 218 = .ok (.invokevirtual 221, 3) := by decide +kernel
theorem dX9_least_221 : decode cX9_least 221 = .ok (.istore 7, 2) := by decide +kernel
theorem dX9_least_223 : decode cX9_least 223 = .ok (.goto (-89), 3) := by decide +kernel
theorem dX9_least_226 : decode cX9_least 226 = .ok (.iinc 6 1, 3) := by decide +kernel
theorem dX9_least_229 : decode cX9_least 229 = .ok (.goto (-130), 3) := by decide +kernel
theorem dX9_least_232 : decode cX9_least 232 = .ok (.aload_n 0, 1) := by decide +kernel
theorem dX9_least_233 : decode cX9_least 233 = .ok (.bipush 7, 2) := by decide +kernel
theorem dX9_least_235 : decode cX9_least 235 = .ok (.invokevirtual 119, 3) := by decide +kernel
theorem dX9_least_238 : decode cX9_least 238 = .ok (.ireturn, 1) := by decide +kernel
abbrev rmX9_least : Room := { frames := 6, cells := 0, slots := 0, locals := 136 }
theorem ywX9_least : fY yX9_least "EqualCourtModel" cX9_least 9 (some .int) 3 := ⟨tw_1139, tw_1140, tw_11, tw_1141, by decide +kernel⟩
set_option maxHeartbeats 4000000 in
set_option maxRecDepth 100000 in
theorem cX9_least_ok {D : va_G} {ad : Nat → Nat} {cy cz : ClassId} {l : Launch} {z : fS} {v1 : Int32} {v2 : Int32} {v3 : Int32} {r : Int32} {τ : fS} (h : fX9_least z v1 v2 v3 = some (r, τ)) : fMi D 31 ad (cfM ad cy cz) cy cz l yX9_least cX9_least 9 (some .int) rmX9_least [.ref (ad 0), .int v1, .int v2, .int v3] z r τ := by
  refine f_bodyi (by decide) (Nat.le_of_ble_eq_true rfl) (fun p e s m args below meth c Q hC hret ls hl hI => ?_)
  have hx := hC.1
  have hb := hC.2.1
  have hl : lv_has ls 9 [(0, .ref (ad 0)), (1, .int v1), (2, .int v2), (3, .int v3)] := hl
  unfold fX9_least at h
  have w165 : ∀ (v6 : Int32) (z : fS) (H : Heap) (locs : List Loc) (ls : Array Slot), fI D 31 ad (cfM ad cy cz) z s H locs → lv_has ls 9 [(0, .ref (ad 0)), (6, .int v6)] → jX9_least_165   v6 z = some (r, τ) → W p l e rmX9_least s m args below meth c H locs 0 0 Q (F0 m 165 ls []) := by
    intro v6 z H locs ls hI hl h
    unfold jX9_least_165 at h
    refine lv_aload_n hx hb dX9_least_165 rfl (lv_at hl 0 rfl) ?_
    refine lv_iload hx hb dX9_least_166 (lv_at hl 1 rfl) ?_
    refine pX9_whyMany hC hI tw_878 dX9_least_168 (fun z168 H locs e168 hI => ?_)
    replace h := bnd_at h e168
    refine lv_iconst (v := 0) hx hb dX9_least_171 (by decide) ?_
    refine lv_istore (lv' := [(8, .int (0 : Int32)), (0, .ref (ad 0)), (6, .int v6)]) hx hb dX9_least_172 hl (by decide) rfl (fun ls hl => ?_)
    have w174 : ∀ (N174 : Nat) (v6 : Int32) (v8 : Int32) (z : fS) (H : Heap) (locs : List Loc) (ls : Array Slot), fI D 31 ad (cfM ad cy cz) z s H locs → lv_has ls 9 [(0, .ref (ad 0)), (6, .int v6), (8, .int v8)] → lX9_least_174   v6 N174 v8 z = some (r, τ) → W p l e rmX9_least s m args below meth c H locs 0 0 Q (F0 m 174 ls []) := by
      intro N174
      induction N174 with
      | zero =>
        intro v6 v8 z H locs ls hI hl h
        exact none_no h
      | succ N174 ih174 =>
        intro v6 v8 z H locs ls hI hl h
        rw [lX9_least_174.eq_2] at h
        refine lv_iload hx hb dX9_least_174 (lv_at hl 2 rfl) ?_
        refine lv_iload hx hb dX9_least_176 (lv_at hl 1 rfl) ?_
        refine lv_icmp_ge (tgt := 206) hx hb dX9_least_178 (by decide) (fun c178 => ?_) (fun c178 => ?_)
        · replace h := if_t h c178
          refine lv_aload_n hx hb dX9_least_206 rfl (lv_at hl 0 rfl) ?_
          refine lv_iload hx hb dX9_least_207 (lv_at hl 1 rfl) ?_
          replace h := bd_at h
          obtain ⟨r209, z209, e209, h⟩ := h
          refine r_calli (rest := []) hC hI oM_0 (C := "EqualCourtModel") rfl ywX9_done tw_1001 (cX9_done_ok  e209) ⟨Nat.le_of_ble_eq_true rfl, Nat.le_of_ble_eq_true rfl⟩ ⟨rfl, rfl⟩ rfl hl.1 rfl (Nat.le_of_ble_eq_true rfl) dX9_least_209 (fun H locs hI => ?_)
          exact hret h dX9_least_212 hI
        · replace h := if_f h c178
          refine lv_aload_n hx hb dX9_least_181 rfl (lv_at hl 0 rfl) ?_
          refine gX9_whyRow hC hI tw_877 dX9_least_182 ?_
          refine lv_iload hx hb dX9_least_185 (lv_at hl 2 rfl) ?_
          refine lv_aload_n hx hb dX9_least_187 rfl (lv_at hl 0 rfl) ?_
          refine gX9_court hC hI tw_885 dX9_least_188 ?_
          refine lv_aload_n hx hb dX9_least_191 rfl (lv_at hl 0 rfl) ?_
          refine gX9_chosen hC hI tw_886 dX9_least_192 ?_
          refine lv_iload hx hb dX9_least_195 (lv_at hl 2 rfl) ?_
          have g197 := (gd_at h).1
          replace h := (gd_at h).2
          refine r_iald hC hI aM_23 g197 dX9_least_197 ?_
          have g198 := (gd_at h).1
          replace h := (gd_at h).2
          refine r_iald hC hI aM_22 g198 dX9_least_198 ?_
          have g199 := (gd_at h).1
          replace h := (gd_at h).2
          refine r_iast hC hI aM_18 g199 dX9_least_199 (fun z199 H locs e199 hI => ?_)
          replace h := bnd_at h e199
          obtain ⟨x200, e200⟩ : ∃ y : Int32, y = (v8 + (1 : Int32)) := ⟨_, rfl⟩
          replace h := bnd_at h e200
          refine lv_iinc (v := x200) (lv' := [(8, .int x200), (0, .ref (ad 0)), (6, .int v6)]) hx hb dX9_least_200 hl (k := 2) rfl (by rw [e200]; rfl) (by decide) rfl (fun ls hl => ?_)
          refine lv_goto (tgt := 174) hx hb dX9_least_203 (by decide) ?_
          exact ih174 v6 x200 z199 _ _ _ hI (lv_sub hl [1, 2, 0] rfl) h
    exact w174 FU v6 (0 : Int32) z168 _ _ _ hI (lv_sub hl [1, 2, 0] rfl) h
  have w93 : ∀ (v1 : Int32) (v2 : Int32) (v3 : Int32) (v4 : Int32) (z : fS) (H : Heap) (locs : List Loc) (ls : Array Slot), fI D 31 ad (cfM ad cy cz) z s H locs → lv_has ls 9 [(0, .ref (ad 0)), (1, .int v1), (2, .int v2), (3, .int v3), (4, .int v4)] → jX9_least_93   v1 v2 v3 v4 z = some (r, τ) → W p l e rmX9_least s m args below meth c H locs 0 0 Q (F0 m 93 ls []) := by
    intro v1 v2 v3 v4 z H locs ls hI hl h
    unfold jX9_least_93 at h
    refine lv_iload_n hx hb dX9_least_93 rfl (lv_at hl 3 rfl) ?_
    refine lv_istore (lv' := [(5, .int v3), (0, .ref (ad 0)), (1, .int v1), (2, .int v2), (3, .int v3), (4, .int v4)]) hx hb dX9_least_94 hl (by decide) rfl (fun ls hl => ?_)
    refine lv_iconst (v := 0) hx hb dX9_least_96 (by decide) ?_
    refine lv_istore (lv' := [(6, .int (0 : Int32)), (5, .int v3), (0, .ref (ad 0)), (1, .int v1), (2, .int v2), (3, .int v3), (4, .int v4)]) hx hb dX9_least_97 hl (by decide) rfl (fun ls hl => ?_)
    have w99 : ∀ (N99 : Nat) (v1 : Int32) (v2 : Int32) (v4 : Int32) (v5 : Int32) (v6 : Int32) (z : fS) (H : Heap) (locs : List Loc) (ls : Array Slot), fI D 31 ad (cfM ad cy cz) z s H locs → lv_has ls 9 [(0, .ref (ad 0)), (1, .int v1), (2, .int v2), (4, .int v4), (5, .int v5), (6, .int v6)] → lX9_least_99  (jX9_least_165   ) v1 v2 v4 N99 v5 v6 z = some (r, τ) → W p l e rmX9_least s m args below meth c H locs 0 0 Q (F0 m 99 ls []) := by
      intro N99
      induction N99 with
      | zero =>
        intro v1 v2 v4 v5 v6 z H locs ls hI hl h
        exact none_no h
      | succ N99 ih99 =>
        have w226 : ∀ (v1 : Int32) (v2 : Int32) (v4 : Int32) (v6 : Int32) (v5 : Int32) (z : fS) (H : Heap) (locs : List Loc) (ls : Array Slot), fI D 31 ad (cfM ad cy cz) z s H locs → lv_has ls 9 [(0, .ref (ad 0)), (1, .int v1), (2, .int v2), (4, .int v4), (5, .int v5), (6, .int v6)] → jX9_least_226  (lX9_least_99  (jX9_least_165   ) v1 v2 v4 N99) (jX9_least_165   ) v1 v2 v4 v6 v5 z = some (r, τ) → W p l e rmX9_least s m args below meth c H locs 0 0 Q (F0 m 226 ls []) := by
          intro v1 v2 v4 v6 v5 z H locs ls hI hl h
          unfold jX9_least_226 at h
          obtain ⟨x226, e226⟩ : ∃ y : Int32, y = (v6 + (1 : Int32)) := ⟨_, rfl⟩
          replace h := bnd_at h e226
          refine lv_iinc (v := x226) (lv' := [(6, .int x226), (0, .ref (ad 0)), (1, .int v1), (2, .int v2), (4, .int v4), (5, .int v5)]) hx hb dX9_least_226 hl (k := 5) rfl (by rw [e226]; rfl) (by decide) rfl (fun ls hl => ?_)
          refine lv_goto (tgt := 99) hx hb dX9_least_229 (by decide) ?_
          exact ih99 v1 v2 v4 v5 x226 z _ _ _ hI (lv_sub hl [1, 2, 3, 4, 5, 0] rfl) h
        have w131 : ∀ (v1 : Int32) (v2 : Int32) (v4 : Int32) (v5 : Int32) (v6 : Int32) (z : fS) (H : Heap) (locs : List Loc) (ls : Array Slot), fI D 31 ad (cfM ad cy cz) z s H locs → lv_has ls 9 [(0, .ref (ad 0)), (1, .int v1), (2, .int v2), (4, .int v4), (5, .int v5), (6, .int v6)] → jX9_least_131  (lX9_least_99  (jX9_least_165   ) v1 v2 v4 N99) (jX9_least_165   ) v1 v2 v4 v5 v6 z = some (r, τ) → W p l e rmX9_least s m args below meth c H locs 0 0 Q (F0 m 131 ls []) := by
          intro v1 v2 v4 v5 v6 z H locs ls hI hl h
          unfold jX9_least_131 at h
          refine lv_iconst (v := 1) hx hb dX9_least_131 (by decide) ?_
          refine lv_istore (lv' := [(7, .int (1 : Int32)), (0, .ref (ad 0)), (1, .int v1), (2, .int v2), (4, .int v4), (5, .int v5), (6, .int v6)]) hx hb dX9_least_132 hl (by decide) rfl (fun ls hl => ?_)
          have w134 : ∀ (N134 : Nat) (v1 : Int32) (v2 : Int32) (v4 : Int32) (v6 : Int32) (v5 : Int32) (v7 : Int32) (z : fS) (H : Heap) (locs : List Loc) (ls : Array Slot), fI D 31 ad (cfM ad cy cz) z s H locs → lv_has ls 9 [(0, .ref (ad 0)), (1, .int v1), (2, .int v2), (4, .int v4), (5, .int v5), (6, .int v6), (7, .int v7)] → lX9_least_134  ((jX9_least_165   ) v6) (jX9_least_226  (lX9_least_99  (jX9_least_165   ) v1 v2 v4 N99) (jX9_least_165   ) v1 v2 v4 v6) v1 v2 v4 v6 N134 v5 v7 z = some (r, τ) → W p l e rmX9_least s m args below meth c H locs 0 0 Q (F0 m 134 ls []) := by
            intro N134
            induction N134 with
            | zero =>
              intro v1 v2 v4 v6 v5 v7 z H locs ls hI hl h
              exact none_no h
            | succ N134 ih134 =>
              intro v1 v2 v4 v6 v5 v7 z H locs ls hI hl h
              rw [lX9_least_134.eq_2] at h
              refine lv_iload hx hb dX9_least_134 (lv_at hl 6 rfl) ?_
              refine lv_if_eq (tgt := 226) hx hb dX9_least_136 (by decide) (fun c136 => ?_) (fun c136 => ?_)
              · replace h := if_t h c136
                exact w226 v1 v2 v4 v6 v5 z _ _ _ hI (lv_sub hl [0, 1, 2, 3, 4, 5] rfl) h
              · replace h := if_f h c136
                refine lv_iload hx hb dX9_least_139 (lv_at hl 4 rfl) ?_
                refine lv_if_ne (tgt := 151) hx hb dX9_least_141 (by decide) (fun c141 => ?_) (fun c141 => ?_)
                · replace h := if_f h c141
                  obtain ⟨x151, e151⟩ : ∃ y : Int32, y = (v5 + (-1 : Int32)) := ⟨_, rfl⟩
                  replace h := bnd_at h e151
                  refine lv_iinc (v := x151) (lv' := [(5, .int x151), (0, .ref (ad 0)), (1, .int v1), (2, .int v2), (4, .int v4), (6, .int v6), (7, .int v7)]) hx hb dX9_least_151 hl (k := 4) rfl (by rw [e151]; rfl) (by decide) rfl (fun ls hl => ?_)
                  refine lv_aload_n hx hb dX9_least_154 rfl (lv_at hl 1 rfl) ?_
                  refine lv_iload hx hb dX9_least_155 (lv_at hl 5 rfl) ?_
                  refine lv_iload_n hx hb dX9_least_157 rfl (lv_at hl 2 rfl) ?_
                  refine lv_iload_n hx hb dX9_least_158 rfl (lv_at hl 3 rfl) ?_
                  replace h := bd_at h
                  obtain ⟨r159, z159, e159, h⟩ := h
                  refine r_calli (rest := []) hC hI oM_0 (C := "EqualCourtModel") rfl ywX9_isEnough tw_1142 (cX9_isEnough_ok  e159) ⟨Nat.le_of_ble_eq_true rfl, Nat.le_of_ble_eq_true rfl⟩ ⟨rfl, rfl⟩ rfl hl.1 rfl (Nat.le_of_ble_eq_true rfl) dX9_least_159 (fun H locs hI => ?_)
                  refine lv_if_eq (tgt := 213) hx hb dX9_least_162 (by decide) (fun c162 => ?_) (fun c162 => ?_)
                  · replace h := if_t h c162
                    refine lv_aload_n hx hb dX9_least_213 rfl (lv_at hl 1 rfl) ?_
                    refine lv_iload hx hb dX9_least_214 (lv_at hl 4 rfl) ?_
                    refine lv_iload hx hb dX9_least_216 (lv_at hl 5 rfl) ?_
                    replace h := bd_at h
                    obtain ⟨r218, z218, e218, h⟩ := h
                    refine r_calli (rest := []) hC hI oM_0 (C := "EqualCourtModel") rfl ywX9_nextSet tw_1146 (cX9_nextSet_ok  e218) ⟨Nat.le_of_ble_eq_true rfl, Nat.le_of_ble_eq_true rfl⟩ ⟨rfl, rfl⟩ rfl hl.1 rfl (Nat.le_of_ble_eq_true rfl) dX9_least_218 (fun H locs hI => ?_)
                    refine lv_istore (lv' := [(7, .int r218), (5, .int x151), (0, .ref (ad 0)), (1, .int v1), (2, .int v2), (4, .int v4), (6, .int v6)]) hx hb dX9_least_221 hl (by decide) rfl (fun ls hl => ?_)
                    refine lv_goto (tgt := 134) hx hb dX9_least_223 (by decide) ?_
                    exact ih134 v1 v2 v4 v6 x151 r218 z218 _ _ _ hI (lv_sub hl [2, 3, 4, 5, 1, 6, 0] rfl) h
                  · replace h := if_f h c162
                    exact w165 v6 z159 _ _ _ hI (lv_sub hl [1, 5] rfl) h
                · replace h := if_t h c141
                  refine lv_aload_n hx hb dX9_least_144 rfl (lv_at hl 0 rfl) ?_
                  refine lv_bipush (v := 7) hx hb dX9_least_145 (by decide) ?_
                  replace h := bd_at h
                  obtain ⟨r147, z147, e147, h⟩ := h
                  refine r_calli (rest := []) hC hI oM_0 (C := "EqualCourtModel") rfl ywX9_refuse tw_985 (cX9_refuse_ok  e147) ⟨Nat.le_of_ble_eq_true rfl, Nat.le_of_ble_eq_true rfl⟩ ⟨rfl, rfl⟩ rfl hl.1 rfl (Nat.le_of_ble_eq_true rfl) dX9_least_147 (fun H locs hI => ?_)
                  exact hret h dX9_least_150 hI
          exact w134 FU v1 v2 v4 v6 v5 (1 : Int32) z _ _ _ hI (lv_sub hl [1, 2, 3, 4, 5, 6, 0] rfl) h
        intro v1 v2 v4 v5 v6 z H locs ls hI hl h
        rw [lX9_least_99.eq_2] at h
        refine lv_iload hx hb dX9_least_99 (lv_at hl 5 rfl) ?_
        refine lv_iload hx hb dX9_least_101 (lv_at hl 3 rfl) ?_
        refine lv_icmp_gt (tgt := 232) hx hb dX9_least_103 (by decide) (fun c103 => ?_) (fun c103 => ?_)
        · replace h := if_t h c103
          refine lv_aload_n hx hb dX9_least_232 rfl (lv_at hl 0 rfl) ?_
          refine lv_bipush (v := 7) hx hb dX9_least_233 (by decide) ?_
          replace h := bd_at h
          obtain ⟨r235, z235, e235, h⟩ := h
          refine r_calli (rest := []) hC hI oM_0 (C := "EqualCourtModel") rfl ywX9_refuse tw_985 (cX9_refuse_ok  e235) ⟨Nat.le_of_ble_eq_true rfl, Nat.le_of_ble_eq_true rfl⟩ ⟨rfl, rfl⟩ rfl hl.1 rfl (Nat.le_of_ble_eq_true rfl) dX9_least_235 (fun H locs hI => ?_)
          exact hret h dX9_least_238 hI
        · replace h := if_f h c103
          refine lv_iconst (v := 0) hx hb dX9_least_106 (by decide) ?_
          refine lv_istore (lv' := [(7, .int (0 : Int32)), (0, .ref (ad 0)), (1, .int v1), (2, .int v2), (4, .int v4), (5, .int v5), (6, .int v6)]) hx hb dX9_least_107 hl (by decide) rfl (fun ls hl => ?_)
          have w109 : ∀ (N109 : Nat) (v1 : Int32) (v2 : Int32) (v4 : Int32) (v5 : Int32) (v6 : Int32) (v7 : Int32) (z : fS) (H : Heap) (locs : List Loc) (ls : Array Slot), fI D 31 ad (cfM ad cy cz) z s H locs → lv_has ls 9 [(0, .ref (ad 0)), (1, .int v1), (2, .int v2), (4, .int v4), (5, .int v5), (6, .int v6), (7, .int v7)] → lX9_least_109  (jX9_least_131  (lX9_least_99  (jX9_least_165   ) v1 v2 v4 N99) (jX9_least_165   ) v1 v2 v4 v5 v6) v1 v2 v4 v5 v6 N109 v7 z = some (r, τ) → W p l e rmX9_least s m args below meth c H locs 0 0 Q (F0 m 109 ls []) := by
            intro N109
            induction N109 with
            | zero =>
              intro v1 v2 v4 v5 v6 v7 z H locs ls hI hl h
              exact none_no h
            | succ N109 ih109 =>
              intro v1 v2 v4 v5 v6 v7 z H locs ls hI hl h
              rw [lX9_least_109.eq_2] at h
              refine lv_iload hx hb dX9_least_109 (lv_at hl 6 rfl) ?_
              refine lv_iload hx hb dX9_least_111 (lv_at hl 5 rfl) ?_
              refine lv_icmp_ge (tgt := 131) hx hb dX9_least_113 (by decide) (fun c113 => ?_) (fun c113 => ?_)
              · replace h := if_t h c113
                exact w131 v1 v2 v4 v5 v6 z _ _ _ hI (lv_sub hl [0, 1, 2, 3, 4, 5] rfl) h
              · replace h := if_f h c113
                refine lv_aload_n hx hb dX9_least_116 rfl (lv_at hl 0 rfl) ?_
                refine gX9_chosen hC hI tw_886 dX9_least_117 ?_
                refine lv_iload hx hb dX9_least_120 (lv_at hl 6 rfl) ?_
                refine lv_iload hx hb dX9_least_122 (lv_at hl 6 rfl) ?_
                have g124 := (gd_at h).1
                replace h := (gd_at h).2
                refine r_iast hC hI aM_23 g124 dX9_least_124 (fun z124 H locs e124 hI => ?_)
                replace h := bnd_at h e124
                obtain ⟨x125, e125⟩ : ∃ y : Int32, y = (v7 + (1 : Int32)) := ⟨_, rfl⟩
                replace h := bnd_at h e125
                refine lv_iinc (v := x125) (lv' := [(7, .int x125), (0, .ref (ad 0)), (1, .int v1), (2, .int v2), (4, .int v4), (5, .int v5), (6, .int v6)]) hx hb dX9_least_125 hl (k := 6) rfl (by rw [e125]; rfl) (by decide) rfl (fun ls hl => ?_)
                refine lv_goto (tgt := 109) hx hb dX9_least_128 (by decide) ?_
                exact ih109 v1 v2 v4 v5 v6 x125 z124 _ _ _ hI (lv_sub hl [1, 2, 3, 4, 5, 6, 0] rfl) h
          exact w109 FU v1 v2 v4 v5 v6 (0 : Int32) z _ _ _ hI (lv_sub hl [1, 2, 3, 4, 5, 6, 0] rfl) h
    exact w99 FU v1 v2 v4 v3 (0 : Int32) z _ _ _ hI (lv_sub hl [2, 3, 4, 6, 1, 0] rfl) h
  refine lv_aload_n hx hb dX9_least_0 rfl (lv_at hl 0 rfl) ?_
  refine lv_iload_n hx hb dX9_least_1 rfl (lv_at hl 1 rfl) ?_
  replace h := bp_at h
  obtain ⟨r2, e2, h⟩ := h
  refine r_calli (rest := []) hC hI oM_0 (C := "EqualCourtModel") rfl ywX9_isTerm tw_1013 (cX9_isTerm_ok  e2) ⟨Nat.le_of_ble_eq_true rfl, Nat.le_of_ble_eq_true rfl⟩ ⟨rfl, rfl⟩ rfl hl.1 rfl (Nat.le_of_ble_eq_true rfl) dX9_least_2 (fun H locs hI => ?_)
  refine lv_if_eq (tgt := 28) hx hb dX9_least_5 (by decide) (fun c5 => ?_) (fun c5 => ?_)
  · replace h := if_t h c5
    refine lv_aload_n hx hb dX9_least_28 rfl (lv_at hl 0 rfl) ?_
    refine lv_iconst (v := 1) hx hb dX9_least_29 (by decide) ?_
    replace h := bd_at h
    obtain ⟨r30, z30, e30, h⟩ := h
    refine r_calli (rest := []) hC hI oM_0 (C := "EqualCourtModel") rfl ywX9_refuse tw_985 (cX9_refuse_ok  e30) ⟨Nat.le_of_ble_eq_true rfl, Nat.le_of_ble_eq_true rfl⟩ ⟨rfl, rfl⟩ rfl hl.1 rfl (Nat.le_of_ble_eq_true rfl) dX9_least_30 (fun H locs hI => ?_)
    exact hret h dX9_least_33 hI
  · replace h := if_f h c5
    refine lv_aload_n hx hb dX9_least_8 rfl (lv_at hl 0 rfl) ?_
    refine lv_iload_n hx hb dX9_least_9 rfl (lv_at hl 2 rfl) ?_
    replace h := bp_at h
    obtain ⟨r10, e10, h⟩ := h
    refine r_calli (rest := []) hC hI oM_0 (C := "EqualCourtModel") rfl ywX9_isTerm tw_1013 (cX9_isTerm_ok  e10) ⟨Nat.le_of_ble_eq_true rfl, Nat.le_of_ble_eq_true rfl⟩ ⟨rfl, rfl⟩ rfl hl.1 rfl (Nat.le_of_ble_eq_true rfl) dX9_least_10 (fun H locs hI => ?_)
    refine lv_if_eq (tgt := 28) hx hb dX9_least_13 (by decide) (fun c13 => ?_) (fun c13 => ?_)
    · replace h := if_t h c13
      refine lv_aload_n hx hb dX9_least_28 rfl (lv_at hl 0 rfl) ?_
      refine lv_iconst (v := 1) hx hb dX9_least_29 (by decide) ?_
      replace h := bd_at h
      obtain ⟨r30, z30, e30, h⟩ := h
      refine r_calli (rest := []) hC hI oM_0 (C := "EqualCourtModel") rfl ywX9_refuse tw_985 (cX9_refuse_ok  e30) ⟨Nat.le_of_ble_eq_true rfl, Nat.le_of_ble_eq_true rfl⟩ ⟨rfl, rfl⟩ rfl hl.1 rfl (Nat.le_of_ble_eq_true rfl) dX9_least_30 (fun H locs hI => ?_)
      exact hret h dX9_least_33 hI
    · replace h := if_f h c13
      refine lv_iload_n hx hb dX9_least_16 rfl (lv_at hl 3 rfl) ?_
      refine lv_iconst (v := 1) hx hb dX9_least_17 (by decide) ?_
      refine lv_icmp_lt (tgt := 28) hx hb dX9_least_18 (by decide) (fun c18 => ?_) (fun c18 => ?_)
      · replace h := if_t h c18
        refine lv_aload_n hx hb dX9_least_28 rfl (lv_at hl 0 rfl) ?_
        refine lv_iconst (v := 1) hx hb dX9_least_29 (by decide) ?_
        replace h := bd_at h
        obtain ⟨r30, z30, e30, h⟩ := h
        refine r_calli (rest := []) hC hI oM_0 (C := "EqualCourtModel") rfl ywX9_refuse tw_985 (cX9_refuse_ok  e30) ⟨Nat.le_of_ble_eq_true rfl, Nat.le_of_ble_eq_true rfl⟩ ⟨rfl, rfl⟩ rfl hl.1 rfl (Nat.le_of_ble_eq_true rfl) dX9_least_30 (fun H locs hI => ?_)
        exact hret h dX9_least_33 hI
      · replace h := if_f h c18
        refine lv_iload_n hx hb dX9_least_21 rfl (lv_at hl 3 rfl) ?_
        refine lv_sipush (v := 500) hx hb dX9_least_22 (by decide) ?_
        refine lv_icmp_le (tgt := 34) hx hb dX9_least_25 (by decide) (fun c25 => ?_) (fun c25 => ?_)
        · replace h := if_t h c25
          refine lv_aload_n hx hb dX9_least_34 rfl (lv_at hl 0 rfl) ?_
          refine lv_iload_n hx hb dX9_least_35 rfl (lv_at hl 1 rfl) ?_
          refine lv_iload_n hx hb dX9_least_36 rfl (lv_at hl 2 rfl) ?_
          replace h := bd_at h
          obtain ⟨r37, z37, e37, h⟩ := h
          refine r_calli (rest := []) hC hI oM_0 (C := "EqualCourtModel") rfl ywX9_areOne tw_1129 (cX9_areOne_ok  e37) ⟨Nat.le_of_ble_eq_true rfl, Nat.le_of_ble_eq_true rfl⟩ ⟨rfl, rfl⟩ rfl hl.1 rfl (Nat.le_of_ble_eq_true rfl) dX9_least_37 (fun H locs hI => ?_)
          refine lv_if_ne (tgt := 50) hx hb dX9_least_40 (by decide) (fun c40 => ?_) (fun c40 => ?_)
          · replace h := if_f h c40
            refine lv_iconst (v := 0) hx hb dX9_least_50 (by decide) ?_
            refine lv_istore (lv' := [(4, .int (0 : Int32)), (0, .ref (ad 0)), (1, .int v1), (2, .int v2), (3, .int v3)]) hx hb dX9_least_51 hl (by decide) rfl (fun ls hl => ?_)
            refine lv_iconst (v := 0) hx hb dX9_least_53 (by decide) ?_
            refine lv_istore (lv' := [(5, .int (0 : Int32)), (4, .int (0 : Int32)), (0, .ref (ad 0)), (1, .int v1), (2, .int v2), (3, .int v3)]) hx hb dX9_least_54 hl (by decide) rfl (fun ls hl => ?_)
            have w56 : ∀ (N56 : Nat) (v1 : Int32) (v2 : Int32) (v3 : Int32) (v4 : Int32) (v5 : Int32) (z : fS) (H : Heap) (locs : List Loc) (ls : Array Slot), fI D 31 ad (cfM ad cy cz) z s H locs → lv_has ls 9 [(0, .ref (ad 0)), (1, .int v1), (2, .int v2), (3, .int v3), (4, .int v4), (5, .int v5)] → lX9_least_56  (jX9_least_93   v1 v2 v3) v1 v2 v3 N56 v4 v5 z = some (r, τ) → W p l e rmX9_least s m args below meth c H locs 0 0 Q (F0 m 56 ls []) := by
              intro N56
              induction N56 with
              | zero =>
                intro v1 v2 v3 v4 v5 z H locs ls hI hl h
                exact none_no h
              | succ N56 ih56 =>
                intro v1 v2 v3 v4 v5 z H locs ls hI hl h
                rw [lX9_least_56.eq_2] at h
                refine lv_iload hx hb dX9_least_56 (lv_at hl 5 rfl) ?_
                refine lv_aload_n hx hb dX9_least_58 rfl (lv_at hl 0 rfl) ?_
                refine gX9_sayings hC hI tw_863 dX9_least_59 ?_
                refine lv_icmp_ge (tgt := 93) hx hb dX9_least_62 (by decide) (fun c62 => ?_) (fun c62 => ?_)
                · replace h := if_t h c62
                  exact w93 v1 v2 v3 v4 z _ _ _ hI (lv_sub hl [0, 1, 2, 3, 4] rfl) h
                · replace h := if_f h c62
                  refine lv_aload_n hx hb dX9_least_65 rfl (lv_at hl 0 rfl) ?_
                  refine gX9_isTaken hC hI tw_862 dX9_least_66 ?_
                  refine lv_iload hx hb dX9_least_69 (lv_at hl 5 rfl) ?_
                  have g71 := (gd_at h).1
                  replace h := (gd_at h).2
                  refine r_zald hC hI aM_8 g71 dX9_least_71 ?_
                  refine lv_if_eq (tgt := 87) hx hb dX9_least_72 (by decide) (fun c72 => ?_) (fun c72 => ?_)
                  · replace h := if_t h c72
                    obtain ⟨x87, e87⟩ : ∃ y : Int32, y = (v5 + (1 : Int32)) := ⟨_, rfl⟩
                    replace h := bnd_at h e87
                    refine lv_iinc (v := x87) (lv' := [(5, .int x87), (0, .ref (ad 0)), (1, .int v1), (2, .int v2), (3, .int v3), (4, .int v4)]) hx hb dX9_least_87 hl (k := 5) rfl (by rw [e87]; rfl) (by decide) rfl (fun ls hl => ?_)
                    refine lv_goto (tgt := 56) hx hb dX9_least_90 (by decide) ?_
                    exact ih56 v1 v2 v3 v4 x87 z _ _ _ hI (lv_sub hl [1, 2, 3, 4, 5, 0] rfl) h
                  · replace h := if_f h c72
                    refine lv_aload_n hx hb dX9_least_75 rfl (lv_at hl 0 rfl) ?_
                    refine gX9_court hC hI tw_885 dX9_least_76 ?_
                    refine lv_iload hx hb dX9_least_79 (lv_at hl 4 rfl) ?_
                    refine lv_iload hx hb dX9_least_81 (lv_at hl 5 rfl) ?_
                    have g83 := (gd_at h).1
                    replace h := (gd_at h).2
                    refine r_iast hC hI aM_22 g83 dX9_least_83 (fun z83 H locs e83 hI => ?_)
                    replace h := bnd_at h e83
                    obtain ⟨x84, e84⟩ : ∃ y : Int32, y = (v4 + (1 : Int32)) := ⟨_, rfl⟩
                    replace h := bnd_at h e84
                    refine lv_iinc (v := x84) (lv' := [(4, .int x84), (0, .ref (ad 0)), (1, .int v1), (2, .int v2), (3, .int v3), (5, .int v5)]) hx hb dX9_least_84 hl (k := 4) rfl (by rw [e84]; rfl) (by decide) rfl (fun ls hl => ?_)
                    obtain ⟨x87, e87⟩ : ∃ y : Int32, y = (v5 + (1 : Int32)) := ⟨_, rfl⟩
                    replace h := bnd_at h e87
                    refine lv_iinc (v := x87) (lv' := [(5, .int x87), (4, .int x84), (0, .ref (ad 0)), (1, .int v1), (2, .int v2), (3, .int v3)]) hx hb dX9_least_87 hl (k := 5) rfl (by rw [e87]; rfl) (by decide) rfl (fun ls hl => ?_)
                    refine lv_goto (tgt := 56) hx hb dX9_least_90 (by decide) ?_
                    exact ih56 v1 v2 v3 x84 x87 z83 _ _ _ hI (lv_sub hl [2, 3, 4, 5, 1, 0] rfl) h
            exact w56 FU v1 v2 v3 (0 : Int32) (0 : Int32) z37 _ _ _ hI (lv_sub hl [2, 3, 4, 5, 1, 0] rfl) h
          · replace h := if_t h c40
            refine lv_aload_n hx hb dX9_least_43 rfl (lv_at hl 0 rfl) ?_
            refine lv_bipush (v := 6) hx hb dX9_least_44 (by decide) ?_
            replace h := bd_at h
            obtain ⟨r46, z46, e46, h⟩ := h
            refine r_calli (rest := []) hC hI oM_0 (C := "EqualCourtModel") rfl ywX9_refuse tw_985 (cX9_refuse_ok  e46) ⟨Nat.le_of_ble_eq_true rfl, Nat.le_of_ble_eq_true rfl⟩ ⟨rfl, rfl⟩ rfl hl.1 rfl (Nat.le_of_ble_eq_true rfl) dX9_least_46 (fun H locs hI => ?_)
            exact hret h dX9_least_49 hI
        · replace h := if_f h c25
          refine lv_aload_n hx hb dX9_least_28 rfl (lv_at hl 0 rfl) ?_
          refine lv_iconst (v := 1) hx hb dX9_least_29 (by decide) ?_
          replace h := bd_at h
          obtain ⟨r30, z30, e30, h⟩ := h
          refine r_calli (rest := []) hC hI oM_0 (C := "EqualCourtModel") rfl ywX9_refuse tw_985 (cX9_refuse_ok  e30) ⟨Nat.le_of_ble_eq_true rfl, Nat.le_of_ble_eq_true rfl⟩ ⟨rfl, rfl⟩ rfl hl.1 rfl (Nat.le_of_ble_eq_true rfl) dX9_least_30 (fun H locs hI => ?_)
          exact hret h dX9_least_33 hI
theorem dX9_because_0 : decode cX9_because 0 = .ok (.iload_n 1, 1) := by decide +kernel
theorem dX9_because_1 : decode cX9_because 1 = .ok (.ifCond .lt 20, 3) := by decide +kernel
theorem dX9_because_4 : decode cX9_because 4 = .ok (.iload_n 1, 1) := by decide +kernel
theorem dX9_because_5 : decode cX9_because 5 = .ok (.aload_n 0, 1) := by decide +kernel
theorem dX9_because_6 : decode cX9_because 6 = .ok (.getfield 214, 3) := by decide +kernel
theorem dX9_because_9 : decode cX9_because 9 = .ok (.if_icmp .ge 12, 3) := by decide +kernel
theorem dX9_because_12 : decode cX9_because 12 = .ok (.aload_n 0, 1) := by decide +kernel
theorem dX9_because_13 : decode cX9_because 13 = .ok (.getfield 62, 3) := by decide +kernel
theorem dX9_because_16 : decode cX9_because 16 = .ok (.iload_n 1, 1) := by decide +kernel
theorem dX9_because_17 : decode cX9_because 17 = .ok (.iaload, 1) := by decide +kernel
theorem dX9_because_18 : decode cX9_because 18 = .ok (.goto 4, 3) := by decide +kernel
theorem dX9_because_21 : decode cX9_because 21 = .ok (.iconst (-1), 1) := by decide +kernel
theorem dX9_because_22 : decode cX9_because 22 = .ok (.ireturn, 1) := by decide +kernel
abbrev rmX9_because : Room := { frames := 0, cells := 0, slots := 0, locals := 0 }
theorem ywX9_because : fY yX9_because "EqualCourtModel" cX9_because 2 (some .int) 1 := ⟨tw_1151, tw_1152, tw_11, tw_1153, by decide +kernel⟩
set_option maxHeartbeats 4000000 in
set_option maxRecDepth 100000 in
theorem cX9_because_ok {D : va_G} {ad : Nat → Nat} {cy cz : ClassId} {l : Launch} {z : fS} {v1 : Int32} {r : Int32} (h : fX9_because z v1 = some r) : fMi D 31 ad (cfM ad cy cz) cy cz l yX9_because cX9_because 2 (some .int) rmX9_because [.ref (ad 0), .int v1] z r z := by
  refine f_bodyi (by decide) (Nat.le_of_ble_eq_true rfl) (fun p e s m args below meth c Q hC hret ls hl hI => ?_)
  have hx := hC.1
  have hb := hC.2.1
  have hl : lv_has ls 2 [(0, .ref (ad 0)), (1, .int v1)] := hl
  unfold fX9_because at h
  refine lv_iload_n hx hb dX9_because_0 rfl (lv_at hl 1 rfl) ?_
  refine lv_if_lt (tgt := 21) hx hb dX9_because_1 (by decide) (fun c1 => ?_) (fun c1 => ?_)
  · replace h := if_t h c1
    refine lv_iconst (v := -1) hx hb dX9_because_21 (by decide) ?_
    exact hret (ret_p _ h) dX9_because_22 hI
  · replace h := if_f h c1
    refine lv_iload_n hx hb dX9_because_4 rfl (lv_at hl 1 rfl) ?_
    refine lv_aload_n hx hb dX9_because_5 rfl (lv_at hl 0 rfl) ?_
    refine gX9_whyMany hC hI tw_878 dX9_because_6 ?_
    refine lv_icmp_ge (tgt := 21) hx hb dX9_because_9 (by decide) (fun c9 => ?_) (fun c9 => ?_)
    · replace h := if_t h c9
      refine lv_iconst (v := -1) hx hb dX9_because_21 (by decide) ?_
      exact hret (ret_p _ h) dX9_because_22 hI
    · replace h := if_f h c9
      refine lv_aload_n hx hb dX9_because_12 rfl (lv_at hl 0 rfl) ?_
      refine gX9_whyRow hC hI tw_877 dX9_because_13 ?_
      refine lv_iload_n hx hb dX9_because_16 rfl (lv_at hl 1 rfl) ?_
      have g17 := (gd_at h).1
      replace h := (gd_at h).2
      refine r_iald hC hI aM_18 g17 dX9_because_17 ?_
      refine lv_goto (tgt := 22) hx hb dX9_because_18 (by decide) ?_
      exact hret (ret_p _ h) dX9_because_22 hI
theorem dX9_head_0 : decode cX9_head 0 = .ok (.aload_n 0, 1) := by decide +kernel
theorem dX9_head_1 : decode cX9_head 1 = .ok (.iload_n 1, 1) := by decide +kernel
theorem dX9_head_2 : decode cX9_head 2 = .ok (.invokevirtual 132, 3) := by decide +kernel
theorem dX9_head_5 : decode cX9_head 5 = .ok (.ifCond .ne 5, 3) := by decide +kernel
theorem dX9_head_8 : decode cX9_head 8 = .ok (.iconst (-1), 1) := by decide +kernel
theorem dX9_head_9 : decode cX9_head 9 = .ok (.ireturn, 1) := by decide +kernel
theorem dX9_head_10 : decode cX9_head 10 = .ok (.aload_n 0, 1) := by decide +kernel
theorem dX9_head_11 : decode cX9_head 11 = .ok (.invokevirtual 161, 3) := by decide +kernel
theorem dX9_head_14 : decode cX9_head 14 = .ok (.aload_n 0, 1) := by decide +kernel
theorem dX9_head_15 : decode cX9_head 15 = .ok (.getfield 72, 3) := by decide +kernel
theorem dX9_head_18 : decode cX9_head 18 = .ok (.iload_n 1, 1) := by decide +kernel
theorem dX9_head_19 : decode cX9_head 19 = .ok (.iaload, 1) := by decide +kernel
theorem dX9_head_20 : decode cX9_head 20 = .ok (.ireturn, 1) := by decide +kernel
abbrev rmX9_head : Room := { frames := 5, cells := 0, slots := 0, locals := 114 }
theorem ywX9_head : fY yX9_head "EqualCourtModel" cX9_head 2 (some .int) 1 := ⟨tw_1155, tw_1156, tw_11, tw_1157, by decide +kernel⟩
set_option maxHeartbeats 4000000 in
set_option maxRecDepth 100000 in
theorem cX9_head_ok {D : va_G} {ad : Nat → Nat} {cy cz : ClassId} {l : Launch} {z : fS} {v1 : Int32} {r : Int32} {τ : fS} (h : fX9_head z v1 = some (r, τ)) : fMi D 31 ad (cfM ad cy cz) cy cz l yX9_head cX9_head 2 (some .int) rmX9_head [.ref (ad 0), .int v1] z r τ := by
  refine f_bodyi (by decide) (Nat.le_of_ble_eq_true rfl) (fun p e s m args below meth c Q hC hret ls hl hI => ?_)
  have hx := hC.1
  have hb := hC.2.1
  have hl : lv_has ls 2 [(0, .ref (ad 0)), (1, .int v1)] := hl
  unfold fX9_head at h
  refine lv_aload_n hx hb dX9_head_0 rfl (lv_at hl 0 rfl) ?_
  refine lv_iload_n hx hb dX9_head_1 rfl (lv_at hl 1 rfl) ?_
  replace h := bp_at h
  obtain ⟨r2, e2, h⟩ := h
  refine r_calli (rest := []) hC hI oM_0 (C := "EqualCourtModel") rfl ywX9_isTerm tw_1013 (cX9_isTerm_ok  e2) ⟨Nat.le_of_ble_eq_true rfl, Nat.le_of_ble_eq_true rfl⟩ ⟨rfl, rfl⟩ rfl hl.1 rfl (Nat.le_of_ble_eq_true rfl) dX9_head_2 (fun H locs hI => ?_)
  refine lv_if_ne (tgt := 10) hx hb dX9_head_5 (by decide) (fun c5 => ?_) (fun c5 => ?_)
  · replace h := if_f h c5
    refine lv_aload_n hx hb dX9_head_10 rfl (lv_at hl 0 rfl) ?_
    replace h := bp_at h
    obtain ⟨z11, e11, h⟩ := h
    refine r_callv (rest := []) hC hI oM_0 (C := "EqualCourtModel") rfl ywX9_court tw_1049 (cX9_court_ok  e11) ⟨Nat.le_of_ble_eq_true rfl, Nat.le_of_ble_eq_true rfl⟩ ⟨rfl, rfl⟩ rfl hl.1 rfl (Nat.le_of_ble_eq_true rfl) dX9_head_11 (fun H locs hI => ?_)
    refine lv_aload_n hx hb dX9_head_14 rfl (lv_at hl 0 rfl) ?_
    refine gX9_one hC hI tw_882 dX9_head_15 ?_
    refine lv_iload_n hx hb dX9_head_18 rfl (lv_at hl 1 rfl) ?_
    have g19 := (gd_at h).1
    replace h := (gd_at h).2
    refine r_iald hC hI aM_20 g19 dX9_head_19 ?_
    exact hret h dX9_head_20 hI
  · replace h := if_t h c5
    refine lv_iconst (v := -1) hx hb dX9_head_8 (by decide) ?_
    exact hret h dX9_head_9 hI
theorem dX9_member_0 : decode cX9_member 0 = .ok (.aload_n 0, 1) := by decide +kernel
theorem dX9_member_1 : decode cX9_member 1 = .ok (.iload_n 1, 1) := by decide +kernel
theorem dX9_member_2 : decode cX9_member 2 = .ok (.invokevirtual 132, 3) := by decide +kernel
theorem dX9_member_5 : decode cX9_member 5 = .ok (.ifCond .ne 5, 3) := by decide +kernel
theorem dX9_member_8 : decode cX9_member 8 = .ok (.iconst (-1), 1) := by decide +kernel
theorem dX9_member_9 : decode cX9_member 9 = .ok (.ireturn, 1) := by decide +kernel
theorem dX9_member_10 : decode cX9_member 10 = .ok (.aload_n 0, 1) := by decide +kernel
theorem dX9_member_11 : decode cX9_member 11 = .ok (.invokevirtual 161, 3) := by decide +kernel
theorem dX9_member_14 : decode cX9_member 14 = .ok (.iload_n 2, 1) := by decide +kernel
theorem dX9_member_15 : decode cX9_member 15 = .ok (.istore_n 3, 1) := by decide +kernel
theorem dX9_member_16 : decode cX9_member 16 = .ok (.iconst 0, 1) := by decide +kernel
theorem dX9_member_17 : decode cX9_member 17 = .ok (.istore 4, 2) := by decide +kernel
theorem dX9_member_19 : decode cX9_member 19 = .ok (.iload 4, 2) := by decide +kernel
theorem dX9_member_21 : decode cX9_member 21 = .ok (.aload_n 0, 1) := by decide +kernel
theorem dX9_member_22 : decode cX9_member 22 = .ok (.getfield 108, 3) := by decide +kernel
theorem dX9_member_25 : decode cX9_member 25 = .ok (.if_icmp .ge 35, 3) := by decide +kernel
theorem dX9_member_28 : decode cX9_member 28 = .ok (.aload_n 0, 1) := by decide +kernel
theorem dX9_member_29 : decode cX9_member 29 = .ok (.getfield 72, 3) := by decide +kernel
theorem dX9_member_32 : decode cX9_member 32 = .ok (.iload 4, 2) := by decide +kernel
theorem dX9_member_34 : decode cX9_member 34 = .ok (.iaload, 1) := by decide +kernel
theorem dX9_member_35 : decode cX9_member 35 = .ok (.aload_n 0, 1) := by decide +kernel
theorem dX9_member_36 : decode cX9_member 36 = .ok (.getfield 72, 3) := by decide +kernel
theorem dX9_member_39 : decode cX9_member 39 = .ok (.iload_n 1, 1) := by decide +kernel
theorem dX9_member_40 : decode cX9_member 40 = .ok (.iaload, 1) := by decide +kernel
theorem dX9_member_41 : decode cX9_member 41 = .ok (.if_icmp .ne 13, 3) := by decide +kernel
theorem dX9_member_44 : decode cX9_member 44 = .ok (.iload_n 3, 1) := by decide +kernel
theorem dX9_member_45 : decode cX9_member 45 = .ok (.ifCond .ne 6, 3) := by decide +kernel
theorem dX9_member_48 : decode cX9_member 48 = .ok (.iload 4, 2) := by decide +kernel
theorem dX9_member_50 : decode cX9_member 50 = .ok (.ireturn, 1) := by decide +kernel
theorem dX9_member_51 : decode cX9_member 51 = .ok (.iinc 3 (-1), 3) := by decide +kernel
theorem dX9_member_54 : decode cX9_member 54 = .ok (.iinc 4 1, 3) := by decide +kernel
theorem dX9_member_57 : decode cX9_member 57 = .ok (.goto (-38), 3) := by decide +kernel
theorem dX9_member_60 : decode cX9_member 60 = .ok (.iconst (-1), 1) := by decide +kernel
theorem dX9_member_61 : decode cX9_member 61 = .ok (.ireturn, 1) := by decide +kernel
abbrev rmX9_member : Room := { frames := 5, cells := 0, slots := 0, locals := 114 }
theorem ywX9_member : fY yX9_member "EqualCourtModel" cX9_member 5 (some .int) 2 := ⟨tw_1159, tw_1160, tw_11, tw_1161, by decide +kernel⟩
set_option maxHeartbeats 4000000 in
set_option maxRecDepth 100000 in
theorem cX9_member_ok {D : va_G} {ad : Nat → Nat} {cy cz : ClassId} {l : Launch} {z : fS} {v1 : Int32} {v2 : Int32} {r : Int32} {τ : fS} (h : fX9_member z v1 v2 = some (r, τ)) : fMi D 31 ad (cfM ad cy cz) cy cz l yX9_member cX9_member 5 (some .int) rmX9_member [.ref (ad 0), .int v1, .int v2] z r τ := by
  refine f_bodyi (by decide) (Nat.le_of_ble_eq_true rfl) (fun p e s m args below meth c Q hC hret ls hl hI => ?_)
  have hx := hC.1
  have hb := hC.2.1
  have hl : lv_has ls 5 [(0, .ref (ad 0)), (1, .int v1), (2, .int v2)] := hl
  unfold fX9_member at h
  refine lv_aload_n hx hb dX9_member_0 rfl (lv_at hl 0 rfl) ?_
  refine lv_iload_n hx hb dX9_member_1 rfl (lv_at hl 1 rfl) ?_
  replace h := bp_at h
  obtain ⟨r2, e2, h⟩ := h
  refine r_calli (rest := []) hC hI oM_0 (C := "EqualCourtModel") rfl ywX9_isTerm tw_1013 (cX9_isTerm_ok  e2) ⟨Nat.le_of_ble_eq_true rfl, Nat.le_of_ble_eq_true rfl⟩ ⟨rfl, rfl⟩ rfl hl.1 rfl (Nat.le_of_ble_eq_true rfl) dX9_member_2 (fun H locs hI => ?_)
  refine lv_if_ne (tgt := 10) hx hb dX9_member_5 (by decide) (fun c5 => ?_) (fun c5 => ?_)
  · replace h := if_f h c5
    refine lv_aload_n hx hb dX9_member_10 rfl (lv_at hl 0 rfl) ?_
    replace h := bp_at h
    obtain ⟨z11, e11, h⟩ := h
    refine r_callv (rest := []) hC hI oM_0 (C := "EqualCourtModel") rfl ywX9_court tw_1049 (cX9_court_ok  e11) ⟨Nat.le_of_ble_eq_true rfl, Nat.le_of_ble_eq_true rfl⟩ ⟨rfl, rfl⟩ rfl hl.1 rfl (Nat.le_of_ble_eq_true rfl) dX9_member_11 (fun H locs hI => ?_)
    refine lv_iload_n hx hb dX9_member_14 rfl (lv_at hl 2 rfl) ?_
    refine lv_istore_n (lv' := [(3, .int v2), (0, .ref (ad 0)), (1, .int v1), (2, .int v2)]) hx hb dX9_member_15 rfl hl (by decide) rfl (fun ls hl => ?_)
    refine lv_iconst (v := 0) hx hb dX9_member_16 (by decide) ?_
    refine lv_istore (lv' := [(4, .int (0 : Int32)), (3, .int v2), (0, .ref (ad 0)), (1, .int v1), (2, .int v2)]) hx hb dX9_member_17 hl (by decide) rfl (fun ls hl => ?_)
    have w19 : ∀ (N19 : Nat) (z : fS) (v1 : Int32) (v3 : Int32) (v4 : Int32) (H : Heap) (locs : List Loc) (ls : Array Slot), fI D 31 ad (cfM ad cy cz) z s H locs → lv_has ls 5 [(0, .ref (ad 0)), (1, .int v1), (3, .int v3), (4, .int v4)] → lX9_member_19   z v1 N19 v3 v4 = some (r, τ) → W p l e rmX9_member s m args below meth c H locs 0 0 Q (F0 m 19 ls []) := by
      intro N19
      induction N19 with
      | zero =>
        intro z v1 v3 v4 H locs ls hI hl h
        exact none_no h
      | succ N19 ih19 =>
        intro z v1 v3 v4 H locs ls hI hl h
        rw [lX9_member_19.eq_2] at h
        refine lv_iload hx hb dX9_member_19 (lv_at hl 3 rfl) ?_
        refine lv_aload_n hx hb dX9_member_21 rfl (lv_at hl 0 rfl) ?_
        refine gX9_terms hC hI tw_858 dX9_member_22 ?_
        refine lv_icmp_ge (tgt := 60) hx hb dX9_member_25 (by decide) (fun c25 => ?_) (fun c25 => ?_)
        · replace h := if_t h c25
          refine lv_iconst (v := -1) hx hb dX9_member_60 (by decide) ?_
          exact hret h dX9_member_61 hI
        · replace h := if_f h c25
          refine lv_aload_n hx hb dX9_member_28 rfl (lv_at hl 0 rfl) ?_
          refine gX9_one hC hI tw_882 dX9_member_29 ?_
          refine lv_iload hx hb dX9_member_32 (lv_at hl 3 rfl) ?_
          have g34 := (gd_at h).1
          replace h := (gd_at h).2
          refine r_iald hC hI aM_20 g34 dX9_member_34 ?_
          refine lv_aload_n hx hb dX9_member_35 rfl (lv_at hl 0 rfl) ?_
          refine gX9_one hC hI tw_882 dX9_member_36 ?_
          refine lv_iload_n hx hb dX9_member_39 rfl (lv_at hl 1 rfl) ?_
          have g40 := (gd_at h).1
          replace h := (gd_at h).2
          refine r_iald hC hI aM_20 g40 dX9_member_40 ?_
          refine lv_icmp_ne (tgt := 54) hx hb dX9_member_41 (by decide) (fun c41 => ?_) (fun c41 => ?_)
          · replace h := if_f h c41
            obtain ⟨x54, e54⟩ : ∃ y : Int32, y = (v4 + (1 : Int32)) := ⟨_, rfl⟩
            replace h := bnd_at h e54
            refine lv_iinc (v := x54) (lv' := [(4, .int x54), (0, .ref (ad 0)), (1, .int v1), (3, .int v3)]) hx hb dX9_member_54 hl (k := 3) rfl (by rw [e54]; rfl) (by decide) rfl (fun ls hl => ?_)
            refine lv_goto (tgt := 19) hx hb dX9_member_57 (by decide) ?_
            exact ih19 z v1 v3 x54 _ _ _ hI (lv_sub hl [1, 2, 3, 0] rfl) h
          · replace h := if_t h c41
            refine lv_iload_n hx hb dX9_member_44 rfl (lv_at hl 2 rfl) ?_
            refine lv_if_ne (tgt := 51) hx hb dX9_member_45 (by decide) (fun c45 => ?_) (fun c45 => ?_)
            · replace h := if_f h c45
              obtain ⟨x51, e51⟩ : ∃ y : Int32, y = (v3 + (-1 : Int32)) := ⟨_, rfl⟩
              replace h := bnd_at h e51
              refine lv_iinc (v := x51) (lv' := [(3, .int x51), (0, .ref (ad 0)), (1, .int v1), (4, .int v4)]) hx hb dX9_member_51 hl (k := 2) rfl (by rw [e51]; rfl) (by decide) rfl (fun ls hl => ?_)
              obtain ⟨x54, e54⟩ : ∃ y : Int32, y = (v4 + (1 : Int32)) := ⟨_, rfl⟩
              replace h := bnd_at h e54
              refine lv_iinc (v := x54) (lv' := [(4, .int x54), (3, .int x51), (0, .ref (ad 0)), (1, .int v1)]) hx hb dX9_member_54 hl (k := 3) rfl (by rw [e54]; rfl) (by decide) rfl (fun ls hl => ?_)
              refine lv_goto (tgt := 19) hx hb dX9_member_57 (by decide) ?_
              exact ih19 z v1 x51 x54 _ _ _ hI (lv_sub hl [2, 3, 1, 0] rfl) h
            · replace h := if_t h c45
              refine lv_iload hx hb dX9_member_48 (lv_at hl 3 rfl) ?_
              exact hret h dX9_member_50 hI
    exact w19 FU z11 v1 v2 (0 : Int32) _ _ _ hI (lv_sub hl [2, 3, 1, 0] rfl) h
  · replace h := if_t h c5
    refine lv_iconst (v := -1) hx hb dX9_member_8 (by decide) ?_
    exact hret h dX9_member_9 hI
theorem dX9_usesOne_0 : decode cX9_usesOne 0 = .ok (.iconst 0, 1) := by decide +kernel
theorem dX9_usesOne_1 : decode cX9_usesOne 1 = .ok (.istore_n 3, 1) := by decide +kernel
theorem dX9_usesOne_2 : decode cX9_usesOne 2 = .ok (.iconst 0, 1) := by decide +kernel
theorem dX9_usesOne_3 : decode cX9_usesOne 3 = .ok (.istore 4, 2) := by decide +kernel
theorem dX9_usesOne_5 : decode cX9_usesOne 5 = .ok (.iload 4, 2) := by decide +kernel
theorem dX9_usesOne_7 : decode cX9_usesOne 7 = .ok (.aload_n 0, 1) := by decide +kernel
theorem dX9_usesOne_8 : decode cX9_usesOne 8 = .ok (.getfield 16, 3) := by decide +kernel
theorem dX9_usesOne_11 : decode cX9_usesOne 11 = .ok (.iload_n 1, 1) := by decide +kernel
theorem dX9_usesOne_12 : decode cX9_usesOne 12 = .ok (.iaload, 1) := by decide +kernel
theorem dX9_usesOne_13 : decode cX9_usesOne 13 = .ok (.if_icmp .ge 44, 3) := by decide +kernel
theorem dX9_usesOne_16 : decode cX9_usesOne 16 = .ok (.iload_n 3, 1) := by decide +kernel
theorem dX9_usesOne_17 : decode cX9_usesOne 17 = .ok (.ifCond .ne 28, 3) := by decide +kernel
theorem dX9_usesOne_20 : decode cX9_usesOne 20 = .ok (.aload_n 0, 1) := by decide +kernel
theorem dX9_usesOne_21 : decode cX9_usesOne 21 = .ok (.getfield 72, 3) := by decide +kernel
theorem dX9_usesOne_24 : decode cX9_usesOne 24 = .ok (.aload_n 0, 1) := by decide +kernel
theorem dX9_usesOne_25 : decode cX9_usesOne 25 = .ok (.getfield 19, 3) := by decide +kernel
theorem dX9_usesOne_28 : decode cX9_usesOne 28 = .ok (.iconst 3, 1) := by decide +kernel
theorem dX9_usesOne_29 : decode cX9_usesOne 29 = .ok (.iload_n 1, 1) := by decide +kernel
theorem dX9_usesOne_30 : decode cX9_usesOne 30 = .ok (.imul, 1) := by decide +kernel
theorem dX9_usesOne_31 : decode cX9_usesOne 31 = .ok (.iload 4, 2) := by decide +kernel
theorem dX9_usesOne_33 : decode cX9_usesOne 33 = .ok (.iadd, 1) := by decide +kernel
theorem dX9_usesOne_34 : decode cX9_usesOne 34 = .ok (.iaload, 1) := by decide +kernel
theorem dX9_usesOne_35 : decode cX9_usesOne 35 = .ok (.iaload, 1) := by decide +kernel
theorem dX9_usesOne_36 : decode cX9_usesOne 36 = .ok (.aload_n 0, 1) := by decide +kernel
theorem dX9_usesOne_37 : decode cX9_usesOne 37 = .ok (.getfield 72, 3) := by decide +kernel
theorem dX9_usesOne_40 : decode cX9_usesOne 40 = .ok (.iload_n 2, 1) := by decide +kernel
theorem dX9_usesOne_41 : decode cX9_usesOne 41 = .ok (.iaload, 1) := by decide +kernel
theorem dX9_usesOne_42 : decode cX9_usesOne 42 = .ok (.if_icmp .ne 7, 3) := by decide +kernel
theorem dX9_usesOne_45 : decode cX9_usesOne 45 = .ok (.iconst 1, 1) := by decide +kernel
theorem dX9_usesOne_46 : decode cX9_usesOne 46 = .ok (.goto 4, 3) := by decide +kernel
theorem dX9_usesOne_49 : decode cX9_usesOne 49 = .ok (.iconst 0, 1) := by decide +kernel
theorem dX9_usesOne_50 : decode cX9_usesOne 50 = .ok (.istore_n 3, 1) := by decide +kernel
theorem dX9_usesOne_51 : decode cX9_usesOne 51 = .ok (.iinc 4 1, 3) := by decide +kernel
theorem dX9_usesOne_54 : decode cX9_usesOne 54 = .ok (.goto (-49), 3) := by decide +kernel
theorem dX9_usesOne_57 : decode cX9_usesOne 57 = .ok (.iload_n 3, 1) := by decide +kernel
theorem dX9_usesOne_58 : decode cX9_usesOne 58 = .ok (.ireturn, 1) := by decide +kernel
abbrev rmX9_usesOne : Room := { frames := 0, cells := 0, slots := 0, locals := 0 }
theorem ywX9_usesOne : fY yX9_usesOne "EqualCourtModel" cX9_usesOne 5 (some .boolean) 2 := ⟨tw_1168, tp_52, tw_11, tw_1169, by decide +kernel⟩
set_option maxHeartbeats 4000000 in
set_option maxRecDepth 100000 in
theorem cX9_usesOne_ok {D : va_G} {ad : Nat → Nat} {cy cz : ClassId} {l : Launch} {z : fS} {v1 : Int32} {v2 : Int32} {r : Int32} (h : fX9_usesOne z v1 v2 = some r) : fMi D 31 ad (cfM ad cy cz) cy cz l yX9_usesOne cX9_usesOne 5 (some .boolean) rmX9_usesOne [.ref (ad 0), .int v1, .int v2] z r z := by
  refine f_bodyz (by decide) (Nat.le_of_ble_eq_true rfl) (fun p e s m args below meth c Q hC hret ls hl hI => ?_)
  have hx := hC.1
  have hb := hC.2.1
  have hl : lv_has ls 5 [(0, .ref (ad 0)), (1, .int v1), (2, .int v2)] := hl
  unfold fX9_usesOne at h
  refine lv_iconst (v := 0) hx hb dX9_usesOne_0 (by decide) ?_
  refine lv_istore_n (lv' := [(3, .int (0 : Int32)), (0, .ref (ad 0)), (1, .int v1), (2, .int v2)]) hx hb dX9_usesOne_1 rfl hl (by decide) rfl (fun ls hl => ?_)
  refine lv_iconst (v := 0) hx hb dX9_usesOne_2 (by decide) ?_
  refine lv_istore (lv' := [(4, .int (0 : Int32)), (3, .int (0 : Int32)), (0, .ref (ad 0)), (1, .int v1), (2, .int v2)]) hx hb dX9_usesOne_3 hl (by decide) rfl (fun ls hl => ?_)
  have w5 : ∀ (N5 : Nat) (v1 : Int32) (v2 : Int32) (v3 : Int32) (v4 : Int32) (H : Heap) (locs : List Loc) (ls : Array Slot), fI D 31 ad (cfM ad cy cz) z s H locs → lv_has ls 5 [(0, .ref (ad 0)), (1, .int v1), (2, .int v2), (3, .int v3), (4, .int v4)] → lX9_usesOne_5   z v1 v2 N5 v3 v4 = some r → W p l e rmX9_usesOne s m args below meth c H locs 0 0 Q (F0 m 5 ls []) := by
    intro N5
    induction N5 with
    | zero =>
      intro v1 v2 v3 v4 H locs ls hI hl h
      exact none_no h
    | succ N5 ih5 =>
      intro v1 v2 v3 v4 H locs ls hI hl h
      rw [lX9_usesOne_5.eq_2] at h
      refine lv_iload hx hb dX9_usesOne_5 (lv_at hl 4 rfl) ?_
      refine lv_aload_n hx hb dX9_usesOne_7 rfl (lv_at hl 0 rfl) ?_
      refine gX9_partMany hC hI tw_856 dX9_usesOne_8 ?_
      refine lv_iload_n hx hb dX9_usesOne_11 rfl (lv_at hl 1 rfl) ?_
      have g12 := (gd_at h).1
      replace h := (gd_at h).2
      refine r_iald hC hI aM_3 g12 dX9_usesOne_12 ?_
      refine lv_icmp_ge (tgt := 57) hx hb dX9_usesOne_13 (by decide) (fun c13 => ?_) (fun c13 => ?_)
      · replace h := if_t h c13
        refine lv_iload_n hx hb dX9_usesOne_57 rfl (lv_at hl 3 rfl) ?_
        have g58 := (gd_at h).1
        replace h := (gd_at h).2
        exact hret (ret_p _ h) g58 dX9_usesOne_58 hI
      · replace h := if_f h c13
        refine lv_iload_n hx hb dX9_usesOne_16 rfl (lv_at hl 3 rfl) ?_
        refine lv_if_ne (tgt := 45) hx hb dX9_usesOne_17 (by decide) (fun c17 => ?_) (fun c17 => ?_)
        · replace h := if_f h c17
          refine lv_iconst (v := 1) hx hb dX9_usesOne_45 (by decide) ?_
          refine lv_goto (tgt := 50) hx hb dX9_usesOne_46 (by decide) ?_
          refine lv_istore_n (lv' := [(3, .int (1 : Int32)), (0, .ref (ad 0)), (1, .int v1), (2, .int v2), (4, .int v4)]) hx hb dX9_usesOne_50 rfl hl (by decide) rfl (fun ls hl => ?_)
          obtain ⟨x51, e51⟩ : ∃ y : Int32, y = (v4 + (1 : Int32)) := ⟨_, rfl⟩
          replace h := bnd_at h e51
          refine lv_iinc (v := x51) (lv' := [(4, .int x51), (3, .int (1 : Int32)), (0, .ref (ad 0)), (1, .int v1), (2, .int v2)]) hx hb dX9_usesOne_51 hl (k := 4) rfl (by rw [e51]; rfl) (by decide) rfl (fun ls hl => ?_)
          refine lv_goto (tgt := 5) hx hb dX9_usesOne_54 (by decide) ?_
          exact ih5 v1 v2 (1 : Int32) x51 _ _ _ hI (lv_sub hl [2, 3, 4, 1, 0] rfl) h
        · replace h := if_t h c17
          refine lv_aload_n hx hb dX9_usesOne_20 rfl (lv_at hl 0 rfl) ?_
          refine gX9_one hC hI tw_882 dX9_usesOne_21 ?_
          refine lv_aload_n hx hb dX9_usesOne_24 rfl (lv_at hl 0 rfl) ?_
          refine gX9_partOf hC hI tw_857 dX9_usesOne_25 ?_
          refine lv_iconst (v := 3) hx hb dX9_usesOne_28 (by decide) ?_
          refine lv_iload_n hx hb dX9_usesOne_29 rfl (lv_at hl 1 rfl) ?_
          refine lv_imul hx hb dX9_usesOne_30 ?_
          refine lv_iload hx hb dX9_usesOne_31 (lv_at hl 4 rfl) ?_
          refine lv_iadd hx hb dX9_usesOne_33 ?_
          have g34 := (gd_at h).1
          replace h := (gd_at h).2
          refine r_iald hC hI aM_4 g34 dX9_usesOne_34 ?_
          have g35 := (gd_at h).1
          replace h := (gd_at h).2
          refine r_iald hC hI aM_20 g35 dX9_usesOne_35 ?_
          refine lv_aload_n hx hb dX9_usesOne_36 rfl (lv_at hl 0 rfl) ?_
          refine gX9_one hC hI tw_882 dX9_usesOne_37 ?_
          refine lv_iload_n hx hb dX9_usesOne_40 rfl (lv_at hl 2 rfl) ?_
          have g41 := (gd_at h).1
          replace h := (gd_at h).2
          refine r_iald hC hI aM_20 g41 dX9_usesOne_41 ?_
          refine lv_icmp_ne (tgt := 49) hx hb dX9_usesOne_42 (by decide) (fun c42 => ?_) (fun c42 => ?_)
          · replace h := if_f h c42
            refine lv_iconst (v := 0) hx hb dX9_usesOne_49 (by decide) ?_
            refine lv_istore_n (lv' := [(3, .int (0 : Int32)), (0, .ref (ad 0)), (1, .int v1), (2, .int v2), (4, .int v4)]) hx hb dX9_usesOne_50 rfl hl (by decide) rfl (fun ls hl => ?_)
            obtain ⟨x51, e51⟩ : ∃ y : Int32, y = (v4 + (1 : Int32)) := ⟨_, rfl⟩
            replace h := bnd_at h e51
            refine lv_iinc (v := x51) (lv' := [(4, .int x51), (3, .int (0 : Int32)), (0, .ref (ad 0)), (1, .int v1), (2, .int v2)]) hx hb dX9_usesOne_51 hl (k := 4) rfl (by rw [e51]; rfl) (by decide) rfl (fun ls hl => ?_)
            refine lv_goto (tgt := 5) hx hb dX9_usesOne_54 (by decide) ?_
            exact ih5 v1 v2 (0 : Int32) x51 _ _ _ hI (lv_sub hl [2, 3, 4, 1, 0] rfl) h
          · replace h := if_t h c42
            refine lv_iconst (v := 1) hx hb dX9_usesOne_45 (by decide) ?_
            refine lv_goto (tgt := 50) hx hb dX9_usesOne_46 (by decide) ?_
            refine lv_istore_n (lv' := [(3, .int (1 : Int32)), (0, .ref (ad 0)), (1, .int v1), (2, .int v2), (4, .int v4)]) hx hb dX9_usesOne_50 rfl hl (by decide) rfl (fun ls hl => ?_)
            obtain ⟨x51, e51⟩ : ∃ y : Int32, y = (v4 + (1 : Int32)) := ⟨_, rfl⟩
            replace h := bnd_at h e51
            refine lv_iinc (v := x51) (lv' := [(4, .int x51), (3, .int (1 : Int32)), (0, .ref (ad 0)), (1, .int v1), (2, .int v2)]) hx hb dX9_usesOne_51 hl (k := 4) rfl (by rw [e51]; rfl) (by decide) rfl (fun ls hl => ?_)
            refine lv_goto (tgt := 5) hx hb dX9_usesOne_54 (by decide) ?_
            exact ih5 v1 v2 (1 : Int32) x51 _ _ _ hI (lv_sub hl [2, 3, 4, 1, 0] rfl) h
  exact w5 FU v1 v2 (0 : Int32) (0 : Int32) _ _ _ hI (lv_sub hl [2, 3, 4, 1, 0] rfl) h
theorem dX9_uses_0 : decode cX9_uses 0 = .ok (.aload_n 0, 1) := by decide +kernel
theorem dX9_uses_1 : decode cX9_uses 1 = .ok (.iload_n 1, 1) := by decide +kernel
theorem dX9_uses_2 : decode cX9_uses 2 = .ok (.invokevirtual 132, 3) := by decide +kernel
theorem dX9_uses_5 : decode cX9_uses 5 = .ok (.ifCond .ne 5, 3) := by decide +kernel
theorem dX9_uses_8 : decode cX9_uses 8 = .ok (.iconst (-1), 1) := by decide +kernel
theorem dX9_uses_9 : decode cX9_uses 9 = .ok (.ireturn, 1) := by decide +kernel
theorem dX9_uses_10 : decode cX9_uses 10 = .ok (.aload_n 0, 1) := by decide +kernel
theorem dX9_uses_11 : decode cX9_uses 11 = .ok (.invokevirtual 161, 3) := by decide +kernel
theorem dX9_uses_14 : decode cX9_uses 14 = .ok (.iload_n 2, 1) := by decide +kernel
theorem dX9_uses_15 : decode cX9_uses 15 = .ok (.istore_n 3, 1) := by decide +kernel
theorem dX9_uses_16 : decode cX9_uses 16 = .ok (.iconst 0, 1) := by decide +kernel
theorem dX9_uses_17 : decode cX9_uses 17 = .ok (.istore 4, 2) := by decide +kernel
theorem dX9_uses_19 : decode cX9_uses 19 = .ok (.iload 4, 2) := by decide +kernel
theorem dX9_uses_21 : decode cX9_uses 21 = .ok (.aload_n 0, 1) := by decide +kernel
theorem dX9_uses_22 : decode cX9_uses 22 = .ok (.getfield 108, 3) := by decide +kernel
theorem dX9_uses_25 : decode cX9_uses 25 = .ok (.if_icmp .ge 29, 3) := by decide +kernel
theorem dX9_uses_28 : decode cX9_uses 28 = .ok (.aload_n 0, 1) := by decide +kernel
theorem dX9_uses_29 : decode cX9_uses 29 = .ok (.iload 4, 2) := by decide +kernel
theorem dX9_uses_31 : decode cX9_uses 31 = .ok (.iload_n 1, 1) := by decide +kernel
theorem dX9_uses_32 : decode cX9_uses 32 = .ok (.invokevirtual 224, 3) := by decide +kernel
theorem dX9_uses_35 : decode cX9_uses 35 = .ok (.ifCond .eq 13, 3) := by decide +kernel
theorem dX9_uses_38 : decode cX9_uses 38 = .ok (.iload_n 3, 1) := by decide +kernel
theorem dX9_uses_39 : decode cX9_uses 39 = .ok (.ifCond .ne 6, 3) := by decide +kernel
theorem dX9_uses_42 : decode cX9_uses 42 = .ok (.iload 4, 2) := by decide +kernel
theorem dX9_uses_44 : decode cX9_uses 44 = .ok (.ireturn, 1) := by decide +kernel
theorem dX9_uses_45 : decode cX9_uses 45 = .ok (.iinc 3 (-1), 3) := by decide +kernel
theorem dX9_uses_48 : decode cX9_uses 48 = .ok (.iinc 4 1, 3) := by decide +kernel
theorem dX9_uses_51 : decode cX9_uses 51 = .ok (.goto (-32), 3) := by decide +kernel
theorem dX9_uses_54 : decode cX9_uses 54 = .ok (.iconst (-1), 1) := by decide +kernel
theorem dX9_uses_55 : decode cX9_uses 55 = .ok (.ireturn, 1) := by decide +kernel
abbrev rmX9_uses : Room := { frames := 5, cells := 0, slots := 0, locals := 114 }
theorem ywX9_uses : fY yX9_uses "EqualCourtModel" cX9_uses 5 (some .int) 2 := ⟨tw_1163, tw_1164, tw_11, tw_1165, by decide +kernel⟩
set_option maxHeartbeats 4000000 in
set_option maxRecDepth 100000 in
theorem cX9_uses_ok {D : va_G} {ad : Nat → Nat} {cy cz : ClassId} {l : Launch} {z : fS} {v1 : Int32} {v2 : Int32} {r : Int32} {τ : fS} (h : fX9_uses z v1 v2 = some (r, τ)) : fMi D 31 ad (cfM ad cy cz) cy cz l yX9_uses cX9_uses 5 (some .int) rmX9_uses [.ref (ad 0), .int v1, .int v2] z r τ := by
  refine f_bodyi (by decide) (Nat.le_of_ble_eq_true rfl) (fun p e s m args below meth c Q hC hret ls hl hI => ?_)
  have hx := hC.1
  have hb := hC.2.1
  have hl : lv_has ls 5 [(0, .ref (ad 0)), (1, .int v1), (2, .int v2)] := hl
  unfold fX9_uses at h
  refine lv_aload_n hx hb dX9_uses_0 rfl (lv_at hl 0 rfl) ?_
  refine lv_iload_n hx hb dX9_uses_1 rfl (lv_at hl 1 rfl) ?_
  replace h := bp_at h
  obtain ⟨r2, e2, h⟩ := h
  refine r_calli (rest := []) hC hI oM_0 (C := "EqualCourtModel") rfl ywX9_isTerm tw_1013 (cX9_isTerm_ok  e2) ⟨Nat.le_of_ble_eq_true rfl, Nat.le_of_ble_eq_true rfl⟩ ⟨rfl, rfl⟩ rfl hl.1 rfl (Nat.le_of_ble_eq_true rfl) dX9_uses_2 (fun H locs hI => ?_)
  refine lv_if_ne (tgt := 10) hx hb dX9_uses_5 (by decide) (fun c5 => ?_) (fun c5 => ?_)
  · replace h := if_f h c5
    refine lv_aload_n hx hb dX9_uses_10 rfl (lv_at hl 0 rfl) ?_
    replace h := bp_at h
    obtain ⟨z11, e11, h⟩ := h
    refine r_callv (rest := []) hC hI oM_0 (C := "EqualCourtModel") rfl ywX9_court tw_1049 (cX9_court_ok  e11) ⟨Nat.le_of_ble_eq_true rfl, Nat.le_of_ble_eq_true rfl⟩ ⟨rfl, rfl⟩ rfl hl.1 rfl (Nat.le_of_ble_eq_true rfl) dX9_uses_11 (fun H locs hI => ?_)
    refine lv_iload_n hx hb dX9_uses_14 rfl (lv_at hl 2 rfl) ?_
    refine lv_istore_n (lv' := [(3, .int v2), (0, .ref (ad 0)), (1, .int v1), (2, .int v2)]) hx hb dX9_uses_15 rfl hl (by decide) rfl (fun ls hl => ?_)
    refine lv_iconst (v := 0) hx hb dX9_uses_16 (by decide) ?_
    refine lv_istore (lv' := [(4, .int (0 : Int32)), (3, .int v2), (0, .ref (ad 0)), (1, .int v1), (2, .int v2)]) hx hb dX9_uses_17 hl (by decide) rfl (fun ls hl => ?_)
    have w19 : ∀ (N19 : Nat) (z : fS) (v1 : Int32) (v3 : Int32) (v4 : Int32) (H : Heap) (locs : List Loc) (ls : Array Slot), fI D 31 ad (cfM ad cy cz) z s H locs → lv_has ls 5 [(0, .ref (ad 0)), (1, .int v1), (3, .int v3), (4, .int v4)] → lX9_uses_19   z v1 N19 v3 v4 = some (r, τ) → W p l e rmX9_uses s m args below meth c H locs 0 0 Q (F0 m 19 ls []) := by
      intro N19
      induction N19 with
      | zero =>
        intro z v1 v3 v4 H locs ls hI hl h
        exact none_no h
      | succ N19 ih19 =>
        intro z v1 v3 v4 H locs ls hI hl h
        rw [lX9_uses_19.eq_2] at h
        refine lv_iload hx hb dX9_uses_19 (lv_at hl 3 rfl) ?_
        refine lv_aload_n hx hb dX9_uses_21 rfl (lv_at hl 0 rfl) ?_
        refine gX9_terms hC hI tw_858 dX9_uses_22 ?_
        refine lv_icmp_ge (tgt := 54) hx hb dX9_uses_25 (by decide) (fun c25 => ?_) (fun c25 => ?_)
        · replace h := if_t h c25
          refine lv_iconst (v := -1) hx hb dX9_uses_54 (by decide) ?_
          exact hret h dX9_uses_55 hI
        · replace h := if_f h c25
          refine lv_aload_n hx hb dX9_uses_28 rfl (lv_at hl 0 rfl) ?_
          refine lv_iload hx hb dX9_uses_29 (lv_at hl 3 rfl) ?_
          refine lv_iload_n hx hb dX9_uses_31 rfl (lv_at hl 1 rfl) ?_
          replace h := bp_at h
          obtain ⟨r32, e32, h⟩ := h
          refine r_calli (rest := []) hC hI oM_0 (C := "EqualCourtModel") rfl ywX9_usesOne tw_1166 (cX9_usesOne_ok  e32) ⟨Nat.le_of_ble_eq_true rfl, Nat.le_of_ble_eq_true rfl⟩ ⟨rfl, rfl⟩ rfl hl.1 rfl (Nat.le_of_ble_eq_true rfl) dX9_uses_32 (fun H locs hI => ?_)
          refine lv_if_eq (tgt := 48) hx hb dX9_uses_35 (by decide) (fun c35 => ?_) (fun c35 => ?_)
          · replace h := if_t h c35
            obtain ⟨x48, e48⟩ : ∃ y : Int32, y = (v4 + (1 : Int32)) := ⟨_, rfl⟩
            replace h := bnd_at h e48
            refine lv_iinc (v := x48) (lv' := [(4, .int x48), (0, .ref (ad 0)), (1, .int v1), (3, .int v3)]) hx hb dX9_uses_48 hl (k := 3) rfl (by rw [e48]; rfl) (by decide) rfl (fun ls hl => ?_)
            refine lv_goto (tgt := 19) hx hb dX9_uses_51 (by decide) ?_
            exact ih19 z v1 v3 x48 _ _ _ hI (lv_sub hl [1, 2, 3, 0] rfl) h
          · replace h := if_f h c35
            refine lv_iload_n hx hb dX9_uses_38 rfl (lv_at hl 2 rfl) ?_
            refine lv_if_ne (tgt := 45) hx hb dX9_uses_39 (by decide) (fun c39 => ?_) (fun c39 => ?_)
            · replace h := if_f h c39
              obtain ⟨x45, e45⟩ : ∃ y : Int32, y = (v3 + (-1 : Int32)) := ⟨_, rfl⟩
              replace h := bnd_at h e45
              refine lv_iinc (v := x45) (lv' := [(3, .int x45), (0, .ref (ad 0)), (1, .int v1), (4, .int v4)]) hx hb dX9_uses_45 hl (k := 2) rfl (by rw [e45]; rfl) (by decide) rfl (fun ls hl => ?_)
              obtain ⟨x48, e48⟩ : ∃ y : Int32, y = (v4 + (1 : Int32)) := ⟨_, rfl⟩
              replace h := bnd_at h e48
              refine lv_iinc (v := x48) (lv' := [(4, .int x48), (3, .int x45), (0, .ref (ad 0)), (1, .int v1)]) hx hb dX9_uses_48 hl (k := 3) rfl (by rw [e48]; rfl) (by decide) rfl (fun ls hl => ?_)
              refine lv_goto (tgt := 19) hx hb dX9_uses_51 (by decide) ?_
              exact ih19 z v1 x45 x48 _ _ _ hI (lv_sub hl [2, 3, 1, 0] rfl) h
            · replace h := if_t h c39
              refine lv_iload hx hb dX9_uses_42 (lv_at hl 3 rfl) ?_
              exact hret h dX9_uses_44 hI
    exact w19 FU z11 v1 v2 (0 : Int32) _ _ _ hI (lv_sub hl [2, 3, 1, 0] rfl) h
  · replace h := if_t h c5
    refine lv_iconst (v := -1) hx hb dX9_uses_8 (by decide) ?_
    exact hret h dX9_uses_9 hI
theorem dX9_isNumber_0 : decode cX9_isNumber 0 = .ok (.iconst 0, 1) := by decide +kernel
theorem dX9_isNumber_1 : decode cX9_isNumber 1 = .ok (.istore_n 2, 1) := by decide +kernel
theorem dX9_isNumber_2 : decode cX9_isNumber 2 = .ok (.iconst 0, 1) := by decide +kernel
theorem dX9_isNumber_3 : decode cX9_isNumber 3 = .ok (.istore_n 3, 1) := by decide +kernel
theorem dX9_isNumber_4 : decode cX9_isNumber 4 = .ok (.iload_n 3, 1) := by decide +kernel
theorem dX9_isNumber_5 : decode cX9_isNumber 5 = .ok (.aload_n 0, 1) := by decide +kernel
theorem dX9_isNumber_6 : decode cX9_isNumber 6 = .ok (.getfield 108, 3) := by decide +kernel
theorem dX9_isNumber_9 : decode cX9_isNumber 9 = .ok (.if_icmp .ge 39, 3) := by decide +kernel
theorem dX9_isNumber_12 : decode cX9_isNumber 12 = .ok (.iload_n 2, 1) := by decide +kernel
theorem dX9_isNumber_13 : decode cX9_isNumber 13 = .ok (.ifCond .ne 23, 3) := by decide +kernel
theorem dX9_isNumber_16 : decode cX9_isNumber 16 = .ok (.aload_n 0, 1) := by decide +kernel
theorem dX9_isNumber_17 : decode cX9_isNumber 17 = .ok (.getfield 7, 3) := by decide +kernel
theorem dX9_isNumber_20 : decode cX9_isNumber 20 = .ok (.iload_n 3, 1) := by decide +kernel
theorem dX9_isNumber_21 : decode cX9_isNumber 21 = .ok (.iaload, 1) := by decide +kernel
theorem dX9_isNumber_22 : decode cX9_isNumber 22 = .ok (.iconst 1, 1) := by decide +kernel
theorem dX9_isNumber_23 : decode cX9_isNumber 23 = .ok (.if_icmp .ne 17, 3) := by decide +kernel
theorem dX9_isNumber_26 : decode cX9_isNumber 26 = .ok (.aload_n 0, 1) := by decide +kernel
theorem dX9_isNumber_27 : decode cX9_isNumber 27 = .ok (.getfield 13, 3) := by decide +kernel
theorem dX9_isNumber_30 : decode cX9_isNumber 30 = .ok (.iload_n 3, 1) := by decide +kernel
theorem dX9_isNumber_31 : decode cX9_isNumber 31 = .ok (.iaload, 1) := by decide +kernel
theorem dX9_isNumber_32 : decode cX9_isNumber 32 = .ok (.iload_n 1, 1) := by decide +kernel
theorem dX9_isNumber_33 : decode cX9_isNumber 33 = .ok (.if_icmp .ne 7, 3) := by decide +kernel
theorem dX9_isNumber_36 : decode cX9_isNumber 36 = .ok (.iconst 1, 1) := by decide +kernel
theorem dX9_isNumber_37 : decode cX9_isNumber 37 = .ok (.goto 4, 3) := by decide +kernel
theorem dX9_isNumber_40 : decode cX9_isNumber 40 = .ok (.iconst 0, 1) := by decide +kernel
theorem dX9_isNumber_41 : decode cX9_isNumber 41 = .ok (.istore_n 2, 1) := by decide +kernel
theorem dX9_isNumber_42 : decode cX9_isNumber 42 = .ok (.iinc 3 1, 3) := by decide +kernel
theorem dX9_isNumber_45 : decode cX9_isNumber 45 = .ok (.goto (-41), 3) := by decide +kernel
theorem dX9_isNumber_48 : decode cX9_isNumber 48 = .ok (.iload_n 2, 1) := by decide +kernel
theorem dX9_isNumber_49 : decode cX9_isNumber 49 = .ok (.ireturn, 1) := by decide +kernel
abbrev rmX9_isNumber : Room := { frames := 0, cells := 0, slots := 0, locals := 0 }
theorem ywX9_isNumber : fY yX9_isNumber "EqualCourtModel" cX9_isNumber 4 (some .boolean) 1 := ⟨tw_1181, tp_54, tw_11, tw_1182, by decide +kernel⟩
set_option maxHeartbeats 4000000 in
set_option maxRecDepth 100000 in
theorem cX9_isNumber_ok {D : va_G} {ad : Nat → Nat} {cy cz : ClassId} {l : Launch} {z : fS} {v1 : Int32} {r : Int32} (h : fX9_isNumber z v1 = some r) : fMi D 31 ad (cfM ad cy cz) cy cz l yX9_isNumber cX9_isNumber 4 (some .boolean) rmX9_isNumber [.ref (ad 0), .int v1] z r z := by
  refine f_bodyz (by decide) (Nat.le_of_ble_eq_true rfl) (fun p e s m args below meth c Q hC hret ls hl hI => ?_)
  have hx := hC.1
  have hb := hC.2.1
  have hl : lv_has ls 4 [(0, .ref (ad 0)), (1, .int v1)] := hl
  unfold fX9_isNumber at h
  refine lv_iconst (v := 0) hx hb dX9_isNumber_0 (by decide) ?_
  refine lv_istore_n (lv' := [(2, .int (0 : Int32)), (0, .ref (ad 0)), (1, .int v1)]) hx hb dX9_isNumber_1 rfl hl (by decide) rfl (fun ls hl => ?_)
  refine lv_iconst (v := 0) hx hb dX9_isNumber_2 (by decide) ?_
  refine lv_istore_n (lv' := [(3, .int (0 : Int32)), (2, .int (0 : Int32)), (0, .ref (ad 0)), (1, .int v1)]) hx hb dX9_isNumber_3 rfl hl (by decide) rfl (fun ls hl => ?_)
  have w4 : ∀ (N4 : Nat) (v1 : Int32) (v2 : Int32) (v3 : Int32) (H : Heap) (locs : List Loc) (ls : Array Slot), fI D 31 ad (cfM ad cy cz) z s H locs → lv_has ls 4 [(0, .ref (ad 0)), (1, .int v1), (2, .int v2), (3, .int v3)] → lX9_isNumber_4   z v1 N4 v2 v3 = some r → W p l e rmX9_isNumber s m args below meth c H locs 0 0 Q (F0 m 4 ls []) := by
    intro N4
    induction N4 with
    | zero =>
      intro v1 v2 v3 H locs ls hI hl h
      exact none_no h
    | succ N4 ih4 =>
      intro v1 v2 v3 H locs ls hI hl h
      rw [lX9_isNumber_4.eq_2] at h
      refine lv_iload_n hx hb dX9_isNumber_4 rfl (lv_at hl 3 rfl) ?_
      refine lv_aload_n hx hb dX9_isNumber_5 rfl (lv_at hl 0 rfl) ?_
      refine gX9_terms hC hI tw_858 dX9_isNumber_6 ?_
      refine lv_icmp_ge (tgt := 48) hx hb dX9_isNumber_9 (by decide) (fun c9 => ?_) (fun c9 => ?_)
      · replace h := if_t h c9
        refine lv_iload_n hx hb dX9_isNumber_48 rfl (lv_at hl 2 rfl) ?_
        have g49 := (gd_at h).1
        replace h := (gd_at h).2
        exact hret (ret_p _ h) g49 dX9_isNumber_49 hI
      · replace h := if_f h c9
        refine lv_iload_n hx hb dX9_isNumber_12 rfl (lv_at hl 2 rfl) ?_
        refine lv_if_ne (tgt := 36) hx hb dX9_isNumber_13 (by decide) (fun c13 => ?_) (fun c13 => ?_)
        · replace h := if_f h c13
          refine lv_iconst (v := 1) hx hb dX9_isNumber_36 (by decide) ?_
          refine lv_goto (tgt := 41) hx hb dX9_isNumber_37 (by decide) ?_
          refine lv_istore_n (lv' := [(2, .int (1 : Int32)), (0, .ref (ad 0)), (1, .int v1), (3, .int v3)]) hx hb dX9_isNumber_41 rfl hl (by decide) rfl (fun ls hl => ?_)
          obtain ⟨x42, e42⟩ : ∃ y : Int32, y = (v3 + (1 : Int32)) := ⟨_, rfl⟩
          replace h := bnd_at h e42
          refine lv_iinc (v := x42) (lv' := [(3, .int x42), (2, .int (1 : Int32)), (0, .ref (ad 0)), (1, .int v1)]) hx hb dX9_isNumber_42 hl (k := 3) rfl (by rw [e42]; rfl) (by decide) rfl (fun ls hl => ?_)
          refine lv_goto (tgt := 4) hx hb dX9_isNumber_45 (by decide) ?_
          exact ih4 v1 (1 : Int32) x42 _ _ _ hI (lv_sub hl [2, 3, 1, 0] rfl) h
        · replace h := if_t h c13
          refine lv_aload_n hx hb dX9_isNumber_16 rfl (lv_at hl 0 rfl) ?_
          refine gX9_kindOf hC hI tw_854 dX9_isNumber_17 ?_
          refine lv_iload_n hx hb dX9_isNumber_20 rfl (lv_at hl 3 rfl) ?_
          have g21 := (gd_at h).1
          replace h := (gd_at h).2
          refine r_iald hC hI aM_1 g21 dX9_isNumber_21 ?_
          refine lv_iconst (v := 1) hx hb dX9_isNumber_22 (by decide) ?_
          refine lv_icmp_ne (tgt := 40) hx hb dX9_isNumber_23 (by decide) (fun c23 => ?_) (fun c23 => ?_)
          · replace h := if_f h c23
            refine lv_iconst (v := 0) hx hb dX9_isNumber_40 (by decide) ?_
            refine lv_istore_n (lv' := [(2, .int (0 : Int32)), (0, .ref (ad 0)), (1, .int v1), (3, .int v3)]) hx hb dX9_isNumber_41 rfl hl (by decide) rfl (fun ls hl => ?_)
            obtain ⟨x42, e42⟩ : ∃ y : Int32, y = (v3 + (1 : Int32)) := ⟨_, rfl⟩
            replace h := bnd_at h e42
            refine lv_iinc (v := x42) (lv' := [(3, .int x42), (2, .int (0 : Int32)), (0, .ref (ad 0)), (1, .int v1)]) hx hb dX9_isNumber_42 hl (k := 3) rfl (by rw [e42]; rfl) (by decide) rfl (fun ls hl => ?_)
            refine lv_goto (tgt := 4) hx hb dX9_isNumber_45 (by decide) ?_
            exact ih4 v1 (0 : Int32) x42 _ _ _ hI (lv_sub hl [2, 3, 1, 0] rfl) h
          · replace h := if_t h c23
            refine lv_aload_n hx hb dX9_isNumber_26 rfl (lv_at hl 0 rfl) ?_
            refine gX9_shown hC hI tw_855 dX9_isNumber_27 ?_
            refine lv_iload_n hx hb dX9_isNumber_30 rfl (lv_at hl 3 rfl) ?_
            have g31 := (gd_at h).1
            replace h := (gd_at h).2
            refine r_iald hC hI aM_2 g31 dX9_isNumber_31 ?_
            refine lv_iload_n hx hb dX9_isNumber_32 rfl (lv_at hl 1 rfl) ?_
            refine lv_icmp_ne (tgt := 40) hx hb dX9_isNumber_33 (by decide) (fun c33 => ?_) (fun c33 => ?_)
            · replace h := if_f h c33
              refine lv_iconst (v := 0) hx hb dX9_isNumber_40 (by decide) ?_
              refine lv_istore_n (lv' := [(2, .int (0 : Int32)), (0, .ref (ad 0)), (1, .int v1), (3, .int v3)]) hx hb dX9_isNumber_41 rfl hl (by decide) rfl (fun ls hl => ?_)
              obtain ⟨x42, e42⟩ : ∃ y : Int32, y = (v3 + (1 : Int32)) := ⟨_, rfl⟩
              replace h := bnd_at h e42
              refine lv_iinc (v := x42) (lv' := [(3, .int x42), (2, .int (0 : Int32)), (0, .ref (ad 0)), (1, .int v1)]) hx hb dX9_isNumber_42 hl (k := 3) rfl (by rw [e42]; rfl) (by decide) rfl (fun ls hl => ?_)
              refine lv_goto (tgt := 4) hx hb dX9_isNumber_45 (by decide) ?_
              exact ih4 v1 (0 : Int32) x42 _ _ _ hI (lv_sub hl [2, 3, 1, 0] rfl) h
            · replace h := if_t h c33
              refine lv_iconst (v := 1) hx hb dX9_isNumber_36 (by decide) ?_
              refine lv_goto (tgt := 41) hx hb dX9_isNumber_37 (by decide) ?_
              refine lv_istore_n (lv' := [(2, .int (1 : Int32)), (0, .ref (ad 0)), (1, .int v1), (3, .int v3)]) hx hb dX9_isNumber_41 rfl hl (by decide) rfl (fun ls hl => ?_)
              obtain ⟨x42, e42⟩ : ∃ y : Int32, y = (v3 + (1 : Int32)) := ⟨_, rfl⟩
              replace h := bnd_at h e42
              refine lv_iinc (v := x42) (lv' := [(3, .int x42), (2, .int (1 : Int32)), (0, .ref (ad 0)), (1, .int v1)]) hx hb dX9_isNumber_42 hl (k := 3) rfl (by rw [e42]; rfl) (by decide) rfl (fun ls hl => ?_)
              refine lv_goto (tgt := 4) hx hb dX9_isNumber_45 (by decide) ?_
              exact ih4 v1 (1 : Int32) x42 _ _ _ hI (lv_sub hl [2, 3, 1, 0] rfl) h
  exact w4 FU v1 (0 : Int32) (0 : Int32) _ _ _ hI (lv_sub hl [2, 3, 1, 0] rfl) h
theorem dX9_numberOf_0 : decode cX9_numberOf 0 = .ok (.iconst (-1), 1) := by decide +kernel
theorem dX9_numberOf_1 : decode cX9_numberOf 1 = .ok (.istore_n 2, 1) := by decide +kernel
theorem dX9_numberOf_2 : decode cX9_numberOf 2 = .ok (.iconst 0, 1) := by decide +kernel
theorem dX9_numberOf_3 : decode cX9_numberOf 3 = .ok (.istore_n 3, 1) := by decide +kernel
theorem dX9_numberOf_4 : decode cX9_numberOf 4 = .ok (.iload_n 3, 1) := by decide +kernel
theorem dX9_numberOf_5 : decode cX9_numberOf 5 = .ok (.aload_n 0, 1) := by decide +kernel
theorem dX9_numberOf_6 : decode cX9_numberOf 6 = .ok (.getfield 108, 3) := by decide +kernel
theorem dX9_numberOf_9 : decode cX9_numberOf 9 = .ok (.if_icmp .ge 35, 3) := by decide +kernel
theorem dX9_numberOf_12 : decode cX9_numberOf 12 = .ok (.aload_n 0, 1) := by decide +kernel
theorem dX9_numberOf_13 : decode cX9_numberOf 13 = .ok (.getfield 72, 3) := by decide +kernel
theorem dX9_numberOf_16 : decode cX9_numberOf 16 = .ok (.iload_n 3, 1) := by decide +kernel
theorem dX9_numberOf_17 : decode cX9_numberOf 17 = .ok (.iaload, 1) := by decide +kernel
theorem dX9_numberOf_18 : decode cX9_numberOf 18 = .ok (.iload_n 1, 1) := by decide +kernel
theorem dX9_numberOf_19 : decode cX9_numberOf 19 = .ok (.if_icmp .ne 17, 3) := by decide +kernel
theorem dX9_numberOf_22 : decode cX9_numberOf 22 = .ok (.aload_n 0, 1) := by decide +kernel
theorem dX9_numberOf_23 : decode cX9_numberOf 23 = .ok (.getfield 7, 3) := by decide +kernel
theorem dX9_numberOf_26 : decode cX9_numberOf 26 = .ok (.iload_n 3, 1) := by decide +kernel
theorem dX9_numberOf_27 : decode cX9_numberOf 27 = .ok (.iaload, 1) := by decide +kernel
theorem dX9_numberOf_28 : decode cX9_numberOf 28 = .ok (.iconst 1, 1) := by decide +kernel
theorem dX9_numberOf_29 : decode cX9_numberOf 29 = .ok (.if_icmp .ne 7, 3) := by decide +kernel
theorem dX9_numberOf_32 : decode cX9_numberOf 32 = .ok (.iload_n 3, 1) := by decide +kernel
theorem dX9_numberOf_33 : decode cX9_numberOf 33 = .ok (.goto 4, 3) := by decide +kernel
theorem dX9_numberOf_36 : decode cX9_numberOf 36 = .ok (.iload_n 2, 1) := by decide +kernel
theorem dX9_numberOf_37 : decode cX9_numberOf 37 = .ok (.istore_n 2, 1) := by decide +kernel
theorem dX9_numberOf_38 : decode cX9_numberOf 38 = .ok (.iinc 3 1, 3) := by decide +kernel
theorem dX9_numberOf_41 : decode cX9_numberOf 41 = .ok (.goto (-37), 3) := by decide +kernel
theorem dX9_numberOf_44 : decode cX9_numberOf 44 = .ok (.iload_n 2, 1) := by decide +kernel
theorem dX9_numberOf_45 : decode cX9_numberOf 45 = .ok (.ireturn, 1) := by decide +kernel
abbrev rmX9_numberOf : Room := { frames := 0, cells := 0, slots := 0, locals := 0 }
theorem ywX9_numberOf : fY yX9_numberOf "EqualCourtModel" cX9_numberOf 4 (some .int) 1 := ⟨tw_1177, tp_53, tw_11, tw_1178, by decide +kernel⟩
set_option maxHeartbeats 4000000 in
set_option maxRecDepth 100000 in
theorem cX9_numberOf_ok {D : va_G} {ad : Nat → Nat} {cy cz : ClassId} {l : Launch} {z : fS} {v1 : Int32} {r : Int32} (h : fX9_numberOf z v1 = some r) : fMi D 31 ad (cfM ad cy cz) cy cz l yX9_numberOf cX9_numberOf 4 (some .int) rmX9_numberOf [.ref (ad 0), .int v1] z r z := by
  refine f_bodyi (by decide) (Nat.le_of_ble_eq_true rfl) (fun p e s m args below meth c Q hC hret ls hl hI => ?_)
  have hx := hC.1
  have hb := hC.2.1
  have hl : lv_has ls 4 [(0, .ref (ad 0)), (1, .int v1)] := hl
  unfold fX9_numberOf at h
  refine lv_iconst (v := -1) hx hb dX9_numberOf_0 (by decide) ?_
  refine lv_istore_n (lv' := [(2, .int (-1 : Int32)), (0, .ref (ad 0)), (1, .int v1)]) hx hb dX9_numberOf_1 rfl hl (by decide) rfl (fun ls hl => ?_)
  refine lv_iconst (v := 0) hx hb dX9_numberOf_2 (by decide) ?_
  refine lv_istore_n (lv' := [(3, .int (0 : Int32)), (2, .int (-1 : Int32)), (0, .ref (ad 0)), (1, .int v1)]) hx hb dX9_numberOf_3 rfl hl (by decide) rfl (fun ls hl => ?_)
  have w4 : ∀ (N4 : Nat) (v1 : Int32) (v2 : Int32) (v3 : Int32) (H : Heap) (locs : List Loc) (ls : Array Slot), fI D 31 ad (cfM ad cy cz) z s H locs → lv_has ls 4 [(0, .ref (ad 0)), (1, .int v1), (2, .int v2), (3, .int v3)] → lX9_numberOf_4   z v1 N4 v2 v3 = some r → W p l e rmX9_numberOf s m args below meth c H locs 0 0 Q (F0 m 4 ls []) := by
    intro N4
    induction N4 with
    | zero =>
      intro v1 v2 v3 H locs ls hI hl h
      exact none_no h
    | succ N4 ih4 =>
      intro v1 v2 v3 H locs ls hI hl h
      rw [lX9_numberOf_4.eq_2] at h
      refine lv_iload_n hx hb dX9_numberOf_4 rfl (lv_at hl 3 rfl) ?_
      refine lv_aload_n hx hb dX9_numberOf_5 rfl (lv_at hl 0 rfl) ?_
      refine gX9_terms hC hI tw_858 dX9_numberOf_6 ?_
      refine lv_icmp_ge (tgt := 44) hx hb dX9_numberOf_9 (by decide) (fun c9 => ?_) (fun c9 => ?_)
      · replace h := if_t h c9
        refine lv_iload_n hx hb dX9_numberOf_44 rfl (lv_at hl 2 rfl) ?_
        exact hret (ret_p _ h) dX9_numberOf_45 hI
      · replace h := if_f h c9
        refine lv_aload_n hx hb dX9_numberOf_12 rfl (lv_at hl 0 rfl) ?_
        refine gX9_one hC hI tw_882 dX9_numberOf_13 ?_
        refine lv_iload_n hx hb dX9_numberOf_16 rfl (lv_at hl 3 rfl) ?_
        have g17 := (gd_at h).1
        replace h := (gd_at h).2
        refine r_iald hC hI aM_20 g17 dX9_numberOf_17 ?_
        refine lv_iload_n hx hb dX9_numberOf_18 rfl (lv_at hl 1 rfl) ?_
        refine lv_icmp_ne (tgt := 36) hx hb dX9_numberOf_19 (by decide) (fun c19 => ?_) (fun c19 => ?_)
        · replace h := if_f h c19
          refine lv_iload_n hx hb dX9_numberOf_36 rfl (lv_at hl 2 rfl) ?_
          refine lv_istore_n (lv' := [(2, .int v2), (0, .ref (ad 0)), (1, .int v1), (3, .int v3)]) hx hb dX9_numberOf_37 rfl hl (by decide) rfl (fun ls hl => ?_)
          obtain ⟨x38, e38⟩ : ∃ y : Int32, y = (v3 + (1 : Int32)) := ⟨_, rfl⟩
          replace h := bnd_at h e38
          refine lv_iinc (v := x38) (lv' := [(3, .int x38), (2, .int v2), (0, .ref (ad 0)), (1, .int v1)]) hx hb dX9_numberOf_38 hl (k := 3) rfl (by rw [e38]; rfl) (by decide) rfl (fun ls hl => ?_)
          refine lv_goto (tgt := 4) hx hb dX9_numberOf_41 (by decide) ?_
          exact ih4 v1 v2 x38 _ _ _ hI (lv_sub hl [2, 3, 1, 0] rfl) h
        · replace h := if_t h c19
          refine lv_aload_n hx hb dX9_numberOf_22 rfl (lv_at hl 0 rfl) ?_
          refine gX9_kindOf hC hI tw_854 dX9_numberOf_23 ?_
          refine lv_iload_n hx hb dX9_numberOf_26 rfl (lv_at hl 3 rfl) ?_
          have g27 := (gd_at h).1
          replace h := (gd_at h).2
          refine r_iald hC hI aM_1 g27 dX9_numberOf_27 ?_
          refine lv_iconst (v := 1) hx hb dX9_numberOf_28 (by decide) ?_
          refine lv_icmp_ne (tgt := 36) hx hb dX9_numberOf_29 (by decide) (fun c29 => ?_) (fun c29 => ?_)
          · replace h := if_f h c29
            refine lv_iload_n hx hb dX9_numberOf_36 rfl (lv_at hl 2 rfl) ?_
            refine lv_istore_n (lv' := [(2, .int v2), (0, .ref (ad 0)), (1, .int v1), (3, .int v3)]) hx hb dX9_numberOf_37 rfl hl (by decide) rfl (fun ls hl => ?_)
            obtain ⟨x38, e38⟩ : ∃ y : Int32, y = (v3 + (1 : Int32)) := ⟨_, rfl⟩
            replace h := bnd_at h e38
            refine lv_iinc (v := x38) (lv' := [(3, .int x38), (2, .int v2), (0, .ref (ad 0)), (1, .int v1)]) hx hb dX9_numberOf_38 hl (k := 3) rfl (by rw [e38]; rfl) (by decide) rfl (fun ls hl => ?_)
            refine lv_goto (tgt := 4) hx hb dX9_numberOf_41 (by decide) ?_
            exact ih4 v1 v2 x38 _ _ _ hI (lv_sub hl [2, 3, 1, 0] rfl) h
          · replace h := if_t h c29
            refine lv_iload_n hx hb dX9_numberOf_32 rfl (lv_at hl 3 rfl) ?_
            refine lv_goto (tgt := 37) hx hb dX9_numberOf_33 (by decide) ?_
            refine lv_istore_n (lv' := [(2, .int v3), (0, .ref (ad 0)), (1, .int v1), (3, .int v3)]) hx hb dX9_numberOf_37 rfl hl (by decide) rfl (fun ls hl => ?_)
            obtain ⟨x38, e38⟩ : ∃ y : Int32, y = (v3 + (1 : Int32)) := ⟨_, rfl⟩
            replace h := bnd_at h e38
            refine lv_iinc (v := x38) (lv' := [(3, .int x38), (2, .int v3), (0, .ref (ad 0)), (1, .int v1)]) hx hb dX9_numberOf_38 hl (k := 3) rfl (by rw [e38]; rfl) (by decide) rfl (fun ls hl => ?_)
            refine lv_goto (tgt := 4) hx hb dX9_numberOf_41 (by decide) ?_
            exact ih4 v1 v3 x38 _ _ _ hI (lv_sub hl [2, 3, 1, 0] rfl) h
  exact w4 FU v1 (-1 : Int32) (0 : Int32) _ _ _ hI (lv_sub hl [2, 3, 1, 0] rfl) h
theorem dX9_world_0 : decode cX9_world 0 = .ok (.aload_n 0, 1) := by decide +kernel
theorem dX9_world_1 : decode cX9_world 1 = .ok (.iload_n 1, 1) := by decide +kernel
theorem dX9_world_2 : decode cX9_world 2 = .ok (.invokevirtual 132, 3) := by decide +kernel
theorem dX9_world_5 : decode cX9_world 5 = .ok (.ifCond .ne 7, 3) := by decide +kernel
theorem dX9_world_8 : decode cX9_world 8 = .ok (.ldc2_w 227, 3) := by decide +kernel
theorem dX9_world_11 : decode cX9_world 11 = .ok (.lreturn, 1) := by decide +kernel
theorem dX9_world_12 : decode cX9_world 12 = .ok (.aload_n 0, 1) := by decide +kernel
theorem dX9_world_13 : decode cX9_world 13 = .ok (.invokevirtual 161, 3) := by decide +kernel
theorem dX9_world_16 : decode cX9_world 16 = .ok (.aload_n 0, 1) := by decide +kernel
theorem dX9_world_17 : decode cX9_world 17 = .ok (.aload_n 0, 1) := by decide +kernel
theorem dX9_world_18 : decode cX9_world 18 = .ok (.getfield 72, 3) := by decide +kernel
theorem dX9_world_21 : decode cX9_world 21 = .ok (.iload_n 1, 1) := by decide +kernel
theorem dX9_world_22 : decode cX9_world 22 = .ok (.iaload, 1) := by decide +kernel
theorem dX9_world_23 : decode cX9_world 23 = .ok (.invokevirtual 229, 3) := by decide +kernel
theorem dX9_world_26 : decode cX9_world 26 = .ok (.istore_n 2, 1) := by decide +kernel
theorem dX9_world_27 : decode cX9_world 27 = .ok (.iload_n 2, 1) := by decide +kernel
theorem dX9_world_28 : decode cX9_world 28 = .ok (.ifCond .lt 11, 3) := by decide +kernel
theorem dX9_world_31 : decode cX9_world 31 = .ok (.aload_n 0, 1) := by decide +kernel
theorem dX9_world_32 : decode cX9_world 32 = .ok (.getfield 13, 3) := by decide +kernel
theorem dX9_world_35 : decode cX9_world 35 = .ok (.iload_n 2, 1) := by decide +kernel
theorem dX9_world_36 : decode cX9_world 36 = .ok (.iaload, 1) := by decide +kernel
theorem dX9_world_37 : decode cX9_world 37 = .ok (.i2l, 1) := by decide +kernel
theorem dX9_world_38 : decode cX9_world 38 = .ok (.lreturn, 1) := by decide +kernel
theorem dX9_world_39 : decode cX9_world 39 = .ok (.iconst 0, 1) := by decide +kernel
theorem dX9_world_40 : decode cX9_world 40 = .ok (.istore_n 3, 1) := by decide +kernel
theorem dX9_world_41 : decode cX9_world 41 = .ok (.iconst 0, 1) := by decide +kernel
theorem dX9_world_42 : decode cX9_world 42 = .ok (.istore 4, 2) := by decide +kernel
theorem dX9_world_44 : decode cX9_world 44 = .ok (.iload 4, 2) := by decide +kernel
theorem dX9_world_46 : decode cX9_world 46 = .ok (.aload_n 0, 1) := by decide +kernel
theorem dX9_world_47 : decode cX9_world 47 = .ok (.getfield 72, 3) := by decide +kernel
theorem dX9_world_50 : decode cX9_world 50 = .ok (.iload_n 1, 1) := by decide +kernel
theorem dX9_world_51 : decode cX9_world 51 = .ok (.iaload, 1) := by decide +kernel
theorem dX9_world_52 : decode cX9_world 52 = .ok (.if_icmp .ge 38, 3) := by decide +kernel
theorem dX9_world_55 : decode cX9_world 55 = .ok (.iload_n 3, 1) := by decide +kernel
theorem dX9_world_56 : decode cX9_world 56 = .ok (.aload_n 0, 1) := by decide +kernel
theorem dX9_world_57 : decode cX9_world 57 = .ok (.getfield 72, 3) := by decide +kernel
theorem dX9_world_60 : decode cX9_world 60 = .ok (.iload 4, 2) := by decide +kernel
theorem dX9_world_62 : decode cX9_world 62 = .ok (.iaload, 1) := by decide +kernel
theorem dX9_world_63 : decode cX9_world 63 = .ok (.iload 4, 2) := by decide +kernel
theorem dX9_world_65 : decode cX9_world 65 = .ok (.if_icmp .ne 16, 3) := by decide +kernel
theorem dX9_world_68 : decode cX9_world 68 = .ok (.aload_n 0, 1) := by decide +kernel
theorem dX9_world_69 : decode cX9_world 69 = .ok (.iload 4, 2) := by decide +kernel
theorem dX9_world_71 : decode cX9_world 71 = .ok (.invokevirtual 229, 3) := by decide +kernel
theorem dX9_world_74 : decode cX9_world 74 = .ok (.ifCond .ge 7, 3) := by decide +kernel
theorem dX9_world_77 : decode cX9_world 77 = .ok (.iconst 1, 1) := by decide +kernel
theorem dX9_world_78 : decode cX9_world 78 = .ok (.goto 4, 3) := by decide +kernel
theorem dX9_world_81 : decode cX9_world 81 = .ok (.iconst 0, 1) := by decide +kernel
theorem dX9_world_82 : decode cX9_world 82 = .ok (.iadd, 1) := by decide +kernel
theorem dX9_world_83 : decode cX9_world 83 = .ok (.istore_n 3, 1) := by decide +kernel
theorem dX9_world_84 : decode cX9_world 84 = .ok (.iinc 4 1, 3) := by decide +kernel
theorem dX9_world_87 : decode cX9_world 87 = .ok (.goto (-43), 3) := by decide +kernel
theorem dX9_world_90 : decode cX9_world 90 = .ok (.iconst 0, 1) := by decide +kernel
theorem dX9_world_91 : decode cX9_world 91 = .ok (.istore 4, 2) := by decide +kernel
theorem dX9_world_93 : decode cX9_world 93 = .ok (.iload_n 3, 1) := by decide +kernel
theorem dX9_world_94 : decode cX9_world 94 = .ok (.ifCond .gt 12, 3) := by decide +kernel
theorem dX9_world_97 : decode cX9_world 97 = .ok (.aload_n 0, 1) := by decide +kernel
theorem dX9_world_98 : decode cX9_world 98 = .ok (.iload 4, 2) := by decide +kernel
theorem dX9_world_100 : decode cX9_world 100 = .ok (.invokevirtual 232, 3) := by decide +kernel
theorem dX9_world_103 : decode cX9_world 103 = .ok (.ifCond .eq 26, 3) := by decide +kernel
theorem dX9_world_106 : decode cX9_world 106 = .ok (.iload_n 3, 1) := by decide +kernel
theorem dX9_world_107 : decode cX9_world 107 = .ok (.aload_n 0, 1) := by decide +kernel
theorem dX9_world_108 : decode cX9_world 108 = .ok (.iload 4, 2) := by decide +kernel
theorem dX9_world_110 : decode cX9_world 110 = .ok (.invokevirtual 232, 3) := by decide +kernel
theorem dX9_world_113 : decode cX9_world 113 = .ok (.ifCond .eq 7, 3) := by decide +kernel
theorem dX9_world_116 : decode cX9_world 116 = .ok (.iconst 0, 1) := by decide +kernel
theorem dX9_world_117 : decode cX9_world 117 = .ok (.goto 4, 3) := by decide +kernel
theorem dX9_world_120 : decode cX9_world 120 = .ok (.iconst 1, 1) := by decide +kernel
theorem dX9_world_121 : decode cX9_world 121 = .ok (.isub, 1) := by decide +kernel
theorem dX9_world_122 : decode cX9_world 122 = .ok (.istore_n 3, 1) := by decide +kernel
theorem dX9_world_123 : decode cX9_world 123 = .ok (.iinc 4 1, 3) := by decide +kernel
theorem dX9_world_126 : decode cX9_world 126 = .ok (.goto (-33), 3) := by decide +kernel
theorem dX9_world_129 : decode cX9_world 129 = .ok (.iload 4, 2) := by decide +kernel
theorem dX9_world_131 : decode cX9_world 131 = .ok (.i2l, 1) := by decide +kernel
theorem dX9_world_132 : decode cX9_world 132 = .ok (.lreturn, 1) := by decide +kernel
abbrev rmX9_world : Room := { frames := 5, cells := 0, slots := 0, locals := 114 }
theorem ywX9_world : fY yX9_world "EqualCourtModel" cX9_world 5 (some .long) 1 := ⟨tw_1171, tw_1172, tw_11, tw_1173, by decide +kernel⟩
set_option maxHeartbeats 4000000 in
set_option maxRecDepth 100000 in
theorem cX9_world_ok {D : va_G} {ad : Nat → Nat} {cy cz : ClassId} {l : Launch} {z : fS} {v1 : Int32} {r : Int64} {τ : fS} (h : fX9_world z v1 = some (r, τ)) : fMl D 31 ad (cfM ad cy cz) cy cz l yX9_world cX9_world 5 (some .long) rmX9_world [.ref (ad 0), .int v1] z r τ := by
  refine f_bodyl (by decide) (Nat.le_of_ble_eq_true rfl) (fun p e s m args below meth c Q hC hret ls hl hI => ?_)
  have hx := hC.1
  have hb := hC.2.1
  have hl : lv_has ls 5 [(0, .ref (ad 0)), (1, .int v1)] := hl
  unfold fX9_world at h
  have w90 : ∀ (z : fS) (v3 : Int32) (H : Heap) (locs : List Loc) (ls : Array Slot), fI D 31 ad (cfM ad cy cz) z s H locs → lv_has ls 5 [(0, .ref (ad 0)), (3, .int v3)] → jX9_world_90   z v3 = some (r, τ) → W p l e rmX9_world s m args below meth c H locs 0 0 Q (F0 m 90 ls []) := by
    intro z v3 H locs ls hI hl h
    unfold jX9_world_90 at h
    refine lv_iconst (v := 0) hx hb dX9_world_90 (by decide) ?_
    refine lv_istore (lv' := [(4, .int (0 : Int32)), (0, .ref (ad 0)), (3, .int v3)]) hx hb dX9_world_91 hl (by decide) rfl (fun ls hl => ?_)
    have w93 : ∀ (N93 : Nat) (z : fS) (v3 : Int32) (v4 : Int32) (H : Heap) (locs : List Loc) (ls : Array Slot), fI D 31 ad (cfM ad cy cz) z s H locs → lv_has ls 5 [(0, .ref (ad 0)), (3, .int v3), (4, .int v4)] → lX9_world_93   z N93 v3 v4 = some (r, τ) → W p l e rmX9_world s m args below meth c H locs 0 0 Q (F0 m 93 ls []) := by
      intro N93
      induction N93 with
      | zero =>
        intro z v3 v4 H locs ls hI hl h
        exact none_no h
      | succ N93 ih93 =>
        have w106 : ∀ (v3 : Int32) (v4 : Int32) (z : fS) (H : Heap) (locs : List Loc) (ls : Array Slot), fI D 31 ad (cfM ad cy cz) z s H locs → lv_has ls 5 [(0, .ref (ad 0)), (3, .int v3), (4, .int v4)] → jX9_world_106  (lX9_world_93   z N93) v3 v4 z = some (r, τ) → W p l e rmX9_world s m args below meth c H locs 0 0 Q (F0 m 106 ls []) := by
          intro v3 v4 z H locs ls hI hl h
          unfold jX9_world_106 at h
          refine lv_iload_n hx hb dX9_world_106 rfl (lv_at hl 1 rfl) ?_
          refine lv_aload_n hx hb dX9_world_107 rfl (lv_at hl 0 rfl) ?_
          refine lv_iload hx hb dX9_world_108 (lv_at hl 2 rfl) ?_
          replace h := bp_at h
          obtain ⟨r110, e110, h⟩ := h
          refine r_calli (rest := [.int v3]) hC hI oM_0 (C := "EqualCourtModel") rfl ywX9_isNumber tw_1179 (cX9_isNumber_ok  e110) ⟨Nat.le_of_ble_eq_true rfl, Nat.le_of_ble_eq_true rfl⟩ ⟨rfl, rfl⟩ rfl hl.1 rfl (Nat.le_of_ble_eq_true rfl) dX9_world_110 (fun H locs hI => ?_)
          refine lv_if_eq (tgt := 120) hx hb dX9_world_113 (by decide) (fun c113 => ?_) (fun c113 => ?_)
          · replace h := if_t h c113
            refine lv_iconst (v := 1) hx hb dX9_world_120 (by decide) ?_
            refine lv_isub hx hb dX9_world_121 ?_
            refine lv_topi (fun x122 e122 => ?_)
            replace h := bnd_at h e122
            refine lv_istore_n (lv' := [(3, .int x122), (0, .ref (ad 0)), (4, .int v4)]) hx hb dX9_world_122 rfl hl (by decide) rfl (fun ls hl => ?_)
            obtain ⟨x123, e123⟩ : ∃ y : Int32, y = (v4 + (1 : Int32)) := ⟨_, rfl⟩
            replace h := bnd_at h e123
            refine lv_iinc (v := x123) (lv' := [(4, .int x123), (3, .int x122), (0, .ref (ad 0))]) hx hb dX9_world_123 hl (k := 2) rfl (by rw [e123]; rfl) (by decide) rfl (fun ls hl => ?_)
            refine lv_goto (tgt := 93) hx hb dX9_world_126 (by decide) ?_
            exact ih93 z x122 x123 _ _ _ hI (lv_sub hl [2, 1, 0] rfl) h
          · replace h := if_f h c113
            refine lv_iconst (v := 0) hx hb dX9_world_116 (by decide) ?_
            refine lv_goto (tgt := 121) hx hb dX9_world_117 (by decide) ?_
            refine lv_isub hx hb dX9_world_121 ?_
            refine lv_topi (fun x122 e122 => ?_)
            replace h := bnd_at h e122
            refine lv_istore_n (lv' := [(3, .int x122), (0, .ref (ad 0)), (4, .int v4)]) hx hb dX9_world_122 rfl hl (by decide) rfl (fun ls hl => ?_)
            obtain ⟨x123, e123⟩ : ∃ y : Int32, y = (v4 + (1 : Int32)) := ⟨_, rfl⟩
            replace h := bnd_at h e123
            refine lv_iinc (v := x123) (lv' := [(4, .int x123), (3, .int x122), (0, .ref (ad 0))]) hx hb dX9_world_123 hl (k := 2) rfl (by rw [e123]; rfl) (by decide) rfl (fun ls hl => ?_)
            refine lv_goto (tgt := 93) hx hb dX9_world_126 (by decide) ?_
            exact ih93 z x122 x123 _ _ _ hI (lv_sub hl [2, 1, 0] rfl) h
        intro z v3 v4 H locs ls hI hl h
        rw [lX9_world_93.eq_2] at h
        refine lv_iload_n hx hb dX9_world_93 rfl (lv_at hl 1 rfl) ?_
        refine lv_if_gt (tgt := 106) hx hb dX9_world_94 (by decide) (fun c94 => ?_) (fun c94 => ?_)
        · replace h := if_t h c94
          exact w106 v3 v4 z _ _ _ hI hl h
        · replace h := if_f h c94
          refine lv_aload_n hx hb dX9_world_97 rfl (lv_at hl 0 rfl) ?_
          refine lv_iload hx hb dX9_world_98 (lv_at hl 2 rfl) ?_
          replace h := bp_at h
          obtain ⟨r100, e100, h⟩ := h
          refine r_calli (rest := []) hC hI oM_0 (C := "EqualCourtModel") rfl ywX9_isNumber tw_1179 (cX9_isNumber_ok  e100) ⟨Nat.le_of_ble_eq_true rfl, Nat.le_of_ble_eq_true rfl⟩ ⟨rfl, rfl⟩ rfl hl.1 rfl (Nat.le_of_ble_eq_true rfl) dX9_world_100 (fun H locs hI => ?_)
          refine lv_if_eq (tgt := 129) hx hb dX9_world_103 (by decide) (fun c103 => ?_) (fun c103 => ?_)
          · replace h := if_t h c103
            refine lv_iload hx hb dX9_world_129 (lv_at hl 2 rfl) ?_
            refine lv_i2l hx hb dX9_world_131 rfl ?_
            exact hret h dX9_world_132 hI
          · replace h := if_f h c103
            exact w106 v3 v4 z _ _ _ hI hl h
    exact w93 FU z v3 (0 : Int32) _ _ _ hI (lv_sub hl [1, 2, 0] rfl) h
  refine lv_aload_n hx hb dX9_world_0 rfl (lv_at hl 0 rfl) ?_
  refine lv_iload_n hx hb dX9_world_1 rfl (lv_at hl 1 rfl) ?_
  replace h := bp_at h
  obtain ⟨r2, e2, h⟩ := h
  refine r_calli (rest := []) hC hI oM_0 (C := "EqualCourtModel") rfl ywX9_isTerm tw_1013 (cX9_isTerm_ok  e2) ⟨Nat.le_of_ble_eq_true rfl, Nat.le_of_ble_eq_true rfl⟩ ⟨rfl, rfl⟩ rfl hl.1 rfl (Nat.le_of_ble_eq_true rfl) dX9_world_2 (fun H locs hI => ?_)
  refine lv_if_ne (tgt := 12) hx hb dX9_world_5 (by decide) (fun c5 => ?_) (fun c5 => ?_)
  · replace h := if_f h c5
    refine lv_aload_n hx hb dX9_world_12 rfl (lv_at hl 0 rfl) ?_
    replace h := bp_at h
    obtain ⟨z13, e13, h⟩ := h
    refine r_callv (rest := []) hC hI oM_0 (C := "EqualCourtModel") rfl ywX9_court tw_1049 (cX9_court_ok  e13) ⟨Nat.le_of_ble_eq_true rfl, Nat.le_of_ble_eq_true rfl⟩ ⟨rfl, rfl⟩ rfl hl.1 rfl (Nat.le_of_ble_eq_true rfl) dX9_world_13 (fun H locs hI => ?_)
    refine lv_aload_n hx hb dX9_world_16 rfl (lv_at hl 0 rfl) ?_
    refine lv_aload_n hx hb dX9_world_17 rfl (lv_at hl 0 rfl) ?_
    refine gX9_one hC hI tw_882 dX9_world_18 ?_
    refine lv_iload_n hx hb dX9_world_21 rfl (lv_at hl 1 rfl) ?_
    have g22 := (gd_at h).1
    replace h := (gd_at h).2
    refine r_iald hC hI aM_20 g22 dX9_world_22 ?_
    replace h := bp_at h
    obtain ⟨r23, e23, h⟩ := h
    refine r_calli (rest := []) hC hI oM_0 (C := "EqualCourtModel") rfl ywX9_numberOf tw_1175 (cX9_numberOf_ok  e23) ⟨Nat.le_of_ble_eq_true rfl, Nat.le_of_ble_eq_true rfl⟩ ⟨rfl, rfl⟩ rfl hl.1 rfl (Nat.le_of_ble_eq_true rfl) dX9_world_23 (fun H locs hI => ?_)
    refine lv_istore_n (lv' := [(2, .int r23), (0, .ref (ad 0)), (1, .int v1)]) hx hb dX9_world_26 rfl hl (by decide) rfl (fun ls hl => ?_)
    refine lv_iload_n hx hb dX9_world_27 rfl (lv_at hl 0 rfl) ?_
    refine lv_if_lt (tgt := 39) hx hb dX9_world_28 (by decide) (fun c28 => ?_) (fun c28 => ?_)
    · replace h := if_t h c28
      refine lv_iconst (v := 0) hx hb dX9_world_39 (by decide) ?_
      refine lv_istore_n (lv' := [(3, .int (0 : Int32)), (2, .int r23), (0, .ref (ad 0)), (1, .int v1)]) hx hb dX9_world_40 rfl hl (by decide) rfl (fun ls hl => ?_)
      refine lv_iconst (v := 0) hx hb dX9_world_41 (by decide) ?_
      refine lv_istore (lv' := [(4, .int (0 : Int32)), (3, .int (0 : Int32)), (2, .int r23), (0, .ref (ad 0)), (1, .int v1)]) hx hb dX9_world_42 hl (by decide) rfl (fun ls hl => ?_)
      have w44 : ∀ (N44 : Nat) (z : fS) (v1 : Int32) (v3 : Int32) (v4 : Int32) (H : Heap) (locs : List Loc) (ls : Array Slot), fI D 31 ad (cfM ad cy cz) z s H locs → lv_has ls 5 [(0, .ref (ad 0)), (1, .int v1), (3, .int v3), (4, .int v4)] → lX9_world_44  (jX9_world_90   z) z v1 N44 v3 v4 = some (r, τ) → W p l e rmX9_world s m args below meth c H locs 0 0 Q (F0 m 44 ls []) := by
        intro N44
        induction N44 with
        | zero =>
          intro z v1 v3 v4 H locs ls hI hl h
          exact none_no h
        | succ N44 ih44 =>
          intro z v1 v3 v4 H locs ls hI hl h
          rw [lX9_world_44.eq_2] at h
          refine lv_iload hx hb dX9_world_44 (lv_at hl 3 rfl) ?_
          refine lv_aload_n hx hb dX9_world_46 rfl (lv_at hl 0 rfl) ?_
          refine gX9_one hC hI tw_882 dX9_world_47 ?_
          refine lv_iload_n hx hb dX9_world_50 rfl (lv_at hl 1 rfl) ?_
          have g51 := (gd_at h).1
          replace h := (gd_at h).2
          refine r_iald hC hI aM_20 g51 dX9_world_51 ?_
          refine lv_icmp_ge (tgt := 90) hx hb dX9_world_52 (by decide) (fun c52 => ?_) (fun c52 => ?_)
          · replace h := if_t h c52
            exact w90 z v3 _ _ _ hI (lv_sub hl [0, 2] rfl) h
          · replace h := if_f h c52
            refine lv_iload_n hx hb dX9_world_55 rfl (lv_at hl 2 rfl) ?_
            refine lv_aload_n hx hb dX9_world_56 rfl (lv_at hl 0 rfl) ?_
            refine gX9_one hC hI tw_882 dX9_world_57 ?_
            refine lv_iload hx hb dX9_world_60 (lv_at hl 3 rfl) ?_
            have g62 := (gd_at h).1
            replace h := (gd_at h).2
            refine r_iald hC hI aM_20 g62 dX9_world_62 ?_
            refine lv_iload hx hb dX9_world_63 (lv_at hl 3 rfl) ?_
            refine lv_icmp_ne (tgt := 81) hx hb dX9_world_65 (by decide) (fun c65 => ?_) (fun c65 => ?_)
            · replace h := if_f h c65
              refine lv_iconst (v := 0) hx hb dX9_world_81 (by decide) ?_
              refine lv_iadd hx hb dX9_world_82 ?_
              refine lv_topi (fun x83 e83 => ?_)
              replace h := bnd_at h e83
              refine lv_istore_n (lv' := [(3, .int x83), (0, .ref (ad 0)), (1, .int v1), (4, .int v4)]) hx hb dX9_world_83 rfl hl (by decide) rfl (fun ls hl => ?_)
              obtain ⟨x84, e84⟩ : ∃ y : Int32, y = (v4 + (1 : Int32)) := ⟨_, rfl⟩
              replace h := bnd_at h e84
              refine lv_iinc (v := x84) (lv' := [(4, .int x84), (3, .int x83), (0, .ref (ad 0)), (1, .int v1)]) hx hb dX9_world_84 hl (k := 3) rfl (by rw [e84]; rfl) (by decide) rfl (fun ls hl => ?_)
              refine lv_goto (tgt := 44) hx hb dX9_world_87 (by decide) ?_
              exact ih44 z v1 x83 x84 _ _ _ hI (lv_sub hl [2, 3, 1, 0] rfl) h
            · replace h := if_t h c65
              refine lv_aload_n hx hb dX9_world_68 rfl (lv_at hl 0 rfl) ?_
              refine lv_iload hx hb dX9_world_69 (lv_at hl 3 rfl) ?_
              replace h := bp_at h
              obtain ⟨r71, e71, h⟩ := h
              refine r_calli (rest := [.int v3]) hC hI oM_0 (C := "EqualCourtModel") rfl ywX9_numberOf tw_1175 (cX9_numberOf_ok  e71) ⟨Nat.le_of_ble_eq_true rfl, Nat.le_of_ble_eq_true rfl⟩ ⟨rfl, rfl⟩ rfl hl.1 rfl (Nat.le_of_ble_eq_true rfl) dX9_world_71 (fun H locs hI => ?_)
              refine lv_if_ge (tgt := 81) hx hb dX9_world_74 (by decide) (fun c74 => ?_) (fun c74 => ?_)
              · replace h := if_t h c74
                refine lv_iconst (v := 0) hx hb dX9_world_81 (by decide) ?_
                refine lv_iadd hx hb dX9_world_82 ?_
                refine lv_topi (fun x83 e83 => ?_)
                replace h := bnd_at h e83
                refine lv_istore_n (lv' := [(3, .int x83), (0, .ref (ad 0)), (1, .int v1), (4, .int v4)]) hx hb dX9_world_83 rfl hl (by decide) rfl (fun ls hl => ?_)
                obtain ⟨x84, e84⟩ : ∃ y : Int32, y = (v4 + (1 : Int32)) := ⟨_, rfl⟩
                replace h := bnd_at h e84
                refine lv_iinc (v := x84) (lv' := [(4, .int x84), (3, .int x83), (0, .ref (ad 0)), (1, .int v1)]) hx hb dX9_world_84 hl (k := 3) rfl (by rw [e84]; rfl) (by decide) rfl (fun ls hl => ?_)
                refine lv_goto (tgt := 44) hx hb dX9_world_87 (by decide) ?_
                exact ih44 z v1 x83 x84 _ _ _ hI (lv_sub hl [2, 3, 1, 0] rfl) h
              · replace h := if_f h c74
                refine lv_iconst (v := 1) hx hb dX9_world_77 (by decide) ?_
                refine lv_goto (tgt := 82) hx hb dX9_world_78 (by decide) ?_
                refine lv_iadd hx hb dX9_world_82 ?_
                refine lv_topi (fun x83 e83 => ?_)
                replace h := bnd_at h e83
                refine lv_istore_n (lv' := [(3, .int x83), (0, .ref (ad 0)), (1, .int v1), (4, .int v4)]) hx hb dX9_world_83 rfl hl (by decide) rfl (fun ls hl => ?_)
                obtain ⟨x84, e84⟩ : ∃ y : Int32, y = (v4 + (1 : Int32)) := ⟨_, rfl⟩
                replace h := bnd_at h e84
                refine lv_iinc (v := x84) (lv' := [(4, .int x84), (3, .int x83), (0, .ref (ad 0)), (1, .int v1)]) hx hb dX9_world_84 hl (k := 3) rfl (by rw [e84]; rfl) (by decide) rfl (fun ls hl => ?_)
                refine lv_goto (tgt := 44) hx hb dX9_world_87 (by decide) ?_
                exact ih44 z v1 x83 x84 _ _ _ hI (lv_sub hl [2, 3, 1, 0] rfl) h
      exact w44 FU z13 v1 (0 : Int32) (0 : Int32) _ _ _ hI (lv_sub hl [3, 4, 1, 0] rfl) h
    · replace h := if_f h c28
      refine lv_aload_n hx hb dX9_world_31 rfl (lv_at hl 1 rfl) ?_
      refine gX9_shown hC hI tw_855 dX9_world_32 ?_
      refine lv_iload_n hx hb dX9_world_35 rfl (lv_at hl 0 rfl) ?_
      have g36 := (gd_at h).1
      replace h := (gd_at h).2
      refine r_iald hC hI aM_2 g36 dX9_world_36 ?_
      refine lv_i2l hx hb dX9_world_37 rfl ?_
      exact hret h dX9_world_38 hI
  · replace h := if_t h c5
    refine lv_ldc2 (v := 1099511627776) hx hb hC.2.2.2.1 (hC.2.2.2.2.1 _ tw_1174) dX9_world_8 ?_
    exact hret h dX9_world_11 hI
theorem dX9_push_0 : decode cX9_push 0 = .ok (.aload_n 0, 1) := by decide +kernel
theorem dX9_push_1 : decode cX9_push 1 = .ok (.getfield 179, 3) := by decide +kernel
theorem dX9_push_4 : decode cX9_push 4 = .ok (.bipush 10, 2) := by decide +kernel
theorem dX9_push_6 : decode cX9_push 6 = .ok (.if_icmp .ne 9, 3) := by decide +kernel
theorem dX9_push_9 : decode cX9_push 9 = .ok (.aload_n 0, 1) := by decide +kernel
theorem dX9_push_10 : decode cX9_push 10 = .ok (.iconst 3, 1) := by decide +kernel
theorem dX9_push_11 : decode cX9_push 11 = .ok (.invokevirtual 119, 3) := by decide +kernel
theorem dX9_push_14 : decode cX9_push 14 = .ok (.ireturn, 1) := by decide +kernel
theorem dX9_push_15 : decode cX9_push 15 = .ok (.iconst 0, 1) := by decide +kernel
theorem dX9_push_16 : decode cX9_push 16 = .ok (.istore_n 1, 1) := by decide +kernel
theorem dX9_push_17 : decode cX9_push 17 = .ok (.iload_n 1, 1) := by decide +kernel
theorem dX9_push_18 : decode cX9_push 18 = .ok (.bipush 100, 2) := by decide +kernel
theorem dX9_push_20 : decode cX9_push 20 = .ok (.if_icmp .ge 45, 3) := by decide +kernel
theorem dX9_push_23 : decode cX9_push 23 = .ok (.aload_n 0, 1) := by decide +kernel
theorem dX9_push_24 : decode cX9_push 24 = .ok (.getfield 35, 3) := by decide +kernel
theorem dX9_push_27 : decode cX9_push 27 = .ok (.bipush 100, 2) := by decide +kernel
theorem dX9_push_29 : decode cX9_push 29 = .ok (.aload_n 0, 1) := by decide +kernel
theorem dX9_push_30 : decode cX9_push 30 = .ok (.getfield 179, 3) := by decide +kernel
theorem dX9_push_33 : decode cX9_push 33 = .ok (.imul, 1) := by decide +kernel
theorem dX9_push_34 : decode cX9_push 34 = .ok (.iload_n 1, 1) := by decide +kernel
theorem dX9_push_35 : decode cX9_push 35 = .ok (.iadd, 1) := by decide +kernel
theorem dX9_push_36 : decode cX9_push 36 = .ok (.iload_n 1, 1) := by decide +kernel
theorem dX9_push_37 : decode cX9_push 37 = .ok (.aload_n 0, 1) := by decide +kernel
theorem dX9_push_38 : decode cX9_push 38 = .ok (.getfield 155, 3) := by decide +kernel
theorem dX9_push_41 : decode cX9_push 41 = .ok (.if_icmp .ge 16, 3) := by decide +kernel
theorem dX9_push_44 : decode cX9_push 44 = .ok (.aload_n 0, 1) := by decide +kernel
theorem dX9_push_45 : decode cX9_push 45 = .ok (.getfield 32, 3) := by decide +kernel
theorem dX9_push_48 : decode cX9_push 48 = .ok (.iload_n 1, 1) := by decide +kernel
theorem dX9_push_49 : decode cX9_push 49 = .ok (.baload, 1) := by decide +kernel
theorem dX9_push_50 : decode cX9_push 50 = .ok (.ifCond .eq 7, 3) := by decide +kernel
theorem dX9_push_53 : decode cX9_push 53 = .ok (.iconst 1, 1) := by decide +kernel
theorem dX9_push_54 : decode cX9_push 54 = .ok (.goto 4, 3) := by decide +kernel
theorem dX9_push_57 : decode cX9_push 57 = .ok (.iconst 0, 1) := by decide +kernel
theorem dX9_push_58 : decode cX9_push 58 = .ok (.bastore, 1) := by decide +kernel
theorem dX9_push_59 : decode cX9_push 59 = .ok (.iinc 1 1, 3) := by decide +kernel
theorem dX9_push_62 : decode cX9_push 62 = .ok (.goto (-45), 3) := by decide +kernel
theorem dX9_push_65 : decode cX9_push 65 = .ok (.aload_n 0, 1) := by decide +kernel
theorem dX9_push_66 : decode cX9_push 66 = .ok (.dup, 1) := by decide +kernel
theorem dX9_push_67 : decode cX9_push 67 = .ok (.getfield 179, 3) := by decide +kernel
theorem dX9_push_70 : decode cX9_push 70 = .ok (.iconst 1, 1) := by decide +kernel
theorem dX9_push_71 : decode cX9_push 71 = .ok (.iadd, 1) := by decide +kernel
theorem dX9_push_72 : decode cX9_push 72 = .ok (.putfield 179, 3) := by decide +kernel
theorem dX9_push_75 : decode cX9_push 75 = .ok (.aload_n 0, 1) := by decide +kernel
theorem dX9_push_76 : decode cX9_push 76 = .ok (.aload_n 0, 1) := by decide +kernel
theorem dX9_push_77 : decode cX9_push 77 = .ok (.getfield 179, 3) := by decide +kernel
theorem dX9_push_80 : decode cX9_push 80 = .ok (.invokevirtual 123, 3) := by decide +kernel
theorem dX9_push_83 : decode cX9_push 83 = .ok (.ireturn, 1) := by decide +kernel
abbrev rmX9_push : Room := { frames := 1, cells := 0, slots := 0, locals := 21 }
theorem ywX9_push : fY yX9_push "EqualCourtModel" cX9_push 2 (some .int) 0 := ⟨tw_1184, tw_1185, tw_11, tw_1186, by decide +kernel⟩
set_option maxHeartbeats 4000000 in
set_option maxRecDepth 100000 in
theorem cX9_push_ok {D : va_G} {ad : Nat → Nat} {cy cz : ClassId} {l : Launch} {z : fS}  {r : Int32} {τ : fS} (h : fX9_push z = some (r, τ)) : fMi D 31 ad (cfM ad cy cz) cy cz l yX9_push cX9_push 2 (some .int) rmX9_push [.ref (ad 0)] z r τ := by
  refine f_bodyi (by decide) (Nat.le_of_ble_eq_true rfl) (fun p e s m args below meth c Q hC hret ls hl hI => ?_)
  have hx := hC.1
  have hb := hC.2.1
  have hl : lv_has ls 2 [(0, .ref (ad 0))] := hl
  unfold fX9_push at h
  refine lv_aload_n hx hb dX9_push_0 rfl (lv_at hl 0 rfl) ?_
  refine gX9_levels hC hI tw_865 dX9_push_1 ?_
  refine lv_bipush (v := 10) hx hb dX9_push_4 (by decide) ?_
  refine lv_icmp_ne (tgt := 15) hx hb dX9_push_6 (by decide) (fun c6 => ?_) (fun c6 => ?_)
  · replace h := if_f h c6
    refine lv_iconst (v := 0) hx hb dX9_push_15 (by decide) ?_
    refine lv_istore_n (lv' := [(1, .int (0 : Int32)), (0, .ref (ad 0))]) hx hb dX9_push_16 rfl hl (by decide) rfl (fun ls hl => ?_)
    have w17 : ∀ (N17 : Nat) (v1 : Int32) (z : fS) (H : Heap) (locs : List Loc) (ls : Array Slot), fI D 31 ad (cfM ad cy cz) z s H locs → lv_has ls 2 [(0, .ref (ad 0)), (1, .int v1)] → lX9_push_17    N17 v1 z = some (r, τ) → W p l e rmX9_push s m args below meth c H locs 0 0 Q (F0 m 17 ls []) := by
      intro N17
      induction N17 with
      | zero =>
        intro v1 z H locs ls hI hl h
        exact none_no h
      | succ N17 ih17 =>
        intro v1 z H locs ls hI hl h
        rw [lX9_push_17.eq_2] at h
        refine lv_iload_n hx hb dX9_push_17 rfl (lv_at hl 1 rfl) ?_
        refine lv_bipush (v := 100) hx hb dX9_push_18 (by decide) ?_
        refine lv_icmp_ge (tgt := 65) hx hb dX9_push_20 (by decide) (fun c20 => ?_) (fun c20 => ?_)
        · replace h := if_t h c20
          refine lv_aload_n hx hb dX9_push_65 rfl (lv_at hl 0 rfl) ?_
          refine lv_dup hx hb dX9_push_66 rfl ?_
          refine gX9_levels hC hI tw_865 dX9_push_67 ?_
          refine lv_iconst (v := 1) hx hb dX9_push_70 (by decide) ?_
          refine lv_iadd hx hb dX9_push_71 ?_
          refine pX9_levels hC hI tw_865 dX9_push_72 (fun z72 H locs e72 hI => ?_)
          replace h := bnd_at h e72
          refine lv_aload_n hx hb dX9_push_75 rfl (lv_at hl 0 rfl) ?_
          refine lv_aload_n hx hb dX9_push_76 rfl (lv_at hl 0 rfl) ?_
          refine gX9_levels hC hI tw_865 dX9_push_77 ?_
          replace h := bd_at h
          obtain ⟨r80, z80, e80, h⟩ := h
          refine r_calli (rest := []) hC hI oM_0 (C := "EqualCourtModel") rfl ywX9_done tw_1001 (cX9_done_ok  e80) ⟨Nat.le_of_ble_eq_true rfl, Nat.le_of_ble_eq_true rfl⟩ ⟨rfl, rfl⟩ rfl hl.1 rfl (Nat.le_of_ble_eq_true rfl) dX9_push_80 (fun H locs hI => ?_)
          exact hret h dX9_push_83 hI
        · replace h := if_f h c20
          refine lv_aload_n hx hb dX9_push_23 rfl (lv_at hl 0 rfl) ?_
          refine gX9_remembered hC hI tw_864 dX9_push_24 ?_
          refine lv_bipush (v := 100) hx hb dX9_push_27 (by decide) ?_
          refine lv_aload_n hx hb dX9_push_29 rfl (lv_at hl 0 rfl) ?_
          refine gX9_levels hC hI tw_865 dX9_push_30 ?_
          refine lv_imul hx hb dX9_push_33 ?_
          refine lv_iload_n hx hb dX9_push_34 rfl (lv_at hl 1 rfl) ?_
          refine lv_iadd hx hb dX9_push_35 ?_
          refine lv_iload_n hx hb dX9_push_36 rfl (lv_at hl 1 rfl) ?_
          refine lv_aload_n hx hb dX9_push_37 rfl (lv_at hl 0 rfl) ?_
          refine gX9_sayings hC hI tw_863 dX9_push_38 ?_
          refine lv_icmp_ge (tgt := 57) hx hb dX9_push_41 (by decide) (fun c41 => ?_) (fun c41 => ?_)
          · replace h := if_t h c41
            refine lv_iconst (v := 0) hx hb dX9_push_57 (by decide) ?_
            have g58 := (gd_at h).1
            replace h := (gd_at h).2
            refine r_zast hC hI aM_9 g58 dX9_push_58 (fun z58 H locs e58 hI => ?_)
            replace h := bnd_at h e58
            obtain ⟨x59, e59⟩ : ∃ y : Int32, y = (v1 + (1 : Int32)) := ⟨_, rfl⟩
            replace h := bnd_at h e59
            refine lv_iinc (v := x59) (lv' := [(1, .int x59), (0, .ref (ad 0))]) hx hb dX9_push_59 hl (k := 1) rfl (by rw [e59]; rfl) (by decide) rfl (fun ls hl => ?_)
            refine lv_goto (tgt := 17) hx hb dX9_push_62 (by decide) ?_
            exact ih17  x59 z58 _ _ _ hI (lv_sub hl [1, 0] rfl) h
          · replace h := if_f h c41
            refine lv_aload_n hx hb dX9_push_44 rfl (lv_at hl 0 rfl) ?_
            refine gX9_isTaken hC hI tw_862 dX9_push_45 ?_
            refine lv_iload_n hx hb dX9_push_48 rfl (lv_at hl 1 rfl) ?_
            have g49 := (gd_at h).1
            replace h := (gd_at h).2
            refine r_zald hC hI aM_8 g49 dX9_push_49 ?_
            refine lv_if_eq (tgt := 57) hx hb dX9_push_50 (by decide) (fun c50 => ?_) (fun c50 => ?_)
            · replace h := if_t h c50
              refine lv_iconst (v := 0) hx hb dX9_push_57 (by decide) ?_
              have g58 := (gd_at h).1
              replace h := (gd_at h).2
              refine r_zast hC hI aM_9 g58 dX9_push_58 (fun z58 H locs e58 hI => ?_)
              replace h := bnd_at h e58
              obtain ⟨x59, e59⟩ : ∃ y : Int32, y = (v1 + (1 : Int32)) := ⟨_, rfl⟩
              replace h := bnd_at h e59
              refine lv_iinc (v := x59) (lv' := [(1, .int x59), (0, .ref (ad 0))]) hx hb dX9_push_59 hl (k := 1) rfl (by rw [e59]; rfl) (by decide) rfl (fun ls hl => ?_)
              refine lv_goto (tgt := 17) hx hb dX9_push_62 (by decide) ?_
              exact ih17  x59 z58 _ _ _ hI (lv_sub hl [1, 0] rfl) h
            · replace h := if_f h c50
              refine lv_iconst (v := 1) hx hb dX9_push_53 (by decide) ?_
              refine lv_goto (tgt := 58) hx hb dX9_push_54 (by decide) ?_
              have g58 := (gd_at h).1
              replace h := (gd_at h).2
              refine r_zast hC hI aM_9 g58 dX9_push_58 (fun z58 H locs e58 hI => ?_)
              replace h := bnd_at h e58
              obtain ⟨x59, e59⟩ : ∃ y : Int32, y = (v1 + (1 : Int32)) := ⟨_, rfl⟩
              replace h := bnd_at h e59
              refine lv_iinc (v := x59) (lv' := [(1, .int x59), (0, .ref (ad 0))]) hx hb dX9_push_59 hl (k := 1) rfl (by rw [e59]; rfl) (by decide) rfl (fun ls hl => ?_)
              refine lv_goto (tgt := 17) hx hb dX9_push_62 (by decide) ?_
              exact ih17  x59 z58 _ _ _ hI (lv_sub hl [1, 0] rfl) h
    exact w17 FU  (0 : Int32) z _ _ _ hI (lv_sub hl [1, 0] rfl) h
  · replace h := if_t h c6
    refine lv_aload_n hx hb dX9_push_9 rfl (lv_at hl 0 rfl) ?_
    refine lv_iconst (v := 3) hx hb dX9_push_10 (by decide) ?_
    replace h := bd_at h
    obtain ⟨r11, z11, e11, h⟩ := h
    refine r_calli (rest := []) hC hI oM_0 (C := "EqualCourtModel") rfl ywX9_refuse tw_985 (cX9_refuse_ok  e11) ⟨Nat.le_of_ble_eq_true rfl, Nat.le_of_ble_eq_true rfl⟩ ⟨rfl, rfl⟩ rfl hl.1 rfl (Nat.le_of_ble_eq_true rfl) dX9_push_11 (fun H locs hI => ?_)
    exact hret h dX9_push_14 hI
theorem dX9_pop_0 : decode cX9_pop 0 = .ok (.aload_n 0, 1) := by decide +kernel
theorem dX9_pop_1 : decode cX9_pop 1 = .ok (.getfield 179, 3) := by decide +kernel
theorem dX9_pop_4 : decode cX9_pop 4 = .ok (.ifCond .ne 10, 3) := by decide +kernel
theorem dX9_pop_7 : decode cX9_pop 7 = .ok (.aload_n 0, 1) := by decide +kernel
theorem dX9_pop_8 : decode cX9_pop 8 = .ok (.bipush 9, 2) := by decide +kernel
theorem dX9_pop_10 : decode cX9_pop 10 = .ok (.invokevirtual 119, 3) := by decide +kernel
theorem dX9_pop_13 : decode cX9_pop 13 = .ok (.ireturn, 1) := by decide +kernel
theorem dX9_pop_14 : decode cX9_pop 14 = .ok (.aload_n 0, 1) := by decide +kernel
theorem dX9_pop_15 : decode cX9_pop 15 = .ok (.dup, 1) := by decide +kernel
theorem dX9_pop_16 : decode cX9_pop 16 = .ok (.getfield 179, 3) := by decide +kernel
theorem dX9_pop_19 : decode cX9_pop 19 = .ok (.iconst 1, 1) := by decide +kernel
theorem dX9_pop_20 : decode cX9_pop 20 = .ok (.isub, 1) := by decide +kernel
theorem dX9_pop_21 : decode cX9_pop 21 = .ok (.putfield 179, 3) := by decide +kernel
theorem dX9_pop_24 : decode cX9_pop 24 = .ok (.iconst 0, 1) := by decide +kernel
theorem dX9_pop_25 : decode cX9_pop 25 = .ok (.istore_n 1, 1) := by decide +kernel
theorem dX9_pop_26 : decode cX9_pop 26 = .ok (.iload_n 1, 1) := by decide +kernel
theorem dX9_pop_27 : decode cX9_pop 27 = .ok (.aload_n 0, 1) := by decide +kernel
theorem dX9_pop_28 : decode cX9_pop 28 = .ok (.getfield 155, 3) := by decide +kernel
theorem dX9_pop_31 : decode cX9_pop 31 = .ok (.if_icmp .ge 29, 3) := by decide +kernel
theorem dX9_pop_34 : decode cX9_pop 34 = .ok (.aload_n 0, 1) := by decide +kernel
theorem dX9_pop_35 : decode cX9_pop 35 = .ok (.getfield 32, 3) := by decide +kernel
theorem dX9_pop_38 : decode cX9_pop 38 = .ok (.iload_n 1, 1) := by decide +kernel
theorem dX9_pop_39 : decode cX9_pop 39 = .ok (.aload_n 0, 1) := by decide +kernel
theorem dX9_pop_40 : decode cX9_pop 40 = .ok (.getfield 35, 3) := by decide +kernel
theorem dX9_pop_43 : decode cX9_pop 43 = .ok (.bipush 100, 2) := by decide +kernel
theorem dX9_pop_45 : decode cX9_pop 45 = .ok (.aload_n 0, 1) := by decide +kernel
theorem dX9_pop_46 : decode cX9_pop 46 = .ok (.getfield 179, 3) := by decide +kernel
theorem dX9_pop_49 : decode cX9_pop 49 = .ok (.imul, 1) := by decide +kernel
theorem dX9_pop_50 : decode cX9_pop 50 = .ok (.iload_n 1, 1) := by decide +kernel
theorem dX9_pop_51 : decode cX9_pop 51 = .ok (.iadd, 1) := by decide +kernel
theorem dX9_pop_52 : decode cX9_pop 52 = .ok (.baload, 1) := by decide +kernel
theorem dX9_pop_53 : decode cX9_pop 53 = .ok (.bastore, 1) := by decide +kernel
theorem dX9_pop_54 : decode cX9_pop 54 = .ok (.iinc 1 1, 3) := by decide +kernel
theorem dX9_pop_57 : decode cX9_pop 57 = .ok (.goto (-31), 3) := by decide +kernel
theorem dX9_pop_60 : decode cX9_pop 60 = .ok (.aload_n 0, 1) := by decide +kernel
theorem dX9_pop_61 : decode cX9_pop 61 = .ok (.iconst 0, 1) := by decide +kernel
theorem dX9_pop_62 : decode cX9_pop 62 = .ok (.putfield 115, 3) := by decide +kernel
theorem dX9_pop_65 : decode cX9_pop 65 = .ok (.aload_n 0, 1) := by decide +kernel
theorem dX9_pop_66 : decode cX9_pop 66 = .ok (.aload_n 0, 1) := by decide +kernel
theorem dX9_pop_67 : decode cX9_pop 67 = .ok (.invokevirtual 169, 3) := by decide +kernel
theorem dX9_pop_70 : decode cX9_pop 70 = .ok (.invokevirtual 123, 3) := by decide +kernel
theorem dX9_pop_73 : decode cX9_pop 73 = .ok (.ireturn, 1) := by decide +kernel
abbrev rmX9_pop : Room := { frames := 1, cells := 0, slots := 0, locals := 22 }
theorem ywX9_pop : fY yX9_pop "EqualCourtModel" cX9_pop 2 (some .int) 0 := ⟨tw_1188, tw_1189, tw_11, tw_1190, by decide +kernel⟩
set_option maxHeartbeats 4000000 in
set_option maxRecDepth 100000 in
theorem cX9_pop_ok {D : va_G} {ad : Nat → Nat} {cy cz : ClassId} {l : Launch} {z : fS}  {r : Int32} {τ : fS} (h : fX9_pop z = some (r, τ)) : fMi D 31 ad (cfM ad cy cz) cy cz l yX9_pop cX9_pop 2 (some .int) rmX9_pop [.ref (ad 0)] z r τ := by
  refine f_bodyi (by decide) (Nat.le_of_ble_eq_true rfl) (fun p e s m args below meth c Q hC hret ls hl hI => ?_)
  have hx := hC.1
  have hb := hC.2.1
  have hl : lv_has ls 2 [(0, .ref (ad 0))] := hl
  unfold fX9_pop at h
  refine lv_aload_n hx hb dX9_pop_0 rfl (lv_at hl 0 rfl) ?_
  refine gX9_levels hC hI tw_865 dX9_pop_1 ?_
  refine lv_if_ne (tgt := 14) hx hb dX9_pop_4 (by decide) (fun c4 => ?_) (fun c4 => ?_)
  · replace h := if_f h c4
    refine lv_aload_n hx hb dX9_pop_14 rfl (lv_at hl 0 rfl) ?_
    refine lv_dup hx hb dX9_pop_15 rfl ?_
    refine gX9_levels hC hI tw_865 dX9_pop_16 ?_
    refine lv_iconst (v := 1) hx hb dX9_pop_19 (by decide) ?_
    refine lv_isub hx hb dX9_pop_20 ?_
    refine pX9_levels hC hI tw_865 dX9_pop_21 (fun z21 H locs e21 hI => ?_)
    replace h := bnd_at h e21
    refine lv_iconst (v := 0) hx hb dX9_pop_24 (by decide) ?_
    refine lv_istore_n (lv' := [(1, .int (0 : Int32)), (0, .ref (ad 0))]) hx hb dX9_pop_25 rfl hl (by decide) rfl (fun ls hl => ?_)
    have w26 : ∀ (N26 : Nat) (v1 : Int32) (z : fS) (H : Heap) (locs : List Loc) (ls : Array Slot), fI D 31 ad (cfM ad cy cz) z s H locs → lv_has ls 2 [(0, .ref (ad 0)), (1, .int v1)] → lX9_pop_26    N26 v1 z = some (r, τ) → W p l e rmX9_pop s m args below meth c H locs 0 0 Q (F0 m 26 ls []) := by
      intro N26
      induction N26 with
      | zero =>
        intro v1 z H locs ls hI hl h
        exact none_no h
      | succ N26 ih26 =>
        intro v1 z H locs ls hI hl h
        rw [lX9_pop_26.eq_2] at h
        refine lv_iload_n hx hb dX9_pop_26 rfl (lv_at hl 1 rfl) ?_
        refine lv_aload_n hx hb dX9_pop_27 rfl (lv_at hl 0 rfl) ?_
        refine gX9_sayings hC hI tw_863 dX9_pop_28 ?_
        refine lv_icmp_ge (tgt := 60) hx hb dX9_pop_31 (by decide) (fun c31 => ?_) (fun c31 => ?_)
        · replace h := if_t h c31
          refine lv_aload_n hx hb dX9_pop_60 rfl (lv_at hl 0 rfl) ?_
          refine lv_iconst (v := 0) hx hb dX9_pop_61 (by decide) ?_
          refine pX9_isFresh hC hI tw_884 (by decide) dX9_pop_62 (fun z62 H locs e62 hI => ?_)
          replace h := bnd_at h e62
          refine lv_aload_n hx hb dX9_pop_65 rfl (lv_at hl 0 rfl) ?_
          refine lv_aload_n hx hb dX9_pop_66 rfl (lv_at hl 0 rfl) ?_
          replace h := bp_at h
          obtain ⟨r67, e67, h⟩ := h
          refine r_calli (rest := [.ref (ad 0)]) hC hI oM_0 (C := "EqualCourtModel") rfl ywX9_taken tw_1041 (cX9_taken_ok  e67) ⟨Nat.le_of_ble_eq_true rfl, Nat.le_of_ble_eq_true rfl⟩ ⟨rfl, rfl⟩ rfl hl.1 rfl (Nat.le_of_ble_eq_true rfl) dX9_pop_67 (fun H locs hI => ?_)
          replace h := bd_at h
          obtain ⟨r70, z70, e70, h⟩ := h
          refine r_calli (rest := []) hC hI oM_0 (C := "EqualCourtModel") rfl ywX9_done tw_1001 (cX9_done_ok  e70) ⟨Nat.le_of_ble_eq_true rfl, Nat.le_of_ble_eq_true rfl⟩ ⟨rfl, rfl⟩ rfl hl.1 rfl (Nat.le_of_ble_eq_true rfl) dX9_pop_70 (fun H locs hI => ?_)
          exact hret h dX9_pop_73 hI
        · replace h := if_f h c31
          refine lv_aload_n hx hb dX9_pop_34 rfl (lv_at hl 0 rfl) ?_
          refine gX9_isTaken hC hI tw_862 dX9_pop_35 ?_
          refine lv_iload_n hx hb dX9_pop_38 rfl (lv_at hl 1 rfl) ?_
          refine lv_aload_n hx hb dX9_pop_39 rfl (lv_at hl 0 rfl) ?_
          refine gX9_remembered hC hI tw_864 dX9_pop_40 ?_
          refine lv_bipush (v := 100) hx hb dX9_pop_43 (by decide) ?_
          refine lv_aload_n hx hb dX9_pop_45 rfl (lv_at hl 0 rfl) ?_
          refine gX9_levels hC hI tw_865 dX9_pop_46 ?_
          refine lv_imul hx hb dX9_pop_49 ?_
          refine lv_iload_n hx hb dX9_pop_50 rfl (lv_at hl 1 rfl) ?_
          refine lv_iadd hx hb dX9_pop_51 ?_
          have g52 := (gd_at h).1
          replace h := (gd_at h).2
          refine r_zald hC hI aM_9 g52 dX9_pop_52 ?_
          have g53 := (gd_at h).1
          replace h := (gd_at h).2
          refine r_zast hC hI aM_8 g53 dX9_pop_53 (fun z53 H locs e53 hI => ?_)
          replace h := bnd_at h e53
          obtain ⟨x54, e54⟩ : ∃ y : Int32, y = (v1 + (1 : Int32)) := ⟨_, rfl⟩
          replace h := bnd_at h e54
          refine lv_iinc (v := x54) (lv' := [(1, .int x54), (0, .ref (ad 0))]) hx hb dX9_pop_54 hl (k := 1) rfl (by rw [e54]; rfl) (by decide) rfl (fun ls hl => ?_)
          refine lv_goto (tgt := 26) hx hb dX9_pop_57 (by decide) ?_
          exact ih26  x54 z53 _ _ _ hI (lv_sub hl [1, 0] rfl) h
    exact w26 FU  (0 : Int32) z21 _ _ _ hI (lv_sub hl [1, 0] rfl) h
  · replace h := if_t h c4
    refine lv_aload_n hx hb dX9_pop_7 rfl (lv_at hl 0 rfl) ?_
    refine lv_bipush (v := 9) hx hb dX9_pop_8 (by decide) ?_
    replace h := bd_at h
    obtain ⟨r10, z10, e10, h⟩ := h
    refine r_calli (rest := []) hC hI oM_0 (C := "EqualCourtModel") rfl ywX9_refuse tw_985 (cX9_refuse_ok  e10) ⟨Nat.le_of_ble_eq_true rfl, Nat.le_of_ble_eq_true rfl⟩ ⟨rfl, rfl⟩ rfl hl.1 rfl (Nat.le_of_ble_eq_true rfl) dX9_pop_10 (fun H locs hI => ?_)
    exact hret h dX9_pop_13 hI
theorem dX9_law_0 : decode cX9_law 0 = .ok (.aload_n 0, 1) := by decide +kernel
theorem dX9_law_1 : decode cX9_law 1 = .ok (.iload_n 1, 1) := by decide +kernel
theorem dX9_law_2 : decode cX9_law 2 = .ok (.invokevirtual 132, 3) := by decide +kernel
theorem dX9_law_5 : decode cX9_law 5 = .ok (.ifCond .eq 11, 3) := by decide +kernel
theorem dX9_law_8 : decode cX9_law 8 = .ok (.aload_n 0, 1) := by decide +kernel
theorem dX9_law_9 : decode cX9_law 9 = .ok (.iload_n 2, 1) := by decide +kernel
theorem dX9_law_10 : decode cX9_law 10 = .ok (.invokevirtual 132, 3) := by decide +kernel
theorem dX9_law_13 : decode cX9_law 13 = .ok (.ifCond .ne 9, 3) := by decide +kernel
theorem dX9_law_16 : decode cX9_law 16 = .ok (.aload_n 0, 1) := by decide +kernel
theorem dX9_law_17 : decode cX9_law 17 = .ok (.iconst 1, 1) := by decide +kernel
theorem dX9_law_18 : decode cX9_law 18 = .ok (.invokevirtual 119, 3) := by decide +kernel
theorem dX9_law_21 : decode cX9_law 21 = .ok (.ireturn, 1) := by decide +kernel
theorem dX9_law_22 : decode cX9_law 22 = .ok (.aload_n 0, 1) := by decide +kernel
theorem dX9_law_23 : decode cX9_law 23 = .ok (.getfield 173, 3) := by decide +kernel
theorem dX9_law_26 : decode cX9_law 26 = .ok (.bipush 10, 2) := by decide +kernel
theorem dX9_law_28 : decode cX9_law 28 = .ok (.if_icmp .ne 9, 3) := by decide +kernel
theorem dX9_law_31 : decode cX9_law 31 = .ok (.aload_n 0, 1) := by decide +kernel
theorem dX9_law_32 : decode cX9_law 32 = .ok (.iconst 3, 1) := by decide +kernel
theorem dX9_law_33 : decode cX9_law 33 = .ok (.invokevirtual 119, 3) := by decide +kernel
theorem dX9_law_36 : decode cX9_law 36 = .ok (.ireturn, 1) := by decide +kernel
theorem dX9_law_37 : decode cX9_law 37 = .ok (.aload_n 0, 1) := by decide +kernel
theorem dX9_law_38 : decode cX9_law 38 = .ok (.getfield 38, 3) := by decide +kernel
theorem dX9_law_41 : decode cX9_law 41 = .ok (.aload_n 0, 1) := by decide +kernel
theorem dX9_law_42 : decode cX9_law 42 = .ok (.getfield 173, 3) := by decide +kernel
theorem dX9_law_45 : decode cX9_law 45 = .ok (.iload_n 1, 1) := by decide +kernel
theorem dX9_law_46 : decode cX9_law 46 = .ok (.iastore, 1) := by decide +kernel
theorem dX9_law_47 : decode cX9_law 47 = .ok (.aload_n 0, 1) := by decide +kernel
theorem dX9_law_48 : decode cX9_law 48 = .ok (.getfield 41, 3) := by decide +kernel
theorem dX9_law_51 : decode cX9_law 51 = .ok (.aload_n 0, 1) := by decide +kernel
theorem dX9_law_52 : decode cX9_law 52 = .ok (.getfield 173, 3) := by decide +kernel
theorem dX9_law_55 : decode cX9_law 55 = .ok (.iload_n 2, 1) := by decide +kernel
theorem dX9_law_56 : decode cX9_law 56 = .ok (.iastore, 1) := by decide +kernel
theorem dX9_law_57 : decode cX9_law 57 = .ok (.aload_n 0, 1) := by decide +kernel
theorem dX9_law_58 : decode cX9_law 58 = .ok (.dup, 1) := by decide +kernel
theorem dX9_law_59 : decode cX9_law 59 = .ok (.getfield 173, 3) := by decide +kernel
theorem dX9_law_62 : decode cX9_law 62 = .ok (.iconst 1, 1) := by decide +kernel
theorem dX9_law_63 : decode cX9_law 63 = .ok (.iadd, 1) := by decide +kernel
theorem dX9_law_64 : decode cX9_law 64 = .ok (.putfield 173, 3) := by decide +kernel
theorem dX9_law_67 : decode cX9_law 67 = .ok (.aload_n 0, 1) := by decide +kernel
theorem dX9_law_68 : decode cX9_law 68 = .ok (.aload_n 0, 1) := by decide +kernel
theorem dX9_law_69 : decode cX9_law 69 = .ok (.getfield 173, 3) := by decide +kernel
theorem dX9_law_72 : decode cX9_law 72 = .ok (.iconst 1, 1) := by decide +kernel
theorem dX9_law_73 : decode cX9_law 73 = .ok (.isub, 1) := by decide +kernel
theorem dX9_law_74 : decode cX9_law 74 = .ok (.invokevirtual 123, 3) := by decide +kernel
theorem dX9_law_77 : decode cX9_law 77 = .ok (.ireturn, 1) := by decide +kernel
abbrev rmX9_law : Room := { frames := 1, cells := 0, slots := 0, locals := 21 }
theorem ywX9_law : fY yX9_law "EqualCourtModel" cX9_law 3 (some .int) 2 := ⟨tw_1192, tw_1193, tw_11, tw_1194, by decide +kernel⟩
set_option maxHeartbeats 4000000 in
set_option maxRecDepth 100000 in
theorem cX9_law_ok {D : va_G} {ad : Nat → Nat} {cy cz : ClassId} {l : Launch} {z : fS} {v1 : Int32} {v2 : Int32} {r : Int32} {τ : fS} (h : fX9_law z v1 v2 = some (r, τ)) : fMi D 31 ad (cfM ad cy cz) cy cz l yX9_law cX9_law 3 (some .int) rmX9_law [.ref (ad 0), .int v1, .int v2] z r τ := by
  refine f_bodyi (by decide) (Nat.le_of_ble_eq_true rfl) (fun p e s m args below meth c Q hC hret ls hl hI => ?_)
  have hx := hC.1
  have hb := hC.2.1
  have hl : lv_has ls 3 [(0, .ref (ad 0)), (1, .int v1), (2, .int v2)] := hl
  unfold fX9_law at h
  refine lv_aload_n hx hb dX9_law_0 rfl (lv_at hl 0 rfl) ?_
  refine lv_iload_n hx hb dX9_law_1 rfl (lv_at hl 1 rfl) ?_
  replace h := bp_at h
  obtain ⟨r2, e2, h⟩ := h
  refine r_calli (rest := []) hC hI oM_0 (C := "EqualCourtModel") rfl ywX9_isTerm tw_1013 (cX9_isTerm_ok  e2) ⟨Nat.le_of_ble_eq_true rfl, Nat.le_of_ble_eq_true rfl⟩ ⟨rfl, rfl⟩ rfl hl.1 rfl (Nat.le_of_ble_eq_true rfl) dX9_law_2 (fun H locs hI => ?_)
  refine lv_if_eq (tgt := 16) hx hb dX9_law_5 (by decide) (fun c5 => ?_) (fun c5 => ?_)
  · replace h := if_t h c5
    refine lv_aload_n hx hb dX9_law_16 rfl (lv_at hl 0 rfl) ?_
    refine lv_iconst (v := 1) hx hb dX9_law_17 (by decide) ?_
    replace h := bd_at h
    obtain ⟨r18, z18, e18, h⟩ := h
    refine r_calli (rest := []) hC hI oM_0 (C := "EqualCourtModel") rfl ywX9_refuse tw_985 (cX9_refuse_ok  e18) ⟨Nat.le_of_ble_eq_true rfl, Nat.le_of_ble_eq_true rfl⟩ ⟨rfl, rfl⟩ rfl hl.1 rfl (Nat.le_of_ble_eq_true rfl) dX9_law_18 (fun H locs hI => ?_)
    exact hret h dX9_law_21 hI
  · replace h := if_f h c5
    refine lv_aload_n hx hb dX9_law_8 rfl (lv_at hl 0 rfl) ?_
    refine lv_iload_n hx hb dX9_law_9 rfl (lv_at hl 2 rfl) ?_
    replace h := bp_at h
    obtain ⟨r10, e10, h⟩ := h
    refine r_calli (rest := []) hC hI oM_0 (C := "EqualCourtModel") rfl ywX9_isTerm tw_1013 (cX9_isTerm_ok  e10) ⟨Nat.le_of_ble_eq_true rfl, Nat.le_of_ble_eq_true rfl⟩ ⟨rfl, rfl⟩ rfl hl.1 rfl (Nat.le_of_ble_eq_true rfl) dX9_law_10 (fun H locs hI => ?_)
    refine lv_if_ne (tgt := 22) hx hb dX9_law_13 (by decide) (fun c13 => ?_) (fun c13 => ?_)
    · replace h := if_f h c13
      refine lv_aload_n hx hb dX9_law_22 rfl (lv_at hl 0 rfl) ?_
      refine gX9_laws hC hI tw_868 dX9_law_23 ?_
      refine lv_bipush (v := 10) hx hb dX9_law_26 (by decide) ?_
      refine lv_icmp_ne (tgt := 37) hx hb dX9_law_28 (by decide) (fun c28 => ?_) (fun c28 => ?_)
      · replace h := if_f h c28
        refine lv_aload_n hx hb dX9_law_37 rfl (lv_at hl 0 rfl) ?_
        refine gX9_lawA hC hI tw_866 dX9_law_38 ?_
        refine lv_aload_n hx hb dX9_law_41 rfl (lv_at hl 0 rfl) ?_
        refine gX9_laws hC hI tw_868 dX9_law_42 ?_
        refine lv_iload_n hx hb dX9_law_45 rfl (lv_at hl 1 rfl) ?_
        have g46 := (gd_at h).1
        replace h := (gd_at h).2
        refine r_iast hC hI aM_10 g46 dX9_law_46 (fun z46 H locs e46 hI => ?_)
        replace h := bnd_at h e46
        refine lv_aload_n hx hb dX9_law_47 rfl (lv_at hl 0 rfl) ?_
        refine gX9_lawB hC hI tw_867 dX9_law_48 ?_
        refine lv_aload_n hx hb dX9_law_51 rfl (lv_at hl 0 rfl) ?_
        refine gX9_laws hC hI tw_868 dX9_law_52 ?_
        refine lv_iload_n hx hb dX9_law_55 rfl (lv_at hl 2 rfl) ?_
        have g56 := (gd_at h).1
        replace h := (gd_at h).2
        refine r_iast hC hI aM_11 g56 dX9_law_56 (fun z56 H locs e56 hI => ?_)
        replace h := bnd_at h e56
        refine lv_aload_n hx hb dX9_law_57 rfl (lv_at hl 0 rfl) ?_
        refine lv_dup hx hb dX9_law_58 rfl ?_
        refine gX9_laws hC hI tw_868 dX9_law_59 ?_
        refine lv_iconst (v := 1) hx hb dX9_law_62 (by decide) ?_
        refine lv_iadd hx hb dX9_law_63 ?_
        refine pX9_laws hC hI tw_868 dX9_law_64 (fun z64 H locs e64 hI => ?_)
        replace h := bnd_at h e64
        refine lv_aload_n hx hb dX9_law_67 rfl (lv_at hl 0 rfl) ?_
        refine lv_aload_n hx hb dX9_law_68 rfl (lv_at hl 0 rfl) ?_
        refine gX9_laws hC hI tw_868 dX9_law_69 ?_
        refine lv_iconst (v := 1) hx hb dX9_law_72 (by decide) ?_
        refine lv_isub hx hb dX9_law_73 ?_
        replace h := bd_at h
        obtain ⟨r74, z74, e74, h⟩ := h
        refine r_calli (rest := []) hC hI oM_0 (C := "EqualCourtModel") rfl ywX9_done tw_1001 (cX9_done_ok  e74) ⟨Nat.le_of_ble_eq_true rfl, Nat.le_of_ble_eq_true rfl⟩ ⟨rfl, rfl⟩ rfl hl.1 rfl (Nat.le_of_ble_eq_true rfl) dX9_law_74 (fun H locs hI => ?_)
        exact hret h dX9_law_77 hI
      · replace h := if_t h c28
        refine lv_aload_n hx hb dX9_law_31 rfl (lv_at hl 0 rfl) ?_
        refine lv_iconst (v := 3) hx hb dX9_law_32 (by decide) ?_
        replace h := bd_at h
        obtain ⟨r33, z33, e33, h⟩ := h
        refine r_calli (rest := []) hC hI oM_0 (C := "EqualCourtModel") rfl ywX9_refuse tw_985 (cX9_refuse_ok  e33) ⟨Nat.le_of_ble_eq_true rfl, Nat.le_of_ble_eq_true rfl⟩ ⟨rfl, rfl⟩ rfl hl.1 rfl (Nat.le_of_ble_eq_true rfl) dX9_law_33 (fun H locs hI => ?_)
        exact hret h dX9_law_36 hI
    · replace h := if_t h c13
      refine lv_aload_n hx hb dX9_law_16 rfl (lv_at hl 0 rfl) ?_
      refine lv_iconst (v := 1) hx hb dX9_law_17 (by decide) ?_
      replace h := bd_at h
      obtain ⟨r18, z18, e18, h⟩ := h
      refine r_calli (rest := []) hC hI oM_0 (C := "EqualCourtModel") rfl ywX9_refuse tw_985 (cX9_refuse_ok  e18) ⟨Nat.le_of_ble_eq_true rfl, Nat.le_of_ble_eq_true rfl⟩ ⟨rfl, rfl⟩ rfl hl.1 rfl (Nat.le_of_ble_eq_true rfl) dX9_law_18 (fun H locs hI => ?_)
      exact hret h dX9_law_21 hI
theorem dX9_isHole_0 : decode cX9_isHole 0 = .ok (.aload_n 0, 1) := by decide +kernel
theorem dX9_isHole_1 : decode cX9_isHole 1 = .ok (.getfield 7, 3) := by decide +kernel
theorem dX9_isHole_4 : decode cX9_isHole 4 = .ok (.iload_n 1, 1) := by decide +kernel
theorem dX9_isHole_5 : decode cX9_isHole 5 = .ok (.iaload, 1) := by decide +kernel
theorem dX9_isHole_6 : decode cX9_isHole 6 = .ok (.ifCond .ne 29, 3) := by decide +kernel
theorem dX9_isHole_9 : decode cX9_isHole 9 = .ok (.aload_n 0, 1) := by decide +kernel
theorem dX9_isHole_10 : decode cX9_isHole 10 = .ok (.getfield 13, 3) := by decide +kernel
theorem dX9_isHole_13 : decode cX9_isHole 13 = .ok (.iload_n 1, 1) := by decide +kernel
theorem dX9_isHole_14 : decode cX9_isHole 14 = .ok (.iaload, 1) := by decide +kernel
theorem dX9_isHole_15 : decode cX9_isHole 15 = .ok (.bipush 90, 2) := by decide +kernel
theorem dX9_isHole_17 : decode cX9_isHole 17 = .ok (.if_icmp .lt 18, 3) := by decide +kernel
theorem dX9_isHole_20 : decode cX9_isHole 20 = .ok (.aload_n 0, 1) := by decide +kernel
theorem dX9_isHole_21 : decode cX9_isHole 21 = .ok (.getfield 13, 3) := by decide +kernel
theorem dX9_isHole_24 : decode cX9_isHole 24 = .ok (.iload_n 1, 1) := by decide +kernel
theorem dX9_isHole_25 : decode cX9_isHole 25 = .ok (.iaload, 1) := by decide +kernel
theorem dX9_isHole_26 : decode cX9_isHole 26 = .ok (.bipush 93, 2) := by decide +kernel
theorem dX9_isHole_28 : decode cX9_isHole 28 = .ok (.if_icmp .ge 7, 3) := by decide +kernel
theorem dX9_isHole_31 : decode cX9_isHole 31 = .ok (.iconst 1, 1) := by decide +kernel
theorem dX9_isHole_32 : decode cX9_isHole 32 = .ok (.goto 4, 3) := by decide +kernel
theorem dX9_isHole_35 : decode cX9_isHole 35 = .ok (.iconst 0, 1) := by decide +kernel
theorem dX9_isHole_36 : decode cX9_isHole 36 = .ok (.ireturn, 1) := by decide +kernel
abbrev rmX9_isHole : Room := { frames := 0, cells := 0, slots := 0, locals := 0 }
theorem ywX9_isHole : fY yX9_isHole "EqualCourtModel" cX9_isHole 2 (some .boolean) 1 := ⟨tw_1209, tp_57, tw_11, tw_1210, by decide +kernel⟩
set_option maxHeartbeats 4000000 in
set_option maxRecDepth 100000 in
theorem cX9_isHole_ok {D : va_G} {ad : Nat → Nat} {cy cz : ClassId} {l : Launch} {z : fS} {v1 : Int32} {r : Int32} (h : fX9_isHole z v1 = some r) : fMi D 31 ad (cfM ad cy cz) cy cz l yX9_isHole cX9_isHole 2 (some .boolean) rmX9_isHole [.ref (ad 0), .int v1] z r z := by
  refine f_bodyz (by decide) (Nat.le_of_ble_eq_true rfl) (fun p e s m args below meth c Q hC hret ls hl hI => ?_)
  have hx := hC.1
  have hb := hC.2.1
  have hl : lv_has ls 2 [(0, .ref (ad 0)), (1, .int v1)] := hl
  unfold fX9_isHole at h
  refine lv_aload_n hx hb dX9_isHole_0 rfl (lv_at hl 0 rfl) ?_
  refine gX9_kindOf hC hI tw_854 dX9_isHole_1 ?_
  refine lv_iload_n hx hb dX9_isHole_4 rfl (lv_at hl 1 rfl) ?_
  have g5 := (gd_at h).1
  replace h := (gd_at h).2
  refine r_iald hC hI aM_1 g5 dX9_isHole_5 ?_
  refine lv_if_ne (tgt := 35) hx hb dX9_isHole_6 (by decide) (fun c6 => ?_) (fun c6 => ?_)
  · replace h := if_f h c6
    refine lv_iconst (v := 0) hx hb dX9_isHole_35 (by decide) ?_
    exact hret (ret_p _ h) (by decide) dX9_isHole_36 hI
  · replace h := if_t h c6
    refine lv_aload_n hx hb dX9_isHole_9 rfl (lv_at hl 0 rfl) ?_
    refine gX9_shown hC hI tw_855 dX9_isHole_10 ?_
    refine lv_iload_n hx hb dX9_isHole_13 rfl (lv_at hl 1 rfl) ?_
    have g14 := (gd_at h).1
    replace h := (gd_at h).2
    refine r_iald hC hI aM_2 g14 dX9_isHole_14 ?_
    refine lv_bipush (v := 90) hx hb dX9_isHole_15 (by decide) ?_
    refine lv_icmp_lt (tgt := 35) hx hb dX9_isHole_17 (by decide) (fun c17 => ?_) (fun c17 => ?_)
    · replace h := if_t h c17
      refine lv_iconst (v := 0) hx hb dX9_isHole_35 (by decide) ?_
      exact hret (ret_p _ h) (by decide) dX9_isHole_36 hI
    · replace h := if_f h c17
      refine lv_aload_n hx hb dX9_isHole_20 rfl (lv_at hl 0 rfl) ?_
      refine gX9_shown hC hI tw_855 dX9_isHole_21 ?_
      refine lv_iload_n hx hb dX9_isHole_24 rfl (lv_at hl 1 rfl) ?_
      have g25 := (gd_at h).1
      replace h := (gd_at h).2
      refine r_iald hC hI aM_2 g25 dX9_isHole_25 ?_
      refine lv_bipush (v := 93) hx hb dX9_isHole_26 (by decide) ?_
      refine lv_icmp_ge (tgt := 35) hx hb dX9_isHole_28 (by decide) (fun c28 => ?_) (fun c28 => ?_)
      · replace h := if_t h c28
        refine lv_iconst (v := 0) hx hb dX9_isHole_35 (by decide) ?_
        exact hret (ret_p _ h) (by decide) dX9_isHole_36 hI
      · replace h := if_f h c28
        refine lv_iconst (v := 1) hx hb dX9_isHole_31 (by decide) ?_
        refine lv_goto (tgt := 36) hx hb dX9_isHole_32 (by decide) ?_
        exact hret (ret_p _ h) (by decide) dX9_isHole_36 hI
theorem dX9_rebuilt_0 : decode cX9_rebuilt 0 = .ok (.aload_n 0, 1) := by decide +kernel
theorem dX9_rebuilt_1 : decode cX9_rebuilt 1 = .ok (.iload_n 1, 1) := by decide +kernel
theorem dX9_rebuilt_2 : decode cX9_rebuilt 2 = .ok (.invokevirtual 235, 3) := by decide +kernel
theorem dX9_rebuilt_5 : decode cX9_rebuilt 5 = .ok (.ifCond .eq 18, 3) := by decide +kernel
theorem dX9_rebuilt_8 : decode cX9_rebuilt 8 = .ok (.aload_n 0, 1) := by decide +kernel
theorem dX9_rebuilt_9 : decode cX9_rebuilt 9 = .ok (.getfield 84, 3) := by decide +kernel
theorem dX9_rebuilt_12 : decode cX9_rebuilt 12 = .ok (.aload_n 0, 1) := by decide +kernel
theorem dX9_rebuilt_13 : decode cX9_rebuilt 13 = .ok (.getfield 13, 3) := by decide +kernel
theorem dX9_rebuilt_16 : decode cX9_rebuilt 16 = .ok (.iload_n 1, 1) := by decide +kernel
theorem dX9_rebuilt_17 : decode cX9_rebuilt 17 = .ok (.iaload, 1) := by decide +kernel
theorem dX9_rebuilt_18 : decode cX9_rebuilt 18 = .ok (.bipush 90, 2) := by decide +kernel
theorem dX9_rebuilt_20 : decode cX9_rebuilt 20 = .ok (.isub, 1) := by decide +kernel
theorem dX9_rebuilt_21 : decode cX9_rebuilt 21 = .ok (.iaload, 1) := by decide +kernel
theorem dX9_rebuilt_22 : decode cX9_rebuilt 22 = .ok (.ireturn, 1) := by decide +kernel
theorem dX9_rebuilt_23 : decode cX9_rebuilt 23 = .ok (.iconst 0, 1) := by decide +kernel
theorem dX9_rebuilt_24 : decode cX9_rebuilt 24 = .ok (.istore_n 2, 1) := by decide +kernel
theorem dX9_rebuilt_25 : decode cX9_rebuilt 25 = .ok (.iconst 0, 1) := by decide +kernel
theorem dX9_rebuilt_26 : decode cX9_rebuilt 26 = .ok (.istore_n 3, 1) := by decide +kernel
theorem dX9_rebuilt_27 : decode cX9_rebuilt 27 = .ok (.iload_n 3, 1) := by decide +kernel
theorem dX9_rebuilt_28 : decode cX9_rebuilt 28 = .ok (.aload_n 0, 1) := by decide +kernel
theorem dX9_rebuilt_29 : decode cX9_rebuilt 29 = .ok (.getfield 16, 3) := by decide +kernel
theorem dX9_rebuilt_32 : decode cX9_rebuilt 32 = .ok (.iload_n 1, 1) := by decide +kernel
theorem dX9_rebuilt_33 : decode cX9_rebuilt 33 = .ok (.iaload, 1) := by decide +kernel
theorem dX9_rebuilt_34 : decode cX9_rebuilt 34 = .ok (.if_icmp .ge 47, 3) := by decide +kernel
theorem dX9_rebuilt_37 : decode cX9_rebuilt 37 = .ok (.iload_n 2, 1) := by decide +kernel
theorem dX9_rebuilt_38 : decode cX9_rebuilt 38 = .ok (.ifCond .ne 31, 3) := by decide +kernel
theorem dX9_rebuilt_41 : decode cX9_rebuilt 41 = .ok (.aload_n 0, 1) := by decide +kernel
theorem dX9_rebuilt_42 : decode cX9_rebuilt 42 = .ok (.getfield 87, 3) := by decide +kernel
theorem dX9_rebuilt_45 : decode cX9_rebuilt 45 = .ok (.aload_n 0, 1) := by decide +kernel
theorem dX9_rebuilt_46 : decode cX9_rebuilt 46 = .ok (.getfield 19, 3) := by decide +kernel
theorem dX9_rebuilt_49 : decode cX9_rebuilt 49 = .ok (.iconst 3, 1) := by decide +kernel
theorem dX9_rebuilt_50 : decode cX9_rebuilt 50 = .ok (.iload_n 1, 1) := by decide +kernel
theorem dX9_rebuilt_51 : decode cX9_rebuilt 51 = .ok (.imul, 1) := by decide +kernel
theorem dX9_rebuilt_52 : decode cX9_rebuilt 52 = .ok (.iload_n 3, 1) := by decide +kernel
theorem dX9_rebuilt_53 : decode cX9_rebuilt 53 = .ok (.iadd, 1) := by decide +kernel
theorem dX9_rebuilt_54 : decode cX9_rebuilt 54 = .ok (.iaload, 1) := by decide +kernel
theorem dX9_rebuilt_55 : decode cX9_rebuilt 55 = .ok (.iaload, 1) := by decide +kernel
theorem dX9_rebuilt_56 : decode cX9_rebuilt 56 = .ok (.aload_n 0, 1) := by decide +kernel
theorem dX9_rebuilt_57 : decode cX9_rebuilt 57 = .ok (.getfield 19, 3) := by decide +kernel
theorem dX9_rebuilt_60 : decode cX9_rebuilt 60 = .ok (.iconst 3, 1) := by decide +kernel
theorem dX9_rebuilt_61 : decode cX9_rebuilt 61 = .ok (.iload_n 1, 1) := by decide +kernel
theorem dX9_rebuilt_62 : decode cX9_rebuilt 62 = .ok (.imul, 1) := by decide +kernel
theorem dX9_rebuilt_63 : decode cX9_rebuilt 63 = .ok (.iload_n 3, 1) := by decide +kernel
theorem dX9_rebuilt_64 : decode cX9_rebuilt 64 = .ok (.iadd, 1) := by decide +kernel
theorem dX9_rebuilt_65 : decode cX9_rebuilt 65 = .ok (.iaload, 1) := by decide +kernel
theorem dX9_rebuilt_66 : decode cX9_rebuilt 66 = .ok (.if_icmp .eq 7, 3) := by decide +kernel
theorem dX9_rebuilt_69 : decode cX9_rebuilt 69 = .ok (.iconst 1, 1) := by decide +kernel
theorem dX9_rebuilt_70 : decode cX9_rebuilt 70 = .ok (.goto 4, 3) := by decide +kernel
theorem dX9_rebuilt_73 : decode cX9_rebuilt 73 = .ok (.iconst 0, 1) := by decide +kernel
theorem dX9_rebuilt_74 : decode cX9_rebuilt 74 = .ok (.istore_n 2, 1) := by decide +kernel
theorem dX9_rebuilt_75 : decode cX9_rebuilt 75 = .ok (.iinc 3 1, 3) := by decide +kernel
theorem dX9_rebuilt_78 : decode cX9_rebuilt 78 = .ok (.goto (-51), 3) := by decide +kernel
theorem dX9_rebuilt_81 : decode cX9_rebuilt 81 = .ok (.iload_n 2, 1) := by decide +kernel
theorem dX9_rebuilt_82 : decode cX9_rebuilt 82 = .ok (.ifCond .ne 5, 3) := by decide +kernel
theorem dX9_rebuilt_85 : decode cX9_rebuilt 85 = .ok (.iload_n 1, 1) := by decide +kernel
theorem dX9_rebuilt_86 : decode cX9_rebuilt 86 = .ok (.ireturn, 1) := by decide +kernel
theorem dX9_rebuilt_87 : decode cX9_rebuilt 87 = .ok (.iconst 0, 1) := by decide +kernel
theorem dX9_rebuilt_88 : decode cX9_rebuilt 88 = .ok (.istore_n 3, 1) := by decide +kernel
theorem dX9_rebuilt_89 : decode cX9_rebuilt 89 = .ok (.iload_n 3, 1) := by decide +kernel
theorem dX9_rebuilt_90 : decode cX9_rebuilt 90 = .ok (.aload_n 0, 1) := by decide +kernel
theorem dX9_rebuilt_91 : decode cX9_rebuilt 91 = .ok (.getfield 16, 3) := by decide +kernel
theorem dX9_rebuilt_94 : decode cX9_rebuilt 94 = .ok (.iload_n 1, 1) := by decide +kernel
theorem dX9_rebuilt_95 : decode cX9_rebuilt 95 = .ok (.iaload, 1) := by decide +kernel
theorem dX9_rebuilt_96 : decode cX9_rebuilt 96 = .ok (.if_icmp .ge 30, 3) := by decide +kernel
theorem dX9_rebuilt_99 : decode cX9_rebuilt 99 = .ok (.aload_n 0, 1) := by decide +kernel
theorem dX9_rebuilt_100 : decode cX9_rebuilt 100 = .ok (.getfield 69, 3) := by decide +kernel
theorem dX9_rebuilt_103 : decode cX9_rebuilt 103 = .ok (.iload_n 3, 1) := by decide +kernel
theorem dX9_rebuilt_104 : decode cX9_rebuilt 104 = .ok (.aload_n 0, 1) := by decide +kernel
theorem dX9_rebuilt_105 : decode cX9_rebuilt 105 = .ok (.getfield 87, 3) := by decide +kernel
theorem dX9_rebuilt_108 : decode cX9_rebuilt 108 = .ok (.aload_n 0, 1) := by decide +kernel
theorem dX9_rebuilt_109 : decode cX9_rebuilt 109 = .ok (.getfield 19, 3) := by decide +kernel
theorem dX9_rebuilt_112 : decode cX9_rebuilt 112 = .ok (.iconst 3, 1) := by decide +kernel
theorem dX9_rebuilt_113 : decode cX9_rebuilt 113 = .ok (.iload_n 1, 1) := by decide +kernel
theorem dX9_rebuilt_114 : decode cX9_rebuilt 114 = .ok (.imul, 1) := by decide +kernel
theorem dX9_rebuilt_115 : decode cX9_rebuilt 115 = .ok (.iload_n 3, 1) := by decide +kernel
theorem dX9_rebuilt_116 : decode cX9_rebuilt 116 = .ok (.iadd, 1) := by decide +kernel
theorem dX9_rebuilt_117 : decode cX9_rebuilt 117 = .ok (.iaload, 1) := by decide +kernel
theorem dX9_rebuilt_118 : decode cX9_rebuilt 118 = .ok (.iaload, 1) := by decide +kernel
theorem dX9_rebuilt_119 : decode cX9_rebuilt 119 = .ok (.iastore, 1) := by decide +kernel
theorem dX9_rebuilt_120 : decode cX9_rebuilt 120 = .ok (.iinc 3 1, 3) := by decide +kernel
theorem dX9_rebuilt_123 : decode cX9_rebuilt 123 = .ok (.goto (-34), 3) := by decide +kernel
theorem dX9_rebuilt_126 : decode cX9_rebuilt 126 = .ok (.aload_n 0, 1) := by decide +kernel
theorem dX9_rebuilt_127 : decode cX9_rebuilt 127 = .ok (.aload_n 0, 1) := by decide +kernel
theorem dX9_rebuilt_128 : decode cX9_rebuilt 128 = .ok (.getfield 7, 3) := by decide +kernel
theorem dX9_rebuilt_131 : decode cX9_rebuilt 131 = .ok (.iload_n 1, 1) := by decide +kernel
theorem dX9_rebuilt_132 : decode cX9_rebuilt 132 = .ok (.iaload, 1) := by decide +kernel
theorem dX9_rebuilt_133 : decode cX9_rebuilt 133 = .ok (.aload_n 0, 1) := by decide +kernel
theorem dX9_rebuilt_134 : decode cX9_rebuilt 134 = .ok (.getfield 13, 3) := by decide +kernel
theorem dX9_rebuilt_137 : decode cX9_rebuilt 137 = .ok (.iload_n 1, 1) := by decide +kernel
theorem dX9_rebuilt_138 : decode cX9_rebuilt 138 = .ok (.iaload, 1) := by decide +kernel
theorem dX9_rebuilt_139 : decode cX9_rebuilt 139 = .ok (.aload_n 0, 1) := by decide +kernel
theorem dX9_rebuilt_140 : decode cX9_rebuilt 140 = .ok (.getfield 16, 3) := by decide +kernel
theorem dX9_rebuilt_143 : decode cX9_rebuilt 143 = .ok (.iload_n 1, 1) := by decide +kernel
theorem dX9_rebuilt_144 : decode cX9_rebuilt 144 = .ok (.iaload, 1) := by decide +kernel
theorem dX9_rebuilt_145 : decode cX9_rebuilt 145 = .ok (.invokevirtual 126, 3) := by decide +kernel
theorem dX9_rebuilt_148 : decode cX9_rebuilt 148 = .ok (.ireturn, 1) := by decide +kernel
abbrev rmX9_rebuilt : Room := { frames := 2, cells := 0, slots := 0, locals := 52 }
theorem ywX9_rebuilt : fY yX9_rebuilt "EqualCourtModel" cX9_rebuilt 4 (some .int) 1 := ⟨tw_1205, tp_56, tw_11, tw_1206, by decide +kernel⟩
set_option maxHeartbeats 4000000 in
set_option maxRecDepth 100000 in
theorem cX9_rebuilt_ok {D : va_G} {ad : Nat → Nat} {cy cz : ClassId} {l : Launch} {z : fS} {v1 : Int32} {r : Int32} {τ : fS} (h : fX9_rebuilt z v1 = some (r, τ)) : fMi D 31 ad (cfM ad cy cz) cy cz l yX9_rebuilt cX9_rebuilt 4 (some .int) rmX9_rebuilt [.ref (ad 0), .int v1] z r τ := by
  refine f_bodyi (by decide) (Nat.le_of_ble_eq_true rfl) (fun p e s m args below meth c Q hC hret ls hl hI => ?_)
  have hx := hC.1
  have hb := hC.2.1
  have hl : lv_has ls 4 [(0, .ref (ad 0)), (1, .int v1)] := hl
  unfold fX9_rebuilt at h
  have w126 : ∀ (v1 : Int32) (z : fS) (H : Heap) (locs : List Loc) (ls : Array Slot), fI D 31 ad (cfM ad cy cz) z s H locs → lv_has ls 4 [(0, .ref (ad 0)), (1, .int v1)] → jX9_rebuilt_126   v1 z = some (r, τ) → W p l e rmX9_rebuilt s m args below meth c H locs 0 0 Q (F0 m 126 ls []) := by
    intro v1 z H locs ls hI hl h
    unfold jX9_rebuilt_126 at h
    refine lv_aload_n hx hb dX9_rebuilt_126 rfl (lv_at hl 0 rfl) ?_
    refine lv_aload_n hx hb dX9_rebuilt_127 rfl (lv_at hl 0 rfl) ?_
    refine gX9_kindOf hC hI tw_854 dX9_rebuilt_128 ?_
    refine lv_iload_n hx hb dX9_rebuilt_131 rfl (lv_at hl 1 rfl) ?_
    have g132 := (gd_at h).1
    replace h := (gd_at h).2
    refine r_iald hC hI aM_1 g132 dX9_rebuilt_132 ?_
    refine lv_aload_n hx hb dX9_rebuilt_133 rfl (lv_at hl 0 rfl) ?_
    refine gX9_shown hC hI tw_855 dX9_rebuilt_134 ?_
    refine lv_iload_n hx hb dX9_rebuilt_137 rfl (lv_at hl 1 rfl) ?_
    have g138 := (gd_at h).1
    replace h := (gd_at h).2
    refine r_iald hC hI aM_2 g138 dX9_rebuilt_138 ?_
    refine lv_aload_n hx hb dX9_rebuilt_139 rfl (lv_at hl 0 rfl) ?_
    refine gX9_partMany hC hI tw_856 dX9_rebuilt_140 ?_
    refine lv_iload_n hx hb dX9_rebuilt_143 rfl (lv_at hl 1 rfl) ?_
    have g144 := (gd_at h).1
    replace h := (gd_at h).2
    refine r_iald hC hI aM_3 g144 dX9_rebuilt_144 ?_
    replace h := bd_at h
    obtain ⟨r145, z145, e145, h⟩ := h
    refine r_calli (rest := []) hC hI oM_0 (C := "EqualCourtModel") rfl ywX9_made tw_989 (cX9_made_ok  e145) ⟨Nat.le_of_ble_eq_true rfl, Nat.le_of_ble_eq_true rfl⟩ ⟨rfl, rfl⟩ rfl hl.1 rfl (Nat.le_of_ble_eq_true rfl) dX9_rebuilt_145 (fun H locs hI => ?_)
    exact hret h dX9_rebuilt_148 hI
  have w81 : ∀ (z : fS) (v1 : Int32) (v2 : Int32) (H : Heap) (locs : List Loc) (ls : Array Slot), fI D 31 ad (cfM ad cy cz) z s H locs → lv_has ls 4 [(0, .ref (ad 0)), (1, .int v1), (2, .int v2)] → jX9_rebuilt_81   z v1 v2 = some (r, τ) → W p l e rmX9_rebuilt s m args below meth c H locs 0 0 Q (F0 m 81 ls []) := by
    intro z v1 v2 H locs ls hI hl h
    unfold jX9_rebuilt_81 at h
    refine lv_iload_n hx hb dX9_rebuilt_81 rfl (lv_at hl 2 rfl) ?_
    refine lv_if_ne (tgt := 87) hx hb dX9_rebuilt_82 (by decide) (fun c82 => ?_) (fun c82 => ?_)
    · replace h := if_f h c82
      refine lv_iconst (v := 0) hx hb dX9_rebuilt_87 (by decide) ?_
      refine lv_istore_n (lv' := [(3, .int (0 : Int32)), (0, .ref (ad 0)), (1, .int v1), (2, .int v2)]) hx hb dX9_rebuilt_88 rfl hl (by decide) rfl (fun ls hl => ?_)
      have w89 : ∀ (N89 : Nat) (v1 : Int32) (v3 : Int32) (z : fS) (H : Heap) (locs : List Loc) (ls : Array Slot), fI D 31 ad (cfM ad cy cz) z s H locs → lv_has ls 4 [(0, .ref (ad 0)), (1, .int v1), (3, .int v3)] → lX9_rebuilt_89  (jX9_rebuilt_126   v1) v1 N89 v3 z = some (r, τ) → W p l e rmX9_rebuilt s m args below meth c H locs 0 0 Q (F0 m 89 ls []) := by
        intro N89
        induction N89 with
        | zero =>
          intro v1 v3 z H locs ls hI hl h
          exact none_no h
        | succ N89 ih89 =>
          intro v1 v3 z H locs ls hI hl h
          rw [lX9_rebuilt_89.eq_2] at h
          refine lv_iload_n hx hb dX9_rebuilt_89 rfl (lv_at hl 2 rfl) ?_
          refine lv_aload_n hx hb dX9_rebuilt_90 rfl (lv_at hl 0 rfl) ?_
          refine gX9_partMany hC hI tw_856 dX9_rebuilt_91 ?_
          refine lv_iload_n hx hb dX9_rebuilt_94 rfl (lv_at hl 1 rfl) ?_
          have g95 := (gd_at h).1
          replace h := (gd_at h).2
          refine r_iald hC hI aM_3 g95 dX9_rebuilt_95 ?_
          refine lv_icmp_ge (tgt := 126) hx hb dX9_rebuilt_96 (by decide) (fun c96 => ?_) (fun c96 => ?_)
          · replace h := if_t h c96
            exact w126 v1 z _ _ _ hI (lv_sub hl [0, 1] rfl) h
          · replace h := if_f h c96
            refine lv_aload_n hx hb dX9_rebuilt_99 rfl (lv_at hl 0 rfl) ?_
            refine gX9_asked hC hI tw_881 dX9_rebuilt_100 ?_
            refine lv_iload_n hx hb dX9_rebuilt_103 rfl (lv_at hl 2 rfl) ?_
            refine lv_aload_n hx hb dX9_rebuilt_104 rfl (lv_at hl 0 rfl) ?_
            refine gX9_becomes hC hI tw_888 dX9_rebuilt_105 ?_
            refine lv_aload_n hx hb dX9_rebuilt_108 rfl (lv_at hl 0 rfl) ?_
            refine gX9_partOf hC hI tw_857 dX9_rebuilt_109 ?_
            refine lv_iconst (v := 3) hx hb dX9_rebuilt_112 (by decide) ?_
            refine lv_iload_n hx hb dX9_rebuilt_113 rfl (lv_at hl 1 rfl) ?_
            refine lv_imul hx hb dX9_rebuilt_114 ?_
            refine lv_iload_n hx hb dX9_rebuilt_115 rfl (lv_at hl 2 rfl) ?_
            refine lv_iadd hx hb dX9_rebuilt_116 ?_
            have g117 := (gd_at h).1
            replace h := (gd_at h).2
            refine r_iald hC hI aM_4 g117 dX9_rebuilt_117 ?_
            have g118 := (gd_at h).1
            replace h := (gd_at h).2
            refine r_iald hC hI aM_25 g118 dX9_rebuilt_118 ?_
            have g119 := (gd_at h).1
            replace h := (gd_at h).2
            refine r_iast hC hI aM_19 g119 dX9_rebuilt_119 (fun z119 H locs e119 hI => ?_)
            replace h := bnd_at h e119
            obtain ⟨x120, e120⟩ : ∃ y : Int32, y = (v3 + (1 : Int32)) := ⟨_, rfl⟩
            replace h := bnd_at h e120
            refine lv_iinc (v := x120) (lv' := [(3, .int x120), (0, .ref (ad 0)), (1, .int v1)]) hx hb dX9_rebuilt_120 hl (k := 2) rfl (by rw [e120]; rfl) (by decide) rfl (fun ls hl => ?_)
            refine lv_goto (tgt := 89) hx hb dX9_rebuilt_123 (by decide) ?_
            exact ih89 v1 x120 z119 _ _ _ hI (lv_sub hl [1, 2, 0] rfl) h
      exact w89 FU v1 (0 : Int32) z _ _ _ hI (lv_sub hl [1, 2, 0] rfl) h
    · replace h := if_t h c82
      refine lv_iload_n hx hb dX9_rebuilt_85 rfl (lv_at hl 1 rfl) ?_
      exact hret h dX9_rebuilt_86 hI
  refine lv_aload_n hx hb dX9_rebuilt_0 rfl (lv_at hl 0 rfl) ?_
  refine lv_iload_n hx hb dX9_rebuilt_1 rfl (lv_at hl 1 rfl) ?_
  replace h := bp_at h
  obtain ⟨r2, e2, h⟩ := h
  refine r_calli (rest := []) hC hI oM_0 (C := "EqualCourtModel") rfl ywX9_isHole tw_1207 (cX9_isHole_ok  e2) ⟨Nat.le_of_ble_eq_true rfl, Nat.le_of_ble_eq_true rfl⟩ ⟨rfl, rfl⟩ rfl hl.1 rfl (Nat.le_of_ble_eq_true rfl) dX9_rebuilt_2 (fun H locs hI => ?_)
  refine lv_if_eq (tgt := 23) hx hb dX9_rebuilt_5 (by decide) (fun c5 => ?_) (fun c5 => ?_)
  · replace h := if_t h c5
    refine lv_iconst (v := 0) hx hb dX9_rebuilt_23 (by decide) ?_
    refine lv_istore_n (lv' := [(2, .int (0 : Int32)), (0, .ref (ad 0)), (1, .int v1)]) hx hb dX9_rebuilt_24 rfl hl (by decide) rfl (fun ls hl => ?_)
    refine lv_iconst (v := 0) hx hb dX9_rebuilt_25 (by decide) ?_
    refine lv_istore_n (lv' := [(3, .int (0 : Int32)), (2, .int (0 : Int32)), (0, .ref (ad 0)), (1, .int v1)]) hx hb dX9_rebuilt_26 rfl hl (by decide) rfl (fun ls hl => ?_)
    have w27 : ∀ (N27 : Nat) (z : fS) (v1 : Int32) (v2 : Int32) (v3 : Int32) (H : Heap) (locs : List Loc) (ls : Array Slot), fI D 31 ad (cfM ad cy cz) z s H locs → lv_has ls 4 [(0, .ref (ad 0)), (1, .int v1), (2, .int v2), (3, .int v3)] → lX9_rebuilt_27  (jX9_rebuilt_81   z v1) z v1 N27 v2 v3 = some (r, τ) → W p l e rmX9_rebuilt s m args below meth c H locs 0 0 Q (F0 m 27 ls []) := by
      intro N27
      induction N27 with
      | zero =>
        intro z v1 v2 v3 H locs ls hI hl h
        exact none_no h
      | succ N27 ih27 =>
        intro z v1 v2 v3 H locs ls hI hl h
        rw [lX9_rebuilt_27.eq_2] at h
        refine lv_iload_n hx hb dX9_rebuilt_27 rfl (lv_at hl 3 rfl) ?_
        refine lv_aload_n hx hb dX9_rebuilt_28 rfl (lv_at hl 0 rfl) ?_
        refine gX9_partMany hC hI tw_856 dX9_rebuilt_29 ?_
        refine lv_iload_n hx hb dX9_rebuilt_32 rfl (lv_at hl 1 rfl) ?_
        have g33 := (gd_at h).1
        replace h := (gd_at h).2
        refine r_iald hC hI aM_3 g33 dX9_rebuilt_33 ?_
        refine lv_icmp_ge (tgt := 81) hx hb dX9_rebuilt_34 (by decide) (fun c34 => ?_) (fun c34 => ?_)
        · replace h := if_t h c34
          exact w81 z v1 v2 _ _ _ hI (lv_sub hl [0, 1, 2] rfl) h
        · replace h := if_f h c34
          refine lv_iload_n hx hb dX9_rebuilt_37 rfl (lv_at hl 2 rfl) ?_
          refine lv_if_ne (tgt := 69) hx hb dX9_rebuilt_38 (by decide) (fun c38 => ?_) (fun c38 => ?_)
          · replace h := if_f h c38
            refine lv_iconst (v := 1) hx hb dX9_rebuilt_69 (by decide) ?_
            refine lv_goto (tgt := 74) hx hb dX9_rebuilt_70 (by decide) ?_
            refine lv_istore_n (lv' := [(2, .int (1 : Int32)), (0, .ref (ad 0)), (1, .int v1), (3, .int v3)]) hx hb dX9_rebuilt_74 rfl hl (by decide) rfl (fun ls hl => ?_)
            obtain ⟨x75, e75⟩ : ∃ y : Int32, y = (v3 + (1 : Int32)) := ⟨_, rfl⟩
            replace h := bnd_at h e75
            refine lv_iinc (v := x75) (lv' := [(3, .int x75), (2, .int (1 : Int32)), (0, .ref (ad 0)), (1, .int v1)]) hx hb dX9_rebuilt_75 hl (k := 3) rfl (by rw [e75]; rfl) (by decide) rfl (fun ls hl => ?_)
            refine lv_goto (tgt := 27) hx hb dX9_rebuilt_78 (by decide) ?_
            exact ih27 z v1 (1 : Int32) x75 _ _ _ hI (lv_sub hl [2, 3, 1, 0] rfl) h
          · replace h := if_t h c38
            refine lv_aload_n hx hb dX9_rebuilt_41 rfl (lv_at hl 0 rfl) ?_
            refine gX9_becomes hC hI tw_888 dX9_rebuilt_42 ?_
            refine lv_aload_n hx hb dX9_rebuilt_45 rfl (lv_at hl 0 rfl) ?_
            refine gX9_partOf hC hI tw_857 dX9_rebuilt_46 ?_
            refine lv_iconst (v := 3) hx hb dX9_rebuilt_49 (by decide) ?_
            refine lv_iload_n hx hb dX9_rebuilt_50 rfl (lv_at hl 1 rfl) ?_
            refine lv_imul hx hb dX9_rebuilt_51 ?_
            refine lv_iload_n hx hb dX9_rebuilt_52 rfl (lv_at hl 3 rfl) ?_
            refine lv_iadd hx hb dX9_rebuilt_53 ?_
            have g54 := (gd_at h).1
            replace h := (gd_at h).2
            refine r_iald hC hI aM_4 g54 dX9_rebuilt_54 ?_
            have g55 := (gd_at h).1
            replace h := (gd_at h).2
            refine r_iald hC hI aM_25 g55 dX9_rebuilt_55 ?_
            refine lv_aload_n hx hb dX9_rebuilt_56 rfl (lv_at hl 0 rfl) ?_
            refine gX9_partOf hC hI tw_857 dX9_rebuilt_57 ?_
            refine lv_iconst (v := 3) hx hb dX9_rebuilt_60 (by decide) ?_
            refine lv_iload_n hx hb dX9_rebuilt_61 rfl (lv_at hl 1 rfl) ?_
            refine lv_imul hx hb dX9_rebuilt_62 ?_
            refine lv_iload_n hx hb dX9_rebuilt_63 rfl (lv_at hl 3 rfl) ?_
            refine lv_iadd hx hb dX9_rebuilt_64 ?_
            have g65 := (gd_at h).1
            replace h := (gd_at h).2
            refine r_iald hC hI aM_4 g65 dX9_rebuilt_65 ?_
            refine lv_icmp_eq (tgt := 73) hx hb dX9_rebuilt_66 (by decide) (fun c66 => ?_) (fun c66 => ?_)
            · replace h := if_t h c66
              refine lv_iconst (v := 0) hx hb dX9_rebuilt_73 (by decide) ?_
              refine lv_istore_n (lv' := [(2, .int (0 : Int32)), (0, .ref (ad 0)), (1, .int v1), (3, .int v3)]) hx hb dX9_rebuilt_74 rfl hl (by decide) rfl (fun ls hl => ?_)
              obtain ⟨x75, e75⟩ : ∃ y : Int32, y = (v3 + (1 : Int32)) := ⟨_, rfl⟩
              replace h := bnd_at h e75
              refine lv_iinc (v := x75) (lv' := [(3, .int x75), (2, .int (0 : Int32)), (0, .ref (ad 0)), (1, .int v1)]) hx hb dX9_rebuilt_75 hl (k := 3) rfl (by rw [e75]; rfl) (by decide) rfl (fun ls hl => ?_)
              refine lv_goto (tgt := 27) hx hb dX9_rebuilt_78 (by decide) ?_
              exact ih27 z v1 (0 : Int32) x75 _ _ _ hI (lv_sub hl [2, 3, 1, 0] rfl) h
            · replace h := if_f h c66
              refine lv_iconst (v := 1) hx hb dX9_rebuilt_69 (by decide) ?_
              refine lv_goto (tgt := 74) hx hb dX9_rebuilt_70 (by decide) ?_
              refine lv_istore_n (lv' := [(2, .int (1 : Int32)), (0, .ref (ad 0)), (1, .int v1), (3, .int v3)]) hx hb dX9_rebuilt_74 rfl hl (by decide) rfl (fun ls hl => ?_)
              obtain ⟨x75, e75⟩ : ∃ y : Int32, y = (v3 + (1 : Int32)) := ⟨_, rfl⟩
              replace h := bnd_at h e75
              refine lv_iinc (v := x75) (lv' := [(3, .int x75), (2, .int (1 : Int32)), (0, .ref (ad 0)), (1, .int v1)]) hx hb dX9_rebuilt_75 hl (k := 3) rfl (by rw [e75]; rfl) (by decide) rfl (fun ls hl => ?_)
              refine lv_goto (tgt := 27) hx hb dX9_rebuilt_78 (by decide) ?_
              exact ih27 z v1 (1 : Int32) x75 _ _ _ hI (lv_sub hl [2, 3, 1, 0] rfl) h
    exact w27 FU z v1 (0 : Int32) (0 : Int32) _ _ _ hI (lv_sub hl [2, 3, 1, 0] rfl) h
  · replace h := if_f h c5
    refine lv_aload_n hx hb dX9_rebuilt_8 rfl (lv_at hl 0 rfl) ?_
    refine gX9_hole hC hI tw_887 dX9_rebuilt_9 ?_
    refine lv_aload_n hx hb dX9_rebuilt_12 rfl (lv_at hl 0 rfl) ?_
    refine gX9_shown hC hI tw_855 dX9_rebuilt_13 ?_
    refine lv_iload_n hx hb dX9_rebuilt_16 rfl (lv_at hl 1 rfl) ?_
    have g17 := (gd_at h).1
    replace h := (gd_at h).2
    refine r_iald hC hI aM_2 g17 dX9_rebuilt_17 ?_
    refine lv_bipush (v := 90) hx hb dX9_rebuilt_18 (by decide) ?_
    refine lv_isub hx hb dX9_rebuilt_20 ?_
    have g21 := (gd_at h).1
    replace h := (gd_at h).2
    refine r_iald hC hI aM_24 g21 dX9_rebuilt_21 ?_
    exact hret h dX9_rebuilt_22 hI
theorem dX9_instanceOf_0 : decode cX9_instanceOf 0 = .ok (.aload_n 0, 1) := by decide +kernel
theorem dX9_instanceOf_1 : decode cX9_instanceOf 1 = .ok (.getfield 108, 3) := by decide +kernel
theorem dX9_instanceOf_4 : decode cX9_instanceOf 4 = .ok (.istore_n 2, 1) := by decide +kernel
theorem dX9_instanceOf_5 : decode cX9_instanceOf 5 = .ok (.iconst 0, 1) := by decide +kernel
theorem dX9_instanceOf_6 : decode cX9_instanceOf 6 = .ok (.istore_n 3, 1) := by decide +kernel
theorem dX9_instanceOf_7 : decode cX9_instanceOf 7 = .ok (.iload_n 3, 1) := by decide +kernel
theorem dX9_instanceOf_8 : decode cX9_instanceOf 8 = .ok (.bipush 120, 2) := by decide +kernel
theorem dX9_instanceOf_10 : decode cX9_instanceOf 10 = .ok (.if_icmp .ge 16, 3) := by decide +kernel
theorem dX9_instanceOf_13 : decode cX9_instanceOf 13 = .ok (.aload_n 0, 1) := by decide +kernel
theorem dX9_instanceOf_14 : decode cX9_instanceOf 14 = .ok (.getfield 87, 3) := by decide +kernel
theorem dX9_instanceOf_17 : decode cX9_instanceOf 17 = .ok (.iload_n 3, 1) := by decide +kernel
theorem dX9_instanceOf_18 : decode cX9_instanceOf 18 = .ok (.iconst (-1), 1) := by decide +kernel
theorem dX9_instanceOf_19 : decode cX9_instanceOf 19 = .ok (.iastore, 1) := by decide +kernel
theorem dX9_instanceOf_20 : decode cX9_instanceOf 20 = .ok (.iinc 3 1, 3) := by decide +kernel
theorem dX9_instanceOf_23 : decode cX9_instanceOf 23 = .ok (.goto (-16), 3) := by decide +kernel
theorem dX9_instanceOf_26 : decode cX9_instanceOf 26 = .ok (.aload_n 0, 1) := by decide +kernel
theorem dX9_instanceOf_27 : decode cX9_instanceOf 27 = .ok (.getfield 90, 3) := by decide +kernel
theorem dX9_instanceOf_30 : decode cX9_instanceOf 30 = .ok (.iconst 0, 1) := by decide +kernel
theorem dX9_instanceOf_31 : decode cX9_instanceOf 31 = .ok (.iload_n 1, 1) := by decide +kernel
theorem dX9_instanceOf_32 : decode cX9_instanceOf 32 = .ok (.iastore, 1) := by decide +kernel
theorem dX9_instanceOf_33 : decode cX9_instanceOf 33 = .ok (.aload_n 0, 1) := by decide +kernel
theorem dX9_instanceOf_34 : decode cX9_instanceOf 34 = .ok (.getfield 93, 3) := by decide +kernel
theorem dX9_instanceOf_37 : decode cX9_instanceOf 37 = .ok (.iconst 0, 1) := by decide +kernel
theorem dX9_instanceOf_38 : decode cX9_instanceOf 38 = .ok (.iconst 0, 1) := by decide +kernel
theorem dX9_instanceOf_39 : decode cX9_instanceOf 39 = .ok (.iastore, 1) := by decide +kernel
theorem dX9_instanceOf_40 : decode cX9_instanceOf 40 = .ok (.iconst 1, 1) := by decide +kernel
theorem dX9_instanceOf_41 : decode cX9_instanceOf 41 = .ok (.istore_n 3, 1) := by decide +kernel
theorem dX9_instanceOf_42 : decode cX9_instanceOf 42 = .ok (.iload_n 3, 1) := by decide +kernel
theorem dX9_instanceOf_43 : decode cX9_instanceOf 43 = .ok (.ifCond .le 135, 3) := by decide +kernel
theorem dX9_instanceOf_46 : decode cX9_instanceOf 46 = .ok (.aload_n 0, 1) := by decide +kernel
theorem dX9_instanceOf_47 : decode cX9_instanceOf 47 = .ok (.getfield 90, 3) := by decide +kernel
theorem dX9_instanceOf_50 : decode cX9_instanceOf 50 = .ok (.iload_n 3, 1) := by decide +kernel
theorem dX9_instanceOf_51 : decode cX9_instanceOf 51 = .ok (.iconst 1, 1) := by decide +kernel
theorem dX9_instanceOf_52 : decode cX9_instanceOf 52 = .ok (.isub, 1) := by decide +kernel
theorem dX9_instanceOf_53 : decode cX9_instanceOf 53 = .ok (.iaload, 1) := by decide +kernel
theorem dX9_instanceOf_54 : decode cX9_instanceOf 54 = .ok (.istore 4, 2) := by decide +kernel
theorem dX9_instanceOf_56 : decode cX9_instanceOf 56 = .ok (.aload_n 0, 1) := by decide +kernel
theorem dX9_instanceOf_57 : decode cX9_instanceOf 57 = .ok (.getfield 93, 3) := by decide +kernel
theorem dX9_instanceOf_60 : decode cX9_instanceOf 60 = .ok (.iload_n 3, 1) := by decide +kernel
theorem dX9_instanceOf_61 : decode cX9_instanceOf 61 = .ok (.iconst 1, 1) := by decide +kernel
theorem dX9_instanceOf_62 : decode cX9_instanceOf 62 = .ok (.isub, 1) := by decide +kernel
theorem dX9_instanceOf_63 : decode cX9_instanceOf 63 = .ok (.iaload, 1) := by decide +kernel
theorem dX9_instanceOf_64 : decode cX9_instanceOf 64 = .ok (.istore 5, 2) := by decide +kernel
theorem dX9_instanceOf_66 : decode cX9_instanceOf 66 = .ok (.aload_n 0, 1) := by decide +kernel
theorem dX9_instanceOf_67 : decode cX9_instanceOf 67 = .ok (.getfield 87, 3) := by decide +kernel
theorem dX9_instanceOf_70 : decode cX9_instanceOf 70 = .ok (.iload 4, 2) := by decide +kernel
theorem dX9_instanceOf_72 : decode cX9_instanceOf 72 = .ok (.iaload, 1) := by decide +kernel
theorem dX9_instanceOf_73 : decode cX9_instanceOf 73 = .ok (.ifCond .lt 9, 3) := by decide +kernel
theorem dX9_instanceOf_76 : decode cX9_instanceOf 76 = .ok (.iinc 3 (-1), 3) := by decide +kernel
theorem dX9_instanceOf_79 : decode cX9_instanceOf 79 = .ok (.goto 96, 3) := by decide +kernel
theorem dX9_instanceOf_82 : decode cX9_instanceOf 82 = .ok (.iload 5, 2) := by decide +kernel
theorem dX9_instanceOf_84 : decode cX9_instanceOf 84 = .ok (.aload_n 0, 1) := by decide +kernel
theorem dX9_instanceOf_85 : decode cX9_instanceOf 85 = .ok (.getfield 16, 3) := by decide +kernel
theorem dX9_instanceOf_88 : decode cX9_instanceOf 88 = .ok (.iload 4, 2) := by decide +kernel
theorem dX9_instanceOf_90 : decode cX9_instanceOf 90 = .ok (.iaload, 1) := by decide +kernel
theorem dX9_instanceOf_91 : decode cX9_instanceOf 91 = .ok (.if_icmp .ge 46, 3) := by decide +kernel
theorem dX9_instanceOf_94 : decode cX9_instanceOf 94 = .ok (.aload_n 0, 1) := by decide +kernel
theorem dX9_instanceOf_95 : decode cX9_instanceOf 95 = .ok (.getfield 93, 3) := by decide +kernel
theorem dX9_instanceOf_98 : decode cX9_instanceOf 98 = .ok (.iload_n 3, 1) := by decide +kernel
theorem dX9_instanceOf_99 : decode cX9_instanceOf 99 = .ok (.iconst 1, 1) := by decide +kernel
theorem dX9_instanceOf_100 : decode cX9_instanceOf 100 = .ok (.isub, 1) := by decide +kernel
theorem dX9_instanceOf_101 : decode cX9_instanceOf 101 = .ok (.dup2, 1) := by decide +kernel
theorem dX9_instanceOf_102 : decode cX9_instanceOf 102 = .ok (.iaload, 1) := by decide +kernel
theorem dX9_instanceOf_103 : decode cX9_instanceOf 103 = .ok (.iconst 1, 1) := by decide +kernel
theorem dX9_instanceOf_104 : decode cX9_instanceOf 104 = .ok (.iadd, 1) := by decide +kernel
theorem dX9_instanceOf_105 : decode cX9_instanceOf 105 = .ok (.iastore, 1) := by decide +kernel
theorem dX9_instanceOf_106 : decode cX9_instanceOf 106 = .ok (.aload_n 0, 1) := by decide +kernel
theorem dX9_instanceOf_107 : decode cX9_instanceOf 107 = .ok (.getfield 90, 3) := by decide +kernel
theorem dX9_instanceOf_110 : decode cX9_instanceOf 110 = .ok (.iload_n 3, 1) := by decide +kernel
theorem dX9_instanceOf_111 : decode cX9_instanceOf 111 = .ok (.aload_n 0, 1) := by decide +kernel
theorem dX9_instanceOf_112 : decode cX9_instanceOf 112 = .ok (.getfield 19, 3) := by decide +kernel
theorem dX9_instanceOf_115 : decode cX9_instanceOf 115 = .ok (.iconst 3, 1) := by decide +kernel
theorem dX9_instanceOf_116 : decode cX9_instanceOf 116 = .ok (.iload 4, 2) := by decide +kernel
theorem dX9_instanceOf_118 : decode cX9_instanceOf 118 = .ok (.imul, 1) := by decide +kernel
theorem dX9_instanceOf_119 : decode cX9_instanceOf 119 = .ok (.iload 5, 2) := by decide +kernel
theorem dX9_instanceOf_121 : decode cX9_instanceOf 121 = .ok (.iadd, 1) := by decide +kernel
theorem dX9_instanceOf_122 : decode cX9_instanceOf 122 = .ok (.iaload, 1) := by decide +kernel
theorem dX9_instanceOf_123 : decode cX9_instanceOf 123 = .ok (.iastore, 1) := by decide +kernel
theorem dX9_instanceOf_124 : decode cX9_instanceOf 124 = .ok (.aload_n 0, 1) := by decide +kernel
theorem dX9_instanceOf_125 : decode cX9_instanceOf 125 = .ok (.getfield 93, 3) := by decide +kernel
theorem dX9_instanceOf_128 : decode cX9_instanceOf 128 = .ok (.iload_n 3, 1) := by decide +kernel
theorem dX9_instanceOf_129 : decode cX9_instanceOf 129 = .ok (.iconst 0, 1) := by decide +kernel
theorem dX9_instanceOf_130 : decode cX9_instanceOf 130 = .ok (.iastore, 1) := by decide +kernel
theorem dX9_instanceOf_131 : decode cX9_instanceOf 131 = .ok (.iinc 3 1, 3) := by decide +kernel
theorem dX9_instanceOf_134 : decode cX9_instanceOf 134 = .ok (.goto 41, 3) := by decide +kernel
theorem dX9_instanceOf_137 : decode cX9_instanceOf 137 = .ok (.aload_n 0, 1) := by decide +kernel
theorem dX9_instanceOf_138 : decode cX9_instanceOf 138 = .ok (.getfield 87, 3) := by decide +kernel
theorem dX9_instanceOf_141 : decode cX9_instanceOf 141 = .ok (.iload 4, 2) := by decide +kernel
theorem dX9_instanceOf_143 : decode cX9_instanceOf 143 = .ok (.aload_n 0, 1) := by decide +kernel
theorem dX9_instanceOf_144 : decode cX9_instanceOf 144 = .ok (.iload 4, 2) := by decide +kernel
theorem dX9_instanceOf_146 : decode cX9_instanceOf 146 = .ok (.invokevirtual 238, 3) := by decide +kernel
theorem dX9_instanceOf_149 : decode cX9_instanceOf 149 = .ok (.iastore, 1) := by decide +kernel
theorem dX9_instanceOf_150 : decode cX9_instanceOf 150 = .ok (.aload_n 0, 1) := by decide +kernel
theorem dX9_instanceOf_151 : decode cX9_instanceOf 151 = .ok (.getfield 87, 3) := by decide +kernel
theorem dX9_instanceOf_154 : decode cX9_instanceOf 154 = .ok (.iload 4, 2) := by decide +kernel
theorem dX9_instanceOf_156 : decode cX9_instanceOf 156 = .ok (.iaload, 1) := by decide +kernel
theorem dX9_instanceOf_157 : decode cX9_instanceOf 157 = .ok (.ifCond .ge 15, 3) := by decide +kernel
theorem dX9_instanceOf_160 : decode cX9_instanceOf 160 = .ok (.aload_n 0, 1) := by decide +kernel
theorem dX9_instanceOf_161 : decode cX9_instanceOf 161 = .ok (.iload_n 2, 1) := by decide +kernel
theorem dX9_instanceOf_162 : decode cX9_instanceOf 162 = .ok (.putfield 108, 3) := by decide +kernel
theorem dX9_instanceOf_165 : decode cX9_instanceOf 165 = .ok (.aload_n 0, 1) := by decide +kernel
theorem dX9_instanceOf_166 : decode cX9_instanceOf 166 = .ok (.iconst 0, 1) := by decide +kernel
theorem dX9_instanceOf_167 : decode cX9_instanceOf 167 = .ok (.putfield 115, 3) := by decide +kernel
theorem dX9_instanceOf_170 : decode cX9_instanceOf 170 = .ok (.iconst (-1), 1) := by decide +kernel
theorem dX9_instanceOf_171 : decode cX9_instanceOf 171 = .ok (.ireturn, 1) := by decide +kernel
theorem dX9_instanceOf_172 : decode cX9_instanceOf 172 = .ok (.iinc 3 (-1), 3) := by decide +kernel
theorem dX9_instanceOf_175 : decode cX9_instanceOf 175 = .ok (.goto (-133), 3) := by decide +kernel
theorem dX9_instanceOf_178 : decode cX9_instanceOf 178 = .ok (.aload_n 0, 1) := by decide +kernel
theorem dX9_instanceOf_179 : decode cX9_instanceOf 179 = .ok (.getfield 87, 3) := by decide +kernel
theorem dX9_instanceOf_182 : decode cX9_instanceOf 182 = .ok (.iload_n 1, 1) := by decide +kernel
theorem dX9_instanceOf_183 : decode cX9_instanceOf 183 = .ok (.iaload, 1) := by decide +kernel
theorem dX9_instanceOf_184 : decode cX9_instanceOf 184 = .ok (.ireturn, 1) := by decide +kernel
abbrev rmX9_instanceOf : Room := { frames := 3, cells := 0, slots := 0, locals := 75 }
theorem ywX9_instanceOf : fY yX9_instanceOf "EqualCourtModel" cX9_instanceOf 6 (some .int) 1 := ⟨tw_1201, tp_55, tw_11, tw_1202, by decide +kernel⟩
set_option maxHeartbeats 4000000 in
set_option maxRecDepth 100000 in
theorem cX9_instanceOf_ok {D : va_G} {ad : Nat → Nat} {cy cz : ClassId} {l : Launch} {z : fS} {v1 : Int32} {r : Int32} {τ : fS} (h : fX9_instanceOf z v1 = some (r, τ)) : fMi D 31 ad (cfM ad cy cz) cy cz l yX9_instanceOf cX9_instanceOf 6 (some .int) rmX9_instanceOf [.ref (ad 0), .int v1] z r τ := by
  refine f_bodyi (by decide) (Nat.le_of_ble_eq_true rfl) (fun p e s m args below meth c Q hC hret ls hl hI => ?_)
  have hx := hC.1
  have hb := hC.2.1
  have hl : lv_has ls 6 [(0, .ref (ad 0)), (1, .int v1)] := hl
  unfold fX9_instanceOf at h
  have w26 : ∀ (v1 : Int32) (v2 : Int32) (z : fS) (H : Heap) (locs : List Loc) (ls : Array Slot), fI D 31 ad (cfM ad cy cz) z s H locs → lv_has ls 6 [(0, .ref (ad 0)), (1, .int v1), (2, .int v2)] → jX9_instanceOf_26   v1 v2 z = some (r, τ) → W p l e rmX9_instanceOf s m args below meth c H locs 0 0 Q (F0 m 26 ls []) := by
    intro v1 v2 z H locs ls hI hl h
    unfold jX9_instanceOf_26 at h
    refine lv_aload_n hx hb dX9_instanceOf_26 rfl (lv_at hl 0 rfl) ?_
    refine gX9_pile hC hI tw_889 dX9_instanceOf_27 ?_
    refine lv_iconst (v := 0) hx hb dX9_instanceOf_30 (by decide) ?_
    refine lv_iload_n hx hb dX9_instanceOf_31 rfl (lv_at hl 1 rfl) ?_
    have g32 := (gd_at h).1
    replace h := (gd_at h).2
    refine r_iast hC hI aM_26 g32 dX9_instanceOf_32 (fun z32 H locs e32 hI => ?_)
    replace h := bnd_at h e32
    refine lv_aload_n hx hb dX9_instanceOf_33 rfl (lv_at hl 0 rfl) ?_
    refine gX9_nextPart hC hI tw_890 dX9_instanceOf_34 ?_
    refine lv_iconst (v := 0) hx hb dX9_instanceOf_37 (by decide) ?_
    refine lv_iconst (v := 0) hx hb dX9_instanceOf_38 (by decide) ?_
    have g39 := (gd_at h).1
    replace h := (gd_at h).2
    refine r_iast hC hI aM_27 g39 dX9_instanceOf_39 (fun z39 H locs e39 hI => ?_)
    replace h := bnd_at h e39
    refine lv_iconst (v := 1) hx hb dX9_instanceOf_40 (by decide) ?_
    refine lv_istore_n (lv' := [(3, .int (1 : Int32)), (0, .ref (ad 0)), (1, .int v1), (2, .int v2)]) hx hb dX9_instanceOf_41 rfl hl (by decide) rfl (fun ls hl => ?_)
    have w42 : ∀ (N42 : Nat) (v1 : Int32) (v2 : Int32) (v3 : Int32) (z : fS) (H : Heap) (locs : List Loc) (ls : Array Slot), fI D 31 ad (cfM ad cy cz) z s H locs → lv_has ls 6 [(0, .ref (ad 0)), (1, .int v1), (2, .int v2), (3, .int v3)] → lX9_instanceOf_42   v1 v2 N42 v3 z = some (r, τ) → W p l e rmX9_instanceOf s m args below meth c H locs 0 0 Q (F0 m 42 ls []) := by
      intro N42
      induction N42 with
      | zero =>
        intro v1 v2 v3 z H locs ls hI hl h
        exact none_no h
      | succ N42 ih42 =>
        intro v1 v2 v3 z H locs ls hI hl h
        rw [lX9_instanceOf_42.eq_2] at h
        refine lv_iload_n hx hb dX9_instanceOf_42 rfl (lv_at hl 3 rfl) ?_
        refine lv_if_le (tgt := 178) hx hb dX9_instanceOf_43 (by decide) (fun c43 => ?_) (fun c43 => ?_)
        · replace h := if_t h c43
          refine lv_aload_n hx hb dX9_instanceOf_178 rfl (lv_at hl 0 rfl) ?_
          refine gX9_becomes hC hI tw_888 dX9_instanceOf_179 ?_
          refine lv_iload_n hx hb dX9_instanceOf_182 rfl (lv_at hl 1 rfl) ?_
          have g183 := (gd_at h).1
          replace h := (gd_at h).2
          refine r_iald hC hI aM_25 g183 dX9_instanceOf_183 ?_
          exact hret h dX9_instanceOf_184 hI
        · replace h := if_f h c43
          refine lv_aload_n hx hb dX9_instanceOf_46 rfl (lv_at hl 0 rfl) ?_
          refine gX9_pile hC hI tw_889 dX9_instanceOf_47 ?_
          refine lv_iload_n hx hb dX9_instanceOf_50 rfl (lv_at hl 3 rfl) ?_
          refine lv_iconst (v := 1) hx hb dX9_instanceOf_51 (by decide) ?_
          refine lv_isub hx hb dX9_instanceOf_52 ?_
          have g53 := (gd_at h).1
          replace h := (gd_at h).2
          refine r_iald hC hI aM_26 g53 dX9_instanceOf_53 ?_
          refine lv_topi (fun x54 e54 => ?_)
          replace h := bnd_at h e54
          refine lv_istore (lv' := [(4, .int x54), (0, .ref (ad 0)), (1, .int v1), (2, .int v2), (3, .int v3)]) hx hb dX9_instanceOf_54 hl (by decide) rfl (fun ls hl => ?_)
          refine lv_aload_n hx hb dX9_instanceOf_56 rfl (lv_at hl 1 rfl) ?_
          refine gX9_nextPart hC hI tw_890 dX9_instanceOf_57 ?_
          refine lv_iload_n hx hb dX9_instanceOf_60 rfl (lv_at hl 4 rfl) ?_
          refine lv_iconst (v := 1) hx hb dX9_instanceOf_61 (by decide) ?_
          refine lv_isub hx hb dX9_instanceOf_62 ?_
          have g63 := (gd_at h).1
          replace h := (gd_at h).2
          refine r_iald hC hI aM_27 g63 dX9_instanceOf_63 ?_
          refine lv_topi (fun x64 e64 => ?_)
          replace h := bnd_at h e64
          refine lv_istore (lv' := [(5, .int x64), (4, .int x54), (0, .ref (ad 0)), (1, .int v1), (2, .int v2), (3, .int v3)]) hx hb dX9_instanceOf_64 hl (by decide) rfl (fun ls hl => ?_)
          refine lv_aload_n hx hb dX9_instanceOf_66 rfl (lv_at hl 2 rfl) ?_
          refine gX9_becomes hC hI tw_888 dX9_instanceOf_67 ?_
          refine lv_iload hx hb dX9_instanceOf_70 (lv_at hl 1 rfl) ?_
          have g72 := (gd_at h).1
          replace h := (gd_at h).2
          refine r_iald hC hI aM_25 g72 dX9_instanceOf_72 ?_
          refine lv_if_lt (tgt := 82) hx hb dX9_instanceOf_73 (by decide) (fun c73 => ?_) (fun c73 => ?_)
          · replace h := if_t h c73
            refine lv_iload hx hb dX9_instanceOf_82 (lv_at hl 0 rfl) ?_
            refine lv_aload_n hx hb dX9_instanceOf_84 rfl (lv_at hl 2 rfl) ?_
            refine gX9_partMany hC hI tw_856 dX9_instanceOf_85 ?_
            refine lv_iload hx hb dX9_instanceOf_88 (lv_at hl 1 rfl) ?_
            have g90 := (gd_at h).1
            replace h := (gd_at h).2
            refine r_iald hC hI aM_3 g90 dX9_instanceOf_90 ?_
            refine lv_icmp_ge (tgt := 137) hx hb dX9_instanceOf_91 (by decide) (fun c91 => ?_) (fun c91 => ?_)
            · replace h := if_t h c91
              refine lv_aload_n hx hb dX9_instanceOf_137 rfl (lv_at hl 2 rfl) ?_
              refine gX9_becomes hC hI tw_888 dX9_instanceOf_138 ?_
              refine lv_iload hx hb dX9_instanceOf_141 (lv_at hl 1 rfl) ?_
              refine lv_aload_n hx hb dX9_instanceOf_143 rfl (lv_at hl 2 rfl) ?_
              refine lv_iload hx hb dX9_instanceOf_144 (lv_at hl 1 rfl) ?_
              replace h := bd_at h
              obtain ⟨r146, z146, e146, h⟩ := h
              refine r_calli (rest := [.int x54, .ref (ad 25)]) hC hI oM_0 (C := "EqualCourtModel") rfl ywX9_rebuilt tw_1203 (cX9_rebuilt_ok  e146) ⟨Nat.le_of_ble_eq_true rfl, Nat.le_of_ble_eq_true rfl⟩ ⟨rfl, rfl⟩ rfl hl.1 rfl (Nat.le_of_ble_eq_true rfl) dX9_instanceOf_146 (fun H locs hI => ?_)
              have g149 := (gd_at h).1
              replace h := (gd_at h).2
              refine r_iast hC hI aM_25 g149 dX9_instanceOf_149 (fun z149 H locs e149 hI => ?_)
              replace h := bnd_at h e149
              refine lv_aload_n hx hb dX9_instanceOf_150 rfl (lv_at hl 2 rfl) ?_
              refine gX9_becomes hC hI tw_888 dX9_instanceOf_151 ?_
              refine lv_iload hx hb dX9_instanceOf_154 (lv_at hl 1 rfl) ?_
              have g156 := (gd_at h).1
              replace h := (gd_at h).2
              refine r_iald hC hI aM_25 g156 dX9_instanceOf_156 ?_
              refine lv_if_ge (tgt := 172) hx hb dX9_instanceOf_157 (by decide) (fun c157 => ?_) (fun c157 => ?_)
              · replace h := if_t h c157
                obtain ⟨x172, e172⟩ : ∃ y : Int32, y = (v3 + (-1 : Int32)) := ⟨_, rfl⟩
                replace h := bnd_at h e172
                refine lv_iinc (v := x172) (lv' := [(3, .int x172), (5, .int x64), (4, .int x54), (0, .ref (ad 0)), (1, .int v1), (2, .int v2)]) hx hb dX9_instanceOf_172 hl (k := 5) rfl (by rw [e172]; rfl) (by decide) rfl (fun ls hl => ?_)
                refine lv_goto (tgt := 42) hx hb dX9_instanceOf_175 (by decide) ?_
                exact ih42 v1 v2 x172 z149 _ _ _ hI (lv_sub hl [3, 4, 5, 0] rfl) h
              · replace h := if_f h c157
                refine lv_aload_n hx hb dX9_instanceOf_160 rfl (lv_at hl 2 rfl) ?_
                refine lv_iload_n hx hb dX9_instanceOf_161 rfl (lv_at hl 4 rfl) ?_
                refine pX9_terms hC hI tw_858 dX9_instanceOf_162 (fun z162 H locs e162 hI => ?_)
                replace h := bnd_at h e162
                refine lv_aload_n hx hb dX9_instanceOf_165 rfl (lv_at hl 2 rfl) ?_
                refine lv_iconst (v := 0) hx hb dX9_instanceOf_166 (by decide) ?_
                refine pX9_isFresh hC hI tw_884 (by decide) dX9_instanceOf_167 (fun z167 H locs e167 hI => ?_)
                replace h := bnd_at h e167
                refine lv_iconst (v := -1) hx hb dX9_instanceOf_170 (by decide) ?_
                exact hret h dX9_instanceOf_171 hI
            · replace h := if_f h c91
              refine lv_aload_n hx hb dX9_instanceOf_94 rfl (lv_at hl 2 rfl) ?_
              refine gX9_nextPart hC hI tw_890 dX9_instanceOf_95 ?_
              refine lv_iload_n hx hb dX9_instanceOf_98 rfl (lv_at hl 5 rfl) ?_
              refine lv_iconst (v := 1) hx hb dX9_instanceOf_99 (by decide) ?_
              refine lv_isub hx hb dX9_instanceOf_100 ?_
              refine lv_dup2_11 hx hb dX9_instanceOf_101 rfl rfl ?_
              have g102 := (gd_at h).1
              replace h := (gd_at h).2
              refine r_iald hC hI aM_27 g102 dX9_instanceOf_102 ?_
              refine lv_iconst (v := 1) hx hb dX9_instanceOf_103 (by decide) ?_
              refine lv_iadd hx hb dX9_instanceOf_104 ?_
              have g105 := (gd_at h).1
              replace h := (gd_at h).2
              refine r_iast hC hI aM_27 g105 dX9_instanceOf_105 (fun z105 H locs e105 hI => ?_)
              replace h := bnd_at h e105
              refine lv_aload_n hx hb dX9_instanceOf_106 rfl (lv_at hl 2 rfl) ?_
              refine gX9_pile hC hI tw_889 dX9_instanceOf_107 ?_
              refine lv_iload_n hx hb dX9_instanceOf_110 rfl (lv_at hl 5 rfl) ?_
              refine lv_aload_n hx hb dX9_instanceOf_111 rfl (lv_at hl 2 rfl) ?_
              refine gX9_partOf hC hI tw_857 dX9_instanceOf_112 ?_
              refine lv_iconst (v := 3) hx hb dX9_instanceOf_115 (by decide) ?_
              refine lv_iload hx hb dX9_instanceOf_116 (lv_at hl 1 rfl) ?_
              refine lv_imul hx hb dX9_instanceOf_118 ?_
              refine lv_iload hx hb dX9_instanceOf_119 (lv_at hl 0 rfl) ?_
              refine lv_iadd hx hb dX9_instanceOf_121 ?_
              have g122 := (gd_at h).1
              replace h := (gd_at h).2
              refine r_iald hC hI aM_4 g122 dX9_instanceOf_122 ?_
              have g123 := (gd_at h).1
              replace h := (gd_at h).2
              refine r_iast hC hI aM_26 g123 dX9_instanceOf_123 (fun z123 H locs e123 hI => ?_)
              replace h := bnd_at h e123
              refine lv_aload_n hx hb dX9_instanceOf_124 rfl (lv_at hl 2 rfl) ?_
              refine gX9_nextPart hC hI tw_890 dX9_instanceOf_125 ?_
              refine lv_iload_n hx hb dX9_instanceOf_128 rfl (lv_at hl 5 rfl) ?_
              refine lv_iconst (v := 0) hx hb dX9_instanceOf_129 (by decide) ?_
              have g130 := (gd_at h).1
              replace h := (gd_at h).2
              refine r_iast hC hI aM_27 g130 dX9_instanceOf_130 (fun z130 H locs e130 hI => ?_)
              replace h := bnd_at h e130
              obtain ⟨x131, e131⟩ : ∃ y : Int32, y = (v3 + (1 : Int32)) := ⟨_, rfl⟩
              replace h := bnd_at h e131
              refine lv_iinc (v := x131) (lv' := [(3, .int x131), (5, .int x64), (4, .int x54), (0, .ref (ad 0)), (1, .int v1), (2, .int v2)]) hx hb dX9_instanceOf_131 hl (k := 5) rfl (by rw [e131]; rfl) (by decide) rfl (fun ls hl => ?_)
              refine lv_goto (tgt := 175) hx hb dX9_instanceOf_134 (by decide) ?_
              refine lv_goto (tgt := 42) hx hb dX9_instanceOf_175 (by decide) ?_
              exact ih42 v1 v2 x131 z130 _ _ _ hI (lv_sub hl [3, 4, 5, 0] rfl) h
          · replace h := if_f h c73
            obtain ⟨x76, e76⟩ : ∃ y : Int32, y = (v3 + (-1 : Int32)) := ⟨_, rfl⟩
            replace h := bnd_at h e76
            refine lv_iinc (v := x76) (lv' := [(3, .int x76), (5, .int x64), (4, .int x54), (0, .ref (ad 0)), (1, .int v1), (2, .int v2)]) hx hb dX9_instanceOf_76 hl (k := 5) rfl (by rw [e76]; rfl) (by decide) rfl (fun ls hl => ?_)
            refine lv_goto (tgt := 175) hx hb dX9_instanceOf_79 (by decide) ?_
            refine lv_goto (tgt := 42) hx hb dX9_instanceOf_175 (by decide) ?_
            exact ih42 v1 v2 x76 z _ _ _ hI (lv_sub hl [3, 4, 5, 0] rfl) h
    exact w42 FU v1 v2 (1 : Int32) z39 _ _ _ hI (lv_sub hl [1, 2, 3, 0] rfl) h
  refine lv_aload_n hx hb dX9_instanceOf_0 rfl (lv_at hl 0 rfl) ?_
  refine gX9_terms hC hI tw_858 dX9_instanceOf_1 ?_
  refine lv_topi (fun x4 e4 => ?_)
  replace h := bnd_at h e4
  refine lv_istore_n (lv' := [(2, .int x4), (0, .ref (ad 0)), (1, .int v1)]) hx hb dX9_instanceOf_4 rfl hl (by decide) rfl (fun ls hl => ?_)
  refine lv_iconst (v := 0) hx hb dX9_instanceOf_5 (by decide) ?_
  refine lv_istore_n (lv' := [(3, .int (0 : Int32)), (2, .int x4), (0, .ref (ad 0)), (1, .int v1)]) hx hb dX9_instanceOf_6 rfl hl (by decide) rfl (fun ls hl => ?_)
  have w7 : ∀ (N7 : Nat) (v1 : Int32) (v2 : Int32) (v3 : Int32) (z : fS) (H : Heap) (locs : List Loc) (ls : Array Slot), fI D 31 ad (cfM ad cy cz) z s H locs → lv_has ls 6 [(0, .ref (ad 0)), (1, .int v1), (2, .int v2), (3, .int v3)] → lX9_instanceOf_7  (jX9_instanceOf_26   v1 v2) v1 v2 N7 v3 z = some (r, τ) → W p l e rmX9_instanceOf s m args below meth c H locs 0 0 Q (F0 m 7 ls []) := by
    intro N7
    induction N7 with
    | zero =>
      intro v1 v2 v3 z H locs ls hI hl h
      exact none_no h
    | succ N7 ih7 =>
      intro v1 v2 v3 z H locs ls hI hl h
      rw [lX9_instanceOf_7.eq_2] at h
      refine lv_iload_n hx hb dX9_instanceOf_7 rfl (lv_at hl 3 rfl) ?_
      refine lv_bipush (v := 120) hx hb dX9_instanceOf_8 (by decide) ?_
      refine lv_icmp_ge (tgt := 26) hx hb dX9_instanceOf_10 (by decide) (fun c10 => ?_) (fun c10 => ?_)
      · replace h := if_t h c10
        exact w26 v1 v2 z _ _ _ hI (lv_sub hl [0, 1, 2] rfl) h
      · replace h := if_f h c10
        refine lv_aload_n hx hb dX9_instanceOf_13 rfl (lv_at hl 0 rfl) ?_
        refine gX9_becomes hC hI tw_888 dX9_instanceOf_14 ?_
        refine lv_iload_n hx hb dX9_instanceOf_17 rfl (lv_at hl 3 rfl) ?_
        refine lv_iconst (v := -1) hx hb dX9_instanceOf_18 (by decide) ?_
        have g19 := (gd_at h).1
        replace h := (gd_at h).2
        refine r_iast hC hI aM_25 g19 dX9_instanceOf_19 (fun z19 H locs e19 hI => ?_)
        replace h := bnd_at h e19
        obtain ⟨x20, e20⟩ : ∃ y : Int32, y = (v3 + (1 : Int32)) := ⟨_, rfl⟩
        replace h := bnd_at h e20
        refine lv_iinc (v := x20) (lv' := [(3, .int x20), (0, .ref (ad 0)), (1, .int v1), (2, .int v2)]) hx hb dX9_instanceOf_20 hl (k := 3) rfl (by rw [e20]; rfl) (by decide) rfl (fun ls hl => ?_)
        refine lv_goto (tgt := 7) hx hb dX9_instanceOf_23 (by decide) ?_
        exact ih7 v1 v2 x20 z19 _ _ _ hI (lv_sub hl [1, 2, 3, 0] rfl) h
  exact w7 FU v1 x4 (0 : Int32) z _ _ _ hI (lv_sub hl [2, 3, 1, 0] rfl) h
theorem dX9_instance_0 : decode cX9_instance 0 = .ok (.aload_n 0, 1) := by decide +kernel
theorem dX9_instance_1 : decode cX9_instance 1 = .ok (.iload_n 1, 1) := by decide +kernel
theorem dX9_instance_2 : decode cX9_instance 2 = .ok (.invokevirtual 132, 3) := by decide +kernel
theorem dX9_instance_5 : decode cX9_instance 5 = .ok (.ifCond .eq 28, 3) := by decide +kernel
theorem dX9_instance_8 : decode cX9_instance 8 = .ok (.aload_n 0, 1) := by decide +kernel
theorem dX9_instance_9 : decode cX9_instance 9 = .ok (.iload_n 2, 1) := by decide +kernel
theorem dX9_instance_10 : decode cX9_instance 10 = .ok (.invokevirtual 132, 3) := by decide +kernel
theorem dX9_instance_13 : decode cX9_instance 13 = .ok (.ifCond .eq 20, 3) := by decide +kernel
theorem dX9_instance_16 : decode cX9_instance 16 = .ok (.aload_n 0, 1) := by decide +kernel
theorem dX9_instance_17 : decode cX9_instance 17 = .ok (.iload_n 3, 1) := by decide +kernel
theorem dX9_instance_18 : decode cX9_instance 18 = .ok (.invokevirtual 132, 3) := by decide +kernel
theorem dX9_instance_21 : decode cX9_instance 21 = .ok (.ifCond .eq 12, 3) := by decide +kernel
theorem dX9_instance_24 : decode cX9_instance 24 = .ok (.aload_n 0, 1) := by decide +kernel
theorem dX9_instance_25 : decode cX9_instance 25 = .ok (.iload 4, 2) := by decide +kernel
theorem dX9_instance_27 : decode cX9_instance 27 = .ok (.invokevirtual 132, 3) := by decide +kernel
theorem dX9_instance_30 : decode cX9_instance 30 = .ok (.ifCond .ne 9, 3) := by decide +kernel
theorem dX9_instance_33 : decode cX9_instance 33 = .ok (.aload_n 0, 1) := by decide +kernel
theorem dX9_instance_34 : decode cX9_instance 34 = .ok (.iconst 1, 1) := by decide +kernel
theorem dX9_instance_35 : decode cX9_instance 35 = .ok (.invokevirtual 119, 3) := by decide +kernel
theorem dX9_instance_38 : decode cX9_instance 38 = .ok (.ireturn, 1) := by decide +kernel
theorem dX9_instance_39 : decode cX9_instance 39 = .ok (.aload_n 0, 1) := by decide +kernel
theorem dX9_instance_40 : decode cX9_instance 40 = .ok (.getfield 84, 3) := by decide +kernel
theorem dX9_instance_43 : decode cX9_instance 43 = .ok (.iconst 0, 1) := by decide +kernel
theorem dX9_instance_44 : decode cX9_instance 44 = .ok (.iload_n 2, 1) := by decide +kernel
theorem dX9_instance_45 : decode cX9_instance 45 = .ok (.iastore, 1) := by decide +kernel
theorem dX9_instance_46 : decode cX9_instance 46 = .ok (.aload_n 0, 1) := by decide +kernel
theorem dX9_instance_47 : decode cX9_instance 47 = .ok (.getfield 84, 3) := by decide +kernel
theorem dX9_instance_50 : decode cX9_instance 50 = .ok (.iconst 1, 1) := by decide +kernel
theorem dX9_instance_51 : decode cX9_instance 51 = .ok (.iload_n 3, 1) := by decide +kernel
theorem dX9_instance_52 : decode cX9_instance 52 = .ok (.iastore, 1) := by decide +kernel
theorem dX9_instance_53 : decode cX9_instance 53 = .ok (.aload_n 0, 1) := by decide +kernel
theorem dX9_instance_54 : decode cX9_instance 54 = .ok (.getfield 84, 3) := by decide +kernel
theorem dX9_instance_57 : decode cX9_instance 57 = .ok (.iconst 2, 1) := by decide +kernel
theorem dX9_instance_58 : decode cX9_instance 58 = .ok (.iload 4, 2) := by decide +kernel
theorem dX9_instance_60 : decode cX9_instance 60 = .ok (.iastore, 1) := by decide +kernel
theorem dX9_instance_61 : decode cX9_instance 61 = .ok (.aload_n 0, 1) := by decide +kernel
theorem dX9_instance_62 : decode cX9_instance 62 = .ok (.aload_n 0, 1) := by decide +kernel
theorem dX9_instance_63 : decode cX9_instance 63 = .ok (.iload_n 1, 1) := by decide +kernel
theorem dX9_instance_64 : decode cX9_instance 64 = .ok (.invokevirtual 241, 3) := by decide +kernel
theorem dX9_instance_67 : decode cX9_instance 67 = .ok (.invokevirtual 129, 3) := by decide +kernel
theorem dX9_instance_70 : decode cX9_instance 70 = .ok (.ireturn, 1) := by decide +kernel
abbrev rmX9_instance : Room := { frames := 4, cells := 0, slots := 0, locals := 100 }
theorem ywX9_instance : fY yX9_instance "EqualCourtModel" cX9_instance 5 (some .int) 4 := ⟨tw_1196, tw_1197, tw_11, tw_1198, by decide +kernel⟩
set_option maxHeartbeats 4000000 in
set_option maxRecDepth 100000 in
theorem cX9_instance_ok {D : va_G} {ad : Nat → Nat} {cy cz : ClassId} {l : Launch} {z : fS} {v1 : Int32} {v2 : Int32} {v3 : Int32} {v4 : Int32} {r : Int32} {τ : fS} (h : fX9_instance z v1 v2 v3 v4 = some (r, τ)) : fMi D 31 ad (cfM ad cy cz) cy cz l yX9_instance cX9_instance 5 (some .int) rmX9_instance [.ref (ad 0), .int v1, .int v2, .int v3, .int v4] z r τ := by
  refine f_bodyi (by decide) (Nat.le_of_ble_eq_true rfl) (fun p e s m args below meth c Q hC hret ls hl hI => ?_)
  have hx := hC.1
  have hb := hC.2.1
  have hl : lv_has ls 5 [(0, .ref (ad 0)), (1, .int v1), (2, .int v2), (3, .int v3), (4, .int v4)] := hl
  unfold fX9_instance at h
  refine lv_aload_n hx hb dX9_instance_0 rfl (lv_at hl 0 rfl) ?_
  refine lv_iload_n hx hb dX9_instance_1 rfl (lv_at hl 1 rfl) ?_
  replace h := bp_at h
  obtain ⟨r2, e2, h⟩ := h
  refine r_calli (rest := []) hC hI oM_0 (C := "EqualCourtModel") rfl ywX9_isTerm tw_1013 (cX9_isTerm_ok  e2) ⟨Nat.le_of_ble_eq_true rfl, Nat.le_of_ble_eq_true rfl⟩ ⟨rfl, rfl⟩ rfl hl.1 rfl (Nat.le_of_ble_eq_true rfl) dX9_instance_2 (fun H locs hI => ?_)
  refine lv_if_eq (tgt := 33) hx hb dX9_instance_5 (by decide) (fun c5 => ?_) (fun c5 => ?_)
  · replace h := if_t h c5
    refine lv_aload_n hx hb dX9_instance_33 rfl (lv_at hl 0 rfl) ?_
    refine lv_iconst (v := 1) hx hb dX9_instance_34 (by decide) ?_
    replace h := bd_at h
    obtain ⟨r35, z35, e35, h⟩ := h
    refine r_calli (rest := []) hC hI oM_0 (C := "EqualCourtModel") rfl ywX9_refuse tw_985 (cX9_refuse_ok  e35) ⟨Nat.le_of_ble_eq_true rfl, Nat.le_of_ble_eq_true rfl⟩ ⟨rfl, rfl⟩ rfl hl.1 rfl (Nat.le_of_ble_eq_true rfl) dX9_instance_35 (fun H locs hI => ?_)
    exact hret h dX9_instance_38 hI
  · replace h := if_f h c5
    refine lv_aload_n hx hb dX9_instance_8 rfl (lv_at hl 0 rfl) ?_
    refine lv_iload_n hx hb dX9_instance_9 rfl (lv_at hl 2 rfl) ?_
    replace h := bp_at h
    obtain ⟨r10, e10, h⟩ := h
    refine r_calli (rest := []) hC hI oM_0 (C := "EqualCourtModel") rfl ywX9_isTerm tw_1013 (cX9_isTerm_ok  e10) ⟨Nat.le_of_ble_eq_true rfl, Nat.le_of_ble_eq_true rfl⟩ ⟨rfl, rfl⟩ rfl hl.1 rfl (Nat.le_of_ble_eq_true rfl) dX9_instance_10 (fun H locs hI => ?_)
    refine lv_if_eq (tgt := 33) hx hb dX9_instance_13 (by decide) (fun c13 => ?_) (fun c13 => ?_)
    · replace h := if_t h c13
      refine lv_aload_n hx hb dX9_instance_33 rfl (lv_at hl 0 rfl) ?_
      refine lv_iconst (v := 1) hx hb dX9_instance_34 (by decide) ?_
      replace h := bd_at h
      obtain ⟨r35, z35, e35, h⟩ := h
      refine r_calli (rest := []) hC hI oM_0 (C := "EqualCourtModel") rfl ywX9_refuse tw_985 (cX9_refuse_ok  e35) ⟨Nat.le_of_ble_eq_true rfl, Nat.le_of_ble_eq_true rfl⟩ ⟨rfl, rfl⟩ rfl hl.1 rfl (Nat.le_of_ble_eq_true rfl) dX9_instance_35 (fun H locs hI => ?_)
      exact hret h dX9_instance_38 hI
    · replace h := if_f h c13
      refine lv_aload_n hx hb dX9_instance_16 rfl (lv_at hl 0 rfl) ?_
      refine lv_iload_n hx hb dX9_instance_17 rfl (lv_at hl 3 rfl) ?_
      replace h := bp_at h
      obtain ⟨r18, e18, h⟩ := h
      refine r_calli (rest := []) hC hI oM_0 (C := "EqualCourtModel") rfl ywX9_isTerm tw_1013 (cX9_isTerm_ok  e18) ⟨Nat.le_of_ble_eq_true rfl, Nat.le_of_ble_eq_true rfl⟩ ⟨rfl, rfl⟩ rfl hl.1 rfl (Nat.le_of_ble_eq_true rfl) dX9_instance_18 (fun H locs hI => ?_)
      refine lv_if_eq (tgt := 33) hx hb dX9_instance_21 (by decide) (fun c21 => ?_) (fun c21 => ?_)
      · replace h := if_t h c21
        refine lv_aload_n hx hb dX9_instance_33 rfl (lv_at hl 0 rfl) ?_
        refine lv_iconst (v := 1) hx hb dX9_instance_34 (by decide) ?_
        replace h := bd_at h
        obtain ⟨r35, z35, e35, h⟩ := h
        refine r_calli (rest := []) hC hI oM_0 (C := "EqualCourtModel") rfl ywX9_refuse tw_985 (cX9_refuse_ok  e35) ⟨Nat.le_of_ble_eq_true rfl, Nat.le_of_ble_eq_true rfl⟩ ⟨rfl, rfl⟩ rfl hl.1 rfl (Nat.le_of_ble_eq_true rfl) dX9_instance_35 (fun H locs hI => ?_)
        exact hret h dX9_instance_38 hI
      · replace h := if_f h c21
        refine lv_aload_n hx hb dX9_instance_24 rfl (lv_at hl 0 rfl) ?_
        refine lv_iload hx hb dX9_instance_25 (lv_at hl 4 rfl) ?_
        replace h := bp_at h
        obtain ⟨r27, e27, h⟩ := h
        refine r_calli (rest := []) hC hI oM_0 (C := "EqualCourtModel") rfl ywX9_isTerm tw_1013 (cX9_isTerm_ok  e27) ⟨Nat.le_of_ble_eq_true rfl, Nat.le_of_ble_eq_true rfl⟩ ⟨rfl, rfl⟩ rfl hl.1 rfl (Nat.le_of_ble_eq_true rfl) dX9_instance_27 (fun H locs hI => ?_)
        refine lv_if_ne (tgt := 39) hx hb dX9_instance_30 (by decide) (fun c30 => ?_) (fun c30 => ?_)
        · replace h := if_f h c30
          refine lv_aload_n hx hb dX9_instance_39 rfl (lv_at hl 0 rfl) ?_
          refine gX9_hole hC hI tw_887 dX9_instance_40 ?_
          refine lv_iconst (v := 0) hx hb dX9_instance_43 (by decide) ?_
          refine lv_iload_n hx hb dX9_instance_44 rfl (lv_at hl 2 rfl) ?_
          have g45 := (gd_at h).1
          replace h := (gd_at h).2
          refine r_iast hC hI aM_24 g45 dX9_instance_45 (fun z45 H locs e45 hI => ?_)
          replace h := bnd_at h e45
          refine lv_aload_n hx hb dX9_instance_46 rfl (lv_at hl 0 rfl) ?_
          refine gX9_hole hC hI tw_887 dX9_instance_47 ?_
          refine lv_iconst (v := 1) hx hb dX9_instance_50 (by decide) ?_
          refine lv_iload_n hx hb dX9_instance_51 rfl (lv_at hl 3 rfl) ?_
          have g52 := (gd_at h).1
          replace h := (gd_at h).2
          refine r_iast hC hI aM_24 g52 dX9_instance_52 (fun z52 H locs e52 hI => ?_)
          replace h := bnd_at h e52
          refine lv_aload_n hx hb dX9_instance_53 rfl (lv_at hl 0 rfl) ?_
          refine gX9_hole hC hI tw_887 dX9_instance_54 ?_
          refine lv_iconst (v := 2) hx hb dX9_instance_57 (by decide) ?_
          refine lv_iload hx hb dX9_instance_58 (lv_at hl 4 rfl) ?_
          have g60 := (gd_at h).1
          replace h := (gd_at h).2
          refine r_iast hC hI aM_24 g60 dX9_instance_60 (fun z60 H locs e60 hI => ?_)
          replace h := bnd_at h e60
          refine lv_aload_n hx hb dX9_instance_61 rfl (lv_at hl 0 rfl) ?_
          refine lv_aload_n hx hb dX9_instance_62 rfl (lv_at hl 0 rfl) ?_
          refine lv_iload_n hx hb dX9_instance_63 rfl (lv_at hl 1 rfl) ?_
          replace h := bd_at h
          obtain ⟨r64, z64, e64, h⟩ := h
          refine r_calli (rest := [.ref (ad 0)]) hC hI oM_0 (C := "EqualCourtModel") rfl ywX9_instanceOf tw_1199 (cX9_instanceOf_ok  e64) ⟨Nat.le_of_ble_eq_true rfl, Nat.le_of_ble_eq_true rfl⟩ ⟨rfl, rfl⟩ rfl hl.1 rfl (Nat.le_of_ble_eq_true rfl) dX9_instance_64 (fun H locs hI => ?_)
          replace h := bd_at h
          obtain ⟨r67, z67, e67, h⟩ := h
          refine r_calli (rest := []) hC hI oM_0 (C := "EqualCourtModel") rfl ywX9_answer tw_997 (cX9_answer_ok  e67) ⟨Nat.le_of_ble_eq_true rfl, Nat.le_of_ble_eq_true rfl⟩ ⟨rfl, rfl⟩ rfl hl.1 rfl (Nat.le_of_ble_eq_true rfl) dX9_instance_67 (fun H locs hI => ?_)
          exact hret h dX9_instance_70 hI
        · replace h := if_t h c30
          refine lv_aload_n hx hb dX9_instance_33 rfl (lv_at hl 0 rfl) ?_
          refine lv_iconst (v := 1) hx hb dX9_instance_34 (by decide) ?_
          replace h := bd_at h
          obtain ⟨r35, z35, e35, h⟩ := h
          refine r_calli (rest := []) hC hI oM_0 (C := "EqualCourtModel") rfl ywX9_refuse tw_985 (cX9_refuse_ok  e35) ⟨Nat.le_of_ble_eq_true rfl, Nat.le_of_ble_eq_true rfl⟩ ⟨rfl, rfl⟩ rfl hl.1 rfl (Nat.le_of_ble_eq_true rfl) dX9_instance_35 (fun H locs hI => ?_)
          exact hret h dX9_instance_38 hI
