theorem dX9_lookForHoles_0 : decode cX9_lookForHoles 0 = .ok (.iconst 0, 1) := by decide +kernel
theorem dX9_lookForHoles_1 : decode cX9_lookForHoles 1 = .ok (.istore_n 2, 1) := by decide +kernel
theorem dX9_lookForHoles_2 : decode cX9_lookForHoles 2 = .ok (.iload_n 2, 1) := by decide +kernel
theorem dX9_lookForHoles_3 : decode cX9_lookForHoles 3 = .ok (.aload_n 0, 1) := by decide +kernel
theorem dX9_lookForHoles_4 : decode cX9_lookForHoles 4 = .ok (.getfield 108, 3) := by decide +kernel
theorem dX9_lookForHoles_7 : decode cX9_lookForHoles 7 = .ok (.if_icmp .ge 25, 3) := by decide +kernel
theorem dX9_lookForHoles_10 : decode cX9_lookForHoles 10 = .ok (.aload_n 0, 1) := by decide +kernel
theorem dX9_lookForHoles_11 : decode cX9_lookForHoles 11 = .ok (.getfield 99, 3) := by decide +kernel
theorem dX9_lookForHoles_14 : decode cX9_lookForHoles 14 = .ok (.iload_n 2, 1) := by decide +kernel
theorem dX9_lookForHoles_15 : decode cX9_lookForHoles 15 = .ok (.iload_n 2, 1) := by decide +kernel
theorem dX9_lookForHoles_16 : decode cX9_lookForHoles 16 = .ok (.iload_n 1, 1) := by decide +kernel
theorem dX9_lookForHoles_17 : decode cX9_lookForHoles 17 = .ok (.if_icmp .ne 7, 3) := by decide +kernel
theorem dX9_lookForHoles_20 : decode cX9_lookForHoles 20 = .ok (.iconst 1, 1) := by decide +kernel
theorem dX9_lookForHoles_21 : decode cX9_lookForHoles 21 = .ok (.goto 4, 3) := by decide +kernel
theorem dX9_lookForHoles_24 : decode cX9_lookForHoles 24 = .ok (.iconst 0, 1) := by decide +kernel
theorem dX9_lookForHoles_25 : decode cX9_lookForHoles 25 = .ok (.bastore, 1) := by decide +kernel
theorem dX9_lookForHoles_26 : decode cX9_lookForHoles 26 = .ok (.iinc 2 1, 3) := by decide +kernel
theorem dX9_lookForHoles_29 : decode cX9_lookForHoles 29 = .ok (.goto (-27), 3) := by decide +kernel
theorem dX9_lookForHoles_32 : decode cX9_lookForHoles 32 = .ok (.iload_n 1, 1) := by decide +kernel
theorem dX9_lookForHoles_33 : decode cX9_lookForHoles 33 = .ok (.istore_n 2, 1) := by decide +kernel
theorem dX9_lookForHoles_34 : decode cX9_lookForHoles 34 = .ok (.iload_n 2, 1) := by decide +kernel
theorem dX9_lookForHoles_35 : decode cX9_lookForHoles 35 = .ok (.ifCond .lt 75, 3) := by decide +kernel
theorem dX9_lookForHoles_38 : decode cX9_lookForHoles 38 = .ok (.aload_n 0, 1) := by decide +kernel
theorem dX9_lookForHoles_39 : decode cX9_lookForHoles 39 = .ok (.getfield 99, 3) := by decide +kernel
theorem dX9_lookForHoles_42 : decode cX9_lookForHoles 42 = .ok (.iload_n 2, 1) := by decide +kernel
theorem dX9_lookForHoles_43 : decode cX9_lookForHoles 43 = .ok (.baload, 1) := by decide +kernel
theorem dX9_lookForHoles_44 : decode cX9_lookForHoles 44 = .ok (.ifCond .eq 60, 3) := by decide +kernel
theorem dX9_lookForHoles_47 : decode cX9_lookForHoles 47 = .ok (.aload_n 0, 1) := by decide +kernel
theorem dX9_lookForHoles_48 : decode cX9_lookForHoles 48 = .ok (.iload_n 2, 1) := by decide +kernel
theorem dX9_lookForHoles_49 : decode cX9_lookForHoles 49 = .ok (.invokevirtual 235, 3) := by decide +kernel
theorem dX9_lookForHoles_52 : decode cX9_lookForHoles 52 = .ok (.ifCond .eq 18, 3) := by decide +kernel
theorem dX9_lookForHoles_55 : decode cX9_lookForHoles 55 = .ok (.aload_n 0, 1) := by decide +kernel
theorem dX9_lookForHoles_56 : decode cX9_lookForHoles 56 = .ok (.getfield 96, 3) := by decide +kernel
theorem dX9_lookForHoles_59 : decode cX9_lookForHoles 59 = .ok (.aload_n 0, 1) := by decide +kernel
theorem dX9_lookForHoles_60 : decode cX9_lookForHoles 60 = .ok (.getfield 13, 3) := by decide +kernel
theorem dX9_lookForHoles_63 : decode cX9_lookForHoles 63 = .ok (.iload_n 2, 1) := by decide +kernel
theorem dX9_lookForHoles_64 : decode cX9_lookForHoles 64 = .ok (.iaload, 1) := by decide +kernel
theorem dX9_lookForHoles_65 : decode cX9_lookForHoles 65 = .ok (.bipush 90, 2) := by decide +kernel
theorem dX9_lookForHoles_67 : decode cX9_lookForHoles 67 = .ok (.isub, 1) := by decide +kernel
theorem dX9_lookForHoles_68 : decode cX9_lookForHoles 68 = .ok (.iconst 1, 1) := by decide +kernel
theorem dX9_lookForHoles_69 : decode cX9_lookForHoles 69 = .ok (.bastore, 1) := by decide +kernel
theorem dX9_lookForHoles_70 : decode cX9_lookForHoles 70 = .ok (.iconst 0, 1) := by decide +kernel
theorem dX9_lookForHoles_71 : decode cX9_lookForHoles 71 = .ok (.istore_n 3, 1) := by decide +kernel
theorem dX9_lookForHoles_72 : decode cX9_lookForHoles 72 = .ok (.iload_n 3, 1) := by decide +kernel
theorem dX9_lookForHoles_73 : decode cX9_lookForHoles 73 = .ok (.aload_n 0, 1) := by decide +kernel
theorem dX9_lookForHoles_74 : decode cX9_lookForHoles 74 = .ok (.getfield 16, 3) := by decide +kernel
theorem dX9_lookForHoles_77 : decode cX9_lookForHoles 77 = .ok (.iload_n 2, 1) := by decide +kernel
theorem dX9_lookForHoles_78 : decode cX9_lookForHoles 78 = .ok (.iaload, 1) := by decide +kernel
theorem dX9_lookForHoles_79 : decode cX9_lookForHoles 79 = .ok (.if_icmp .ge 25, 3) := by decide +kernel
theorem dX9_lookForHoles_82 : decode cX9_lookForHoles 82 = .ok (.aload_n 0, 1) := by decide +kernel
theorem dX9_lookForHoles_83 : decode cX9_lookForHoles 83 = .ok (.getfield 99, 3) := by decide +kernel
theorem dX9_lookForHoles_86 : decode cX9_lookForHoles 86 = .ok (.aload_n 0, 1) := by decide +kernel
theorem dX9_lookForHoles_87 : decode cX9_lookForHoles 87 = .ok (.getfield 19, 3) := by decide +kernel
theorem dX9_lookForHoles_90 : decode cX9_lookForHoles 90 = .ok (.iconst 3, 1) := by decide +kernel
theorem dX9_lookForHoles_91 : decode cX9_lookForHoles 91 = .ok (.iload_n 2, 1) := by decide +kernel
theorem dX9_lookForHoles_92 : decode cX9_lookForHoles 92 = .ok (.imul, 1) := by decide +kernel
theorem dX9_lookForHoles_93 : decode cX9_lookForHoles 93 = .ok (.iload_n 3, 1) := by decide +kernel
theorem dX9_lookForHoles_94 : decode cX9_lookForHoles 94 = .ok (.iadd, 1) := by decide +kernel
theorem dX9_lookForHoles_95 : decode cX9_lookForHoles 95 = .ok (.iaload, 1) := by decide +kernel
theorem dX9_lookForHoles_96 : decode cX9_lookForHoles 96 = .ok (.iconst 1, 1) := by decide +kernel
theorem dX9_lookForHoles_97 : decode cX9_lookForHoles 97 = .ok (.bastore, 1) := by decide +kernel
theorem dX9_lookForHoles_98 : decode cX9_lookForHoles 98 = .ok (.iinc 3 1, 3) := by decide +kernel
theorem dX9_lookForHoles_101 : decode cX9_lookForHoles 101 = .ok (.goto (-29), 3) := by decide +kernel
theorem dX9_lookForHoles_104 : decode cX9_lookForHoles 104 = .ok (.iinc 2 (-1), 3) := by decide +kernel
theorem dX9_lookForHoles_107 : decode cX9_lookForHoles 107 = .ok (.goto (-73), 3) := by decide +kernel
theorem dX9_lookForHoles_110 : decode cX9_lookForHoles 110 = .ok (.return_, 1) := by decide +kernel
abbrev rmX9_lookForHoles : Room := { frames := 1, cells := 0, slots := 0, locals := 21 }
theorem ywX9_lookForHoles : fY yX9_lookForHoles "EqualCourtModel" cX9_lookForHoles 4 none 1 := ⟨tw_1221, tp_59, tw_11, tw_1222, by decide +kernel⟩
set_option maxHeartbeats 4000000 in
set_option maxRecDepth 100000 in
theorem cX9_lookForHoles_ok {D : va_G} {ad : Nat → Nat} {cy cz : ClassId} {l : Launch} {z : fS} {v1 : Int32} {τ : fS} (h : fX9_lookForHoles z v1 = some τ) : fMv D 31 ad (cfM ad cy cz) cy cz l yX9_lookForHoles cX9_lookForHoles 4 none rmX9_lookForHoles [.ref (ad 0), .int v1] z τ := by
  refine f_bodyv (by decide) (Nat.le_of_ble_eq_true rfl) (fun p e s m args below meth c Q hC hret ls hl hI => ?_)
  have hx := hC.1
  have hb := hC.2.1
  have hl : lv_has ls 4 [(0, .ref (ad 0)), (1, .int v1)] := hl
  unfold fX9_lookForHoles at h
  have w32 : ∀ (v1 : Int32) (z : fS) (H : Heap) (locs : List Loc) (ls : Array Slot), fI D 31 ad (cfM ad cy cz) z s H locs → lv_has ls 4 [(0, .ref (ad 0)), (1, .int v1)] → jX9_lookForHoles_32   v1 z = some τ → W p l e rmX9_lookForHoles s m args below meth c H locs 0 0 Q (F0 m 32 ls []) := by
    intro v1 z H locs ls hI hl h
    unfold jX9_lookForHoles_32 at h
    refine lv_iload_n hx hb dX9_lookForHoles_32 rfl (lv_at hl 1 rfl) ?_
    refine lv_istore_n (lv' := [(2, .int v1), (0, .ref (ad 0)), (1, .int v1)]) hx hb dX9_lookForHoles_33 rfl hl (by decide) rfl (fun ls hl => ?_)
    have w34 : ∀ (N34 : Nat) (v2 : Int32) (z : fS) (H : Heap) (locs : List Loc) (ls : Array Slot), fI D 31 ad (cfM ad cy cz) z s H locs → lv_has ls 4 [(0, .ref (ad 0)), (2, .int v2)] → lX9_lookForHoles_34    N34 v2 z = some τ → W p l e rmX9_lookForHoles s m args below meth c H locs 0 0 Q (F0 m 34 ls []) := by
      intro N34
      induction N34 with
      | zero =>
        intro v2 z H locs ls hI hl h
        exact none_no h
      | succ N34 ih34 =>
        have w104 : ∀ (v2 : Int32) (z : fS) (H : Heap) (locs : List Loc) (ls : Array Slot), fI D 31 ad (cfM ad cy cz) z s H locs → lv_has ls 4 [(0, .ref (ad 0)), (2, .int v2)] → jX9_lookForHoles_104  (lX9_lookForHoles_34    N34) v2 z = some τ → W p l e rmX9_lookForHoles s m args below meth c H locs 0 0 Q (F0 m 104 ls []) := by
          intro v2 z H locs ls hI hl h
          unfold jX9_lookForHoles_104 at h
          obtain ⟨x104, e104⟩ : ∃ y : Int32, y = (v2 + (-1 : Int32)) := ⟨_, rfl⟩
          replace h := bnd_at h e104
          refine lv_iinc (v := x104) (lv' := [(2, .int x104), (0, .ref (ad 0))]) hx hb dX9_lookForHoles_104 hl (k := 1) rfl (by rw [e104]; rfl) (by decide) rfl (fun ls hl => ?_)
          refine lv_goto (tgt := 34) hx hb dX9_lookForHoles_107 (by decide) ?_
          exact ih34  x104 z _ _ _ hI (lv_sub hl [1, 0] rfl) h
        have w70 : ∀ (v2 : Int32) (z : fS) (H : Heap) (locs : List Loc) (ls : Array Slot), fI D 31 ad (cfM ad cy cz) z s H locs → lv_has ls 4 [(0, .ref (ad 0)), (2, .int v2)] → jX9_lookForHoles_70  (lX9_lookForHoles_34    N34) v2 z = some τ → W p l e rmX9_lookForHoles s m args below meth c H locs 0 0 Q (F0 m 70 ls []) := by
          intro v2 z H locs ls hI hl h
          unfold jX9_lookForHoles_70 at h
          refine lv_iconst (v := 0) hx hb dX9_lookForHoles_70 (by decide) ?_
          refine lv_istore_n (lv' := [(3, .int (0 : Int32)), (0, .ref (ad 0)), (2, .int v2)]) hx hb dX9_lookForHoles_71 rfl hl (by decide) rfl (fun ls hl => ?_)
          have w72 : ∀ (N72 : Nat) (v2 : Int32) (v3 : Int32) (z : fS) (H : Heap) (locs : List Loc) (ls : Array Slot), fI D 31 ad (cfM ad cy cz) z s H locs → lv_has ls 4 [(0, .ref (ad 0)), (2, .int v2), (3, .int v3)] → lX9_lookForHoles_72  (jX9_lookForHoles_104  (lX9_lookForHoles_34    N34) v2) v2 N72 v3 z = some τ → W p l e rmX9_lookForHoles s m args below meth c H locs 0 0 Q (F0 m 72 ls []) := by
            intro N72
            induction N72 with
            | zero =>
              intro v2 v3 z H locs ls hI hl h
              exact none_no h
            | succ N72 ih72 =>
              intro v2 v3 z H locs ls hI hl h
              rw [lX9_lookForHoles_72.eq_2] at h
              refine lv_iload_n hx hb dX9_lookForHoles_72 rfl (lv_at hl 2 rfl) ?_
              refine lv_aload_n hx hb dX9_lookForHoles_73 rfl (lv_at hl 0 rfl) ?_
              refine gX9_partMany hC hI tw_856 dX9_lookForHoles_74 ?_
              refine lv_iload_n hx hb dX9_lookForHoles_77 rfl (lv_at hl 1 rfl) ?_
              have g78 := (gd_at h).1
              replace h := (gd_at h).2
              refine r_iald hC hI aM_3 g78 dX9_lookForHoles_78 ?_
              refine lv_icmp_ge (tgt := 104) hx hb dX9_lookForHoles_79 (by decide) (fun c79 => ?_) (fun c79 => ?_)
              · replace h := if_t h c79
                exact w104 v2 z _ _ _ hI (lv_sub hl [0, 1] rfl) h
              · replace h := if_f h c79
                refine lv_aload_n hx hb dX9_lookForHoles_82 rfl (lv_at hl 0 rfl) ?_
                refine gX9_isSeen hC hI tw_892 dX9_lookForHoles_83 ?_
                refine lv_aload_n hx hb dX9_lookForHoles_86 rfl (lv_at hl 0 rfl) ?_
                refine gX9_partOf hC hI tw_857 dX9_lookForHoles_87 ?_
                refine lv_iconst (v := 3) hx hb dX9_lookForHoles_90 (by decide) ?_
                refine lv_iload_n hx hb dX9_lookForHoles_91 rfl (lv_at hl 1 rfl) ?_
                refine lv_imul hx hb dX9_lookForHoles_92 ?_
                refine lv_iload_n hx hb dX9_lookForHoles_93 rfl (lv_at hl 2 rfl) ?_
                refine lv_iadd hx hb dX9_lookForHoles_94 ?_
                have g95 := (gd_at h).1
                replace h := (gd_at h).2
                refine r_iald hC hI aM_4 g95 dX9_lookForHoles_95 ?_
                refine lv_iconst (v := 1) hx hb dX9_lookForHoles_96 (by decide) ?_
                have g97 := (gd_at h).1
                replace h := (gd_at h).2
                refine r_zast hC hI aM_29 g97 dX9_lookForHoles_97 (fun z97 H locs e97 hI => ?_)
                replace h := bnd_at h e97
                obtain ⟨x98, e98⟩ : ∃ y : Int32, y = (v3 + (1 : Int32)) := ⟨_, rfl⟩
                replace h := bnd_at h e98
                refine lv_iinc (v := x98) (lv' := [(3, .int x98), (0, .ref (ad 0)), (2, .int v2)]) hx hb dX9_lookForHoles_98 hl (k := 2) rfl (by rw [e98]; rfl) (by decide) rfl (fun ls hl => ?_)
                refine lv_goto (tgt := 72) hx hb dX9_lookForHoles_101 (by decide) ?_
                exact ih72 v2 x98 z97 _ _ _ hI (lv_sub hl [1, 2, 0] rfl) h
          exact w72 FU v2 (0 : Int32) z _ _ _ hI (lv_sub hl [1, 2, 0] rfl) h
        intro v2 z H locs ls hI hl h
        rw [lX9_lookForHoles_34.eq_2] at h
        refine lv_iload_n hx hb dX9_lookForHoles_34 rfl (lv_at hl 1 rfl) ?_
        refine lv_if_lt (tgt := 110) hx hb dX9_lookForHoles_35 (by decide) (fun c35 => ?_) (fun c35 => ?_)
        · replace h := if_t h c35
          exact hret h dX9_lookForHoles_110 hI
        · replace h := if_f h c35
          refine lv_aload_n hx hb dX9_lookForHoles_38 rfl (lv_at hl 0 rfl) ?_
          refine gX9_isSeen hC hI tw_892 dX9_lookForHoles_39 ?_
          refine lv_iload_n hx hb dX9_lookForHoles_42 rfl (lv_at hl 1 rfl) ?_
          have g43 := (gd_at h).1
          replace h := (gd_at h).2
          refine r_zald hC hI aM_29 g43 dX9_lookForHoles_43 ?_
          refine lv_if_eq (tgt := 104) hx hb dX9_lookForHoles_44 (by decide) (fun c44 => ?_) (fun c44 => ?_)
          · replace h := if_t h c44
            exact w104 v2 z _ _ _ hI hl h
          · replace h := if_f h c44
            refine lv_aload_n hx hb dX9_lookForHoles_47 rfl (lv_at hl 0 rfl) ?_
            refine lv_iload_n hx hb dX9_lookForHoles_48 rfl (lv_at hl 1 rfl) ?_
            replace h := bp_at h
            obtain ⟨r49, e49, h⟩ := h
            refine r_calli (rest := []) hC hI oM_0 (C := "EqualCourtModel") rfl ywX9_isHole tw_1207 (cX9_isHole_ok  e49) ⟨Nat.le_of_ble_eq_true rfl, Nat.le_of_ble_eq_true rfl⟩ ⟨rfl, rfl⟩ rfl hl.1 rfl (Nat.le_of_ble_eq_true rfl) dX9_lookForHoles_49 (fun H locs hI => ?_)
            refine lv_if_eq (tgt := 70) hx hb dX9_lookForHoles_52 (by decide) (fun c52 => ?_) (fun c52 => ?_)
            · replace h := if_t h c52
              exact w70 v2 z _ _ _ hI hl h
            · replace h := if_f h c52
              refine lv_aload_n hx hb dX9_lookForHoles_55 rfl (lv_at hl 0 rfl) ?_
              refine gX9_stands hC hI tw_891 dX9_lookForHoles_56 ?_
              refine lv_aload_n hx hb dX9_lookForHoles_59 rfl (lv_at hl 0 rfl) ?_
              refine gX9_shown hC hI tw_855 dX9_lookForHoles_60 ?_
              refine lv_iload_n hx hb dX9_lookForHoles_63 rfl (lv_at hl 1 rfl) ?_
              have g64 := (gd_at h).1
              replace h := (gd_at h).2
              refine r_iald hC hI aM_2 g64 dX9_lookForHoles_64 ?_
              refine lv_bipush (v := 90) hx hb dX9_lookForHoles_65 (by decide) ?_
              refine lv_isub hx hb dX9_lookForHoles_67 ?_
              refine lv_iconst (v := 1) hx hb dX9_lookForHoles_68 (by decide) ?_
              have g69 := (gd_at h).1
              replace h := (gd_at h).2
              refine r_zast hC hI aM_28 g69 dX9_lookForHoles_69 (fun z69 H locs e69 hI => ?_)
              replace h := bnd_at h e69
              exact w70 v2 z69 _ _ _ hI hl h
    exact w34 FU  v1 z _ _ _ hI (lv_sub hl [1, 0] rfl) h
  refine lv_iconst (v := 0) hx hb dX9_lookForHoles_0 (by decide) ?_
  refine lv_istore_n (lv' := [(2, .int (0 : Int32)), (0, .ref (ad 0)), (1, .int v1)]) hx hb dX9_lookForHoles_1 rfl hl (by decide) rfl (fun ls hl => ?_)
  have w2 : ∀ (N2 : Nat) (v1 : Int32) (v2 : Int32) (z : fS) (H : Heap) (locs : List Loc) (ls : Array Slot), fI D 31 ad (cfM ad cy cz) z s H locs → lv_has ls 4 [(0, .ref (ad 0)), (1, .int v1), (2, .int v2)] → lX9_lookForHoles_2  (jX9_lookForHoles_32   v1) v1 N2 v2 z = some τ → W p l e rmX9_lookForHoles s m args below meth c H locs 0 0 Q (F0 m 2 ls []) := by
    intro N2
    induction N2 with
    | zero =>
      intro v1 v2 z H locs ls hI hl h
      exact none_no h
    | succ N2 ih2 =>
      intro v1 v2 z H locs ls hI hl h
      rw [lX9_lookForHoles_2.eq_2] at h
      refine lv_iload_n hx hb dX9_lookForHoles_2 rfl (lv_at hl 2 rfl) ?_
      refine lv_aload_n hx hb dX9_lookForHoles_3 rfl (lv_at hl 0 rfl) ?_
      refine gX9_terms hC hI tw_858 dX9_lookForHoles_4 ?_
      refine lv_icmp_ge (tgt := 32) hx hb dX9_lookForHoles_7 (by decide) (fun c7 => ?_) (fun c7 => ?_)
      · replace h := if_t h c7
        exact w32 v1 z _ _ _ hI (lv_sub hl [0, 1] rfl) h
      · replace h := if_f h c7
        refine lv_aload_n hx hb dX9_lookForHoles_10 rfl (lv_at hl 0 rfl) ?_
        refine gX9_isSeen hC hI tw_892 dX9_lookForHoles_11 ?_
        refine lv_iload_n hx hb dX9_lookForHoles_14 rfl (lv_at hl 2 rfl) ?_
        refine lv_iload_n hx hb dX9_lookForHoles_15 rfl (lv_at hl 2 rfl) ?_
        refine lv_iload_n hx hb dX9_lookForHoles_16 rfl (lv_at hl 1 rfl) ?_
        refine lv_icmp_ne (tgt := 24) hx hb dX9_lookForHoles_17 (by decide) (fun c17 => ?_) (fun c17 => ?_)
        · replace h := if_f h c17
          refine lv_iconst (v := 0) hx hb dX9_lookForHoles_24 (by decide) ?_
          have g25 := (gd_at h).1
          replace h := (gd_at h).2
          refine r_zast hC hI aM_29 g25 dX9_lookForHoles_25 (fun z25 H locs e25 hI => ?_)
          replace h := bnd_at h e25
          obtain ⟨x26, e26⟩ : ∃ y : Int32, y = (v2 + (1 : Int32)) := ⟨_, rfl⟩
          replace h := bnd_at h e26
          refine lv_iinc (v := x26) (lv' := [(2, .int x26), (0, .ref (ad 0)), (1, .int v1)]) hx hb dX9_lookForHoles_26 hl (k := 2) rfl (by rw [e26]; rfl) (by decide) rfl (fun ls hl => ?_)
          refine lv_goto (tgt := 2) hx hb dX9_lookForHoles_29 (by decide) ?_
          exact ih2 v1 x26 z25 _ _ _ hI (lv_sub hl [1, 2, 0] rfl) h
        · replace h := if_t h c17
          refine lv_iconst (v := 1) hx hb dX9_lookForHoles_20 (by decide) ?_
          refine lv_goto (tgt := 25) hx hb dX9_lookForHoles_21 (by decide) ?_
          have g25 := (gd_at h).1
          replace h := (gd_at h).2
          refine r_zast hC hI aM_29 g25 dX9_lookForHoles_25 (fun z25 H locs e25 hI => ?_)
          replace h := bnd_at h e25
          obtain ⟨x26, e26⟩ : ∃ y : Int32, y = (v2 + (1 : Int32)) := ⟨_, rfl⟩
          replace h := bnd_at h e26
          refine lv_iinc (v := x26) (lv' := [(2, .int x26), (0, .ref (ad 0)), (1, .int v1)]) hx hb dX9_lookForHoles_26 hl (k := 2) rfl (by rw [e26]; rfl) (by decide) rfl (fun ls hl => ?_)
          refine lv_goto (tgt := 2) hx hb dX9_lookForHoles_29 (by decide) ?_
          exact ih2 v1 x26 z25 _ _ _ hI (lv_sub hl [1, 2, 0] rfl) h
  exact w2 FU v1 (0 : Int32) z _ _ _ hI (lv_sub hl [1, 2, 0] rfl) h
theorem dX9_findHeads_0 : decode cX9_findHeads 0 = .ok (.aload_n 0, 1) := by decide +kernel
theorem dX9_findHeads_1 : decode cX9_findHeads 1 = .ok (.invokevirtual 161, 3) := by decide +kernel
theorem dX9_findHeads_4 : decode cX9_findHeads 4 = .ok (.aload_n 0, 1) := by decide +kernel
theorem dX9_findHeads_5 : decode cX9_findHeads 5 = .ok (.iconst 0, 1) := by decide +kernel
theorem dX9_findHeads_6 : decode cX9_findHeads 6 = .ok (.putfield 244, 3) := by decide +kernel
theorem dX9_findHeads_9 : decode cX9_findHeads 9 = .ok (.iconst 0, 1) := by decide +kernel
theorem dX9_findHeads_10 : decode cX9_findHeads 10 = .ok (.istore_n 1, 1) := by decide +kernel
theorem dX9_findHeads_11 : decode cX9_findHeads 11 = .ok (.iload_n 1, 1) := by decide +kernel
theorem dX9_findHeads_12 : decode cX9_findHeads 12 = .ok (.aload_n 0, 1) := by decide +kernel
theorem dX9_findHeads_13 : decode cX9_findHeads 13 = .ok (.getfield 108, 3) := by decide +kernel
theorem dX9_findHeads_16 : decode cX9_findHeads 16 = .ok (.if_icmp .ge 47, 3) := by decide +kernel
theorem dX9_findHeads_19 : decode cX9_findHeads 19 = .ok (.aload_n 0, 1) := by decide +kernel
theorem dX9_findHeads_20 : decode cX9_findHeads 20 = .ok (.getfield 72, 3) := by decide +kernel
theorem dX9_findHeads_23 : decode cX9_findHeads 23 = .ok (.iload_n 1, 1) := by decide +kernel
theorem dX9_findHeads_24 : decode cX9_findHeads 24 = .ok (.iaload, 1) := by decide +kernel
theorem dX9_findHeads_25 : decode cX9_findHeads 25 = .ok (.iload_n 1, 1) := by decide +kernel
theorem dX9_findHeads_26 : decode cX9_findHeads 26 = .ok (.if_icmp .ne 31, 3) := by decide +kernel
theorem dX9_findHeads_29 : decode cX9_findHeads 29 = .ok (.aload_n 0, 1) := by decide +kernel
theorem dX9_findHeads_30 : decode cX9_findHeads 30 = .ok (.iload_n 1, 1) := by decide +kernel
theorem dX9_findHeads_31 : decode cX9_findHeads 31 = .ok (.invokevirtual 235, 3) := by decide +kernel
theorem dX9_findHeads_34 : decode cX9_findHeads 34 = .ok (.ifCond .ne 23, 3) := by decide +kernel
theorem dX9_findHeads_37 : decode cX9_findHeads 37 = .ok (.aload_n 0, 1) := by decide +kernel
theorem dX9_findHeads_38 : decode cX9_findHeads 38 = .ok (.getfield 102, 3) := by decide +kernel
theorem dX9_findHeads_41 : decode cX9_findHeads 41 = .ok (.aload_n 0, 1) := by decide +kernel
theorem dX9_findHeads_42 : decode cX9_findHeads 42 = .ok (.getfield 244, 3) := by decide +kernel
theorem dX9_findHeads_45 : decode cX9_findHeads 45 = .ok (.iload_n 1, 1) := by decide +kernel
theorem dX9_findHeads_46 : decode cX9_findHeads 46 = .ok (.iastore, 1) := by decide +kernel
theorem dX9_findHeads_47 : decode cX9_findHeads 47 = .ok (.aload_n 0, 1) := by decide +kernel
theorem dX9_findHeads_48 : decode cX9_findHeads 48 = .ok (.dup, 1) := by decide +kernel
theorem dX9_findHeads_49 : decode cX9_findHeads 49 = .ok (.getfield 244, 3) := by decide +kernel
theorem dX9_findHeads_52 : decode cX9_findHeads 52 = .ok (.iconst 1, 1) := by decide +kernel
theorem dX9_findHeads_53 : decode cX9_findHeads 53 = .ok (.iadd, 1) := by decide +kernel
theorem dX9_findHeads_54 : decode cX9_findHeads 54 = .ok (.putfield 244, 3) := by decide +kernel
theorem dX9_findHeads_57 : decode cX9_findHeads 57 = .ok (.iinc 1 1, 3) := by decide +kernel
theorem dX9_findHeads_60 : decode cX9_findHeads 60 = .ok (.goto (-49), 3) := by decide +kernel
theorem dX9_findHeads_63 : decode cX9_findHeads 63 = .ok (.return_, 1) := by decide +kernel
abbrev rmX9_findHeads : Room := { frames := 5, cells := 0, slots := 0, locals := 114 }
theorem ywX9_findHeads : fY yX9_findHeads "EqualCourtModel" cX9_findHeads 2 none 0 := ⟨tw_1217, tp_58, tw_11, tw_1218, by decide +kernel⟩
set_option maxHeartbeats 4000000 in
set_option maxRecDepth 100000 in
theorem cX9_findHeads_ok {D : va_G} {ad : Nat → Nat} {cy cz : ClassId} {l : Launch} {z : fS}  {τ : fS} (h : fX9_findHeads z = some τ) : fMv D 31 ad (cfM ad cy cz) cy cz l yX9_findHeads cX9_findHeads 2 none rmX9_findHeads [.ref (ad 0)] z τ := by
  refine f_bodyv (by decide) (Nat.le_of_ble_eq_true rfl) (fun p e s m args below meth c Q hC hret ls hl hI => ?_)
  have hx := hC.1
  have hb := hC.2.1
  have hl : lv_has ls 2 [(0, .ref (ad 0))] := hl
  unfold fX9_findHeads at h
  refine lv_aload_n hx hb dX9_findHeads_0 rfl (lv_at hl 0 rfl) ?_
  replace h := bp_at h
  obtain ⟨z1, e1, h⟩ := h
  refine r_callv (rest := []) hC hI oM_0 (C := "EqualCourtModel") rfl ywX9_court tw_1049 (cX9_court_ok  e1) ⟨Nat.le_of_ble_eq_true rfl, Nat.le_of_ble_eq_true rfl⟩ ⟨rfl, rfl⟩ rfl hl.1 rfl (Nat.le_of_ble_eq_true rfl) dX9_findHeads_1 (fun H locs hI => ?_)
  refine lv_aload_n hx hb dX9_findHeads_4 rfl (lv_at hl 0 rfl) ?_
  refine lv_iconst (v := 0) hx hb dX9_findHeads_5 (by decide) ?_
  refine pX9_headMany hC hI tw_894 dX9_findHeads_6 (fun z6 H locs e6 hI => ?_)
  replace h := bnd_at h e6
  refine lv_iconst (v := 0) hx hb dX9_findHeads_9 (by decide) ?_
  refine lv_istore_n (lv' := [(1, .int (0 : Int32)), (0, .ref (ad 0))]) hx hb dX9_findHeads_10 rfl hl (by decide) rfl (fun ls hl => ?_)
  have w11 : ∀ (N11 : Nat) (v1 : Int32) (z : fS) (H : Heap) (locs : List Loc) (ls : Array Slot), fI D 31 ad (cfM ad cy cz) z s H locs → lv_has ls 2 [(0, .ref (ad 0)), (1, .int v1)] → lX9_findHeads_11    N11 v1 z = some τ → W p l e rmX9_findHeads s m args below meth c H locs 0 0 Q (F0 m 11 ls []) := by
    intro N11
    induction N11 with
    | zero =>
      intro v1 z H locs ls hI hl h
      exact none_no h
    | succ N11 ih11 =>
      intro v1 z H locs ls hI hl h
      rw [lX9_findHeads_11.eq_2] at h
      refine lv_iload_n hx hb dX9_findHeads_11 rfl (lv_at hl 1 rfl) ?_
      refine lv_aload_n hx hb dX9_findHeads_12 rfl (lv_at hl 0 rfl) ?_
      refine gX9_terms hC hI tw_858 dX9_findHeads_13 ?_
      refine lv_icmp_ge (tgt := 63) hx hb dX9_findHeads_16 (by decide) (fun c16 => ?_) (fun c16 => ?_)
      · replace h := if_t h c16
        exact hret h dX9_findHeads_63 hI
      · replace h := if_f h c16
        refine lv_aload_n hx hb dX9_findHeads_19 rfl (lv_at hl 0 rfl) ?_
        refine gX9_one hC hI tw_882 dX9_findHeads_20 ?_
        refine lv_iload_n hx hb dX9_findHeads_23 rfl (lv_at hl 1 rfl) ?_
        have g24 := (gd_at h).1
        replace h := (gd_at h).2
        refine r_iald hC hI aM_20 g24 dX9_findHeads_24 ?_
        refine lv_iload_n hx hb dX9_findHeads_25 rfl (lv_at hl 1 rfl) ?_
        refine lv_icmp_ne (tgt := 57) hx hb dX9_findHeads_26 (by decide) (fun c26 => ?_) (fun c26 => ?_)
        · replace h := if_f h c26
          obtain ⟨x57, e57⟩ : ∃ y : Int32, y = (v1 + (1 : Int32)) := ⟨_, rfl⟩
          replace h := bnd_at h e57
          refine lv_iinc (v := x57) (lv' := [(1, .int x57), (0, .ref (ad 0))]) hx hb dX9_findHeads_57 hl (k := 1) rfl (by rw [e57]; rfl) (by decide) rfl (fun ls hl => ?_)
          refine lv_goto (tgt := 11) hx hb dX9_findHeads_60 (by decide) ?_
          exact ih11  x57 z _ _ _ hI (lv_sub hl [1, 0] rfl) h
        · replace h := if_t h c26
          refine lv_aload_n hx hb dX9_findHeads_29 rfl (lv_at hl 0 rfl) ?_
          refine lv_iload_n hx hb dX9_findHeads_30 rfl (lv_at hl 1 rfl) ?_
          replace h := bp_at h
          obtain ⟨r31, e31, h⟩ := h
          refine r_calli (rest := []) hC hI oM_0 (C := "EqualCourtModel") rfl ywX9_isHole tw_1207 (cX9_isHole_ok  e31) ⟨Nat.le_of_ble_eq_true rfl, Nat.le_of_ble_eq_true rfl⟩ ⟨rfl, rfl⟩ rfl hl.1 rfl (Nat.le_of_ble_eq_true rfl) dX9_findHeads_31 (fun H locs hI => ?_)
          refine lv_if_ne (tgt := 57) hx hb dX9_findHeads_34 (by decide) (fun c34 => ?_) (fun c34 => ?_)
          · replace h := if_f h c34
            obtain ⟨x57, e57⟩ : ∃ y : Int32, y = (v1 + (1 : Int32)) := ⟨_, rfl⟩
            replace h := bnd_at h e57
            refine lv_iinc (v := x57) (lv' := [(1, .int x57), (0, .ref (ad 0))]) hx hb dX9_findHeads_57 hl (k := 1) rfl (by rw [e57]; rfl) (by decide) rfl (fun ls hl => ?_)
            refine lv_goto (tgt := 11) hx hb dX9_findHeads_60 (by decide) ?_
            exact ih11  x57 z _ _ _ hI (lv_sub hl [1, 0] rfl) h
          · replace h := if_t h c34
            refine lv_aload_n hx hb dX9_findHeads_37 rfl (lv_at hl 0 rfl) ?_
            refine gX9_heads hC hI tw_893 dX9_findHeads_38 ?_
            refine lv_aload_n hx hb dX9_findHeads_41 rfl (lv_at hl 0 rfl) ?_
            refine gX9_headMany hC hI tw_894 dX9_findHeads_42 ?_
            refine lv_iload_n hx hb dX9_findHeads_45 rfl (lv_at hl 1 rfl) ?_
            have g46 := (gd_at h).1
            replace h := (gd_at h).2
            refine r_iast hC hI aM_30 g46 dX9_findHeads_46 (fun z46 H locs e46 hI => ?_)
            replace h := bnd_at h e46
            refine lv_aload_n hx hb dX9_findHeads_47 rfl (lv_at hl 0 rfl) ?_
            refine lv_dup hx hb dX9_findHeads_48 rfl ?_
            refine gX9_headMany hC hI tw_894 dX9_findHeads_49 ?_
            refine lv_iconst (v := 1) hx hb dX9_findHeads_52 (by decide) ?_
            refine lv_iadd hx hb dX9_findHeads_53 ?_
            refine pX9_headMany hC hI tw_894 dX9_findHeads_54 (fun z54 H locs e54 hI => ?_)
            replace h := bnd_at h e54
            obtain ⟨x57, e57⟩ : ∃ y : Int32, y = (v1 + (1 : Int32)) := ⟨_, rfl⟩
            replace h := bnd_at h e57
            refine lv_iinc (v := x57) (lv' := [(1, .int x57), (0, .ref (ad 0))]) hx hb dX9_findHeads_57 hl (k := 1) rfl (by rw [e57]; rfl) (by decide) rfl (fun ls hl => ?_)
            refine lv_goto (tgt := 11) hx hb dX9_findHeads_60 (by decide) ?_
            exact ih11  x57 z54 _ _ _ hI (lv_sub hl [1, 0] rfl) h
  exact w11 FU  (0 : Int32) z6 _ _ _ hI (lv_sub hl [1, 0] rfl) h
theorem dX9_goOn_0 : decode cX9_goOn 0 = .ok (.aload_n 0, 1) := by decide +kernel
theorem dX9_goOn_1 : decode cX9_goOn 1 = .ok (.aload_n 0, 1) := by decide +kernel
theorem dX9_goOn_2 : decode cX9_goOn 2 = .ok (.getfield 38, 3) := by decide +kernel
theorem dX9_goOn_5 : decode cX9_goOn 5 = .ok (.iload_n 1, 1) := by decide +kernel
theorem dX9_goOn_6 : decode cX9_goOn 6 = .ok (.iaload, 1) := by decide +kernel
theorem dX9_goOn_7 : decode cX9_goOn 7 = .ok (.invokevirtual 241, 3) := by decide +kernel
theorem dX9_goOn_10 : decode cX9_goOn 10 = .ok (.istore_n 3, 1) := by decide +kernel
theorem dX9_goOn_11 : decode cX9_goOn 11 = .ok (.iload_n 3, 1) := by decide +kernel
theorem dX9_goOn_12 : decode cX9_goOn 12 = .ok (.ifCond .ge 7, 3) := by decide +kernel
theorem dX9_goOn_15 : decode cX9_goOn 15 = .ok (.iconst (-1), 1) := by decide +kernel
theorem dX9_goOn_16 : decode cX9_goOn 16 = .ok (.goto 13, 3) := by decide +kernel
theorem dX9_goOn_19 : decode cX9_goOn 19 = .ok (.aload_n 0, 1) := by decide +kernel
theorem dX9_goOn_20 : decode cX9_goOn 20 = .ok (.aload_n 0, 1) := by decide +kernel
theorem dX9_goOn_21 : decode cX9_goOn 21 = .ok (.getfield 41, 3) := by decide +kernel
theorem dX9_goOn_24 : decode cX9_goOn 24 = .ok (.iload_n 1, 1) := by decide +kernel
theorem dX9_goOn_25 : decode cX9_goOn 25 = .ok (.iaload, 1) := by decide +kernel
theorem dX9_goOn_26 : decode cX9_goOn 26 = .ok (.invokevirtual 241, 3) := by decide +kernel
theorem dX9_goOn_29 : decode cX9_goOn 29 = .ok (.istore 4, 2) := by decide +kernel
theorem dX9_goOn_31 : decode cX9_goOn 31 = .ok (.iload_n 3, 1) := by decide +kernel
theorem dX9_goOn_32 : decode cX9_goOn 32 = .ok (.ifCond .lt 8, 3) := by decide +kernel
theorem dX9_goOn_35 : decode cX9_goOn 35 = .ok (.iload 4, 2) := by decide +kernel
theorem dX9_goOn_37 : decode cX9_goOn 37 = .ok (.ifCond .ge 5, 3) := by decide +kernel
theorem dX9_goOn_40 : decode cX9_goOn 40 = .ok (.iconst 2, 1) := by decide +kernel
theorem dX9_goOn_41 : decode cX9_goOn 41 = .ok (.ireturn, 1) := by decide +kernel
theorem dX9_goOn_42 : decode cX9_goOn 42 = .ok (.aload_n 0, 1) := by decide +kernel
theorem dX9_goOn_43 : decode cX9_goOn 43 = .ok (.iload_n 3, 1) := by decide +kernel
theorem dX9_goOn_44 : decode cX9_goOn 44 = .ok (.iload 4, 2) := by decide +kernel
theorem dX9_goOn_46 : decode cX9_goOn 46 = .ok (.invokevirtual 207, 3) := by decide +kernel
theorem dX9_goOn_49 : decode cX9_goOn 49 = .ok (.ifCond .eq 5, 3) := by decide +kernel
theorem dX9_goOn_52 : decode cX9_goOn 52 = .ok (.iconst 0, 1) := by decide +kernel
theorem dX9_goOn_53 : decode cX9_goOn 53 = .ok (.ireturn, 1) := by decide +kernel
theorem dX9_goOn_54 : decode cX9_goOn 54 = .ok (.aload_n 0, 1) := by decide +kernel
theorem dX9_goOn_55 : decode cX9_goOn 55 = .ok (.getfield 155, 3) := by decide +kernel
theorem dX9_goOn_58 : decode cX9_goOn 58 = .ok (.bipush 100, 2) := by decide +kernel
theorem dX9_goOn_60 : decode cX9_goOn 60 = .ok (.if_icmp .ne 5, 3) := by decide +kernel
theorem dX9_goOn_63 : decode cX9_goOn 63 = .ok (.iconst 3, 1) := by decide +kernel
theorem dX9_goOn_64 : decode cX9_goOn 64 = .ok (.ireturn, 1) := by decide +kernel
theorem dX9_goOn_65 : decode cX9_goOn 65 = .ok (.aload_n 0, 1) := by decide +kernel
theorem dX9_goOn_66 : decode cX9_goOn 66 = .ok (.iload_n 3, 1) := by decide +kernel
theorem dX9_goOn_67 : decode cX9_goOn 67 = .ok (.iload 4, 2) := by decide +kernel
theorem dX9_goOn_69 : decode cX9_goOn 69 = .ok (.iconst 1, 1) := by decide +kernel
theorem dX9_goOn_70 : decode cX9_goOn 70 = .ok (.invokevirtual 196, 3) := by decide +kernel
theorem dX9_goOn_73 : decode cX9_goOn 73 = .ok (.ifCond .eq 5, 3) := by decide +kernel
theorem dX9_goOn_76 : decode cX9_goOn 76 = .ok (.iconst 4, 1) := by decide +kernel
theorem dX9_goOn_77 : decode cX9_goOn 77 = .ok (.ireturn, 1) := by decide +kernel
theorem dX9_goOn_78 : decode cX9_goOn 78 = .ok (.aload_n 0, 1) := by decide +kernel
theorem dX9_goOn_79 : decode cX9_goOn 79 = .ok (.iload_n 3, 1) := by decide +kernel
theorem dX9_goOn_80 : decode cX9_goOn 80 = .ok (.iload 4, 2) := by decide +kernel
theorem dX9_goOn_82 : decode cX9_goOn 82 = .ok (.iconst 1, 1) := by decide +kernel
theorem dX9_goOn_83 : decode cX9_goOn 83 = .ok (.invokevirtual 200, 3) := by decide +kernel
theorem dX9_goOn_86 : decode cX9_goOn 86 = .ok (.istore 5, 2) := by decide +kernel
theorem dX9_goOn_88 : decode cX9_goOn 88 = .ok (.aload_n 0, 1) := by decide +kernel
theorem dX9_goOn_89 : decode cX9_goOn 89 = .ok (.dup, 1) := by decide +kernel
theorem dX9_goOn_90 : decode cX9_goOn 90 = .ok (.getfield 247, 3) := by decide +kernel
theorem dX9_goOn_93 : decode cX9_goOn 93 = .ok (.iconst 1, 1) := by decide +kernel
theorem dX9_goOn_94 : decode cX9_goOn 94 = .ok (.iadd, 1) := by decide +kernel
theorem dX9_goOn_95 : decode cX9_goOn 95 = .ok (.putfield 247, 3) := by decide +kernel
theorem dX9_goOn_98 : decode cX9_goOn 98 = .ok (.aload_n 0, 1) := by decide +kernel
theorem dX9_goOn_99 : decode cX9_goOn 99 = .ok (.getfield 247, 3) := by decide +kernel
theorem dX9_goOn_102 : decode cX9_goOn 102 = .ok (.iload_n 2, 1) := by decide +kernel
theorem dX9_goOn_103 : decode cX9_goOn 103 = .ok (.if_icmp .ne 7, 3) := by decide +kernel
theorem dX9_goOn_106 : decode cX9_goOn 106 = .ok (.iconst 1, 1) := by decide +kernel
theorem dX9_goOn_107 : decode cX9_goOn 107 = .ok (.goto 4, 3) := by decide +kernel
theorem dX9_goOn_110 : decode cX9_goOn 110 = .ok (.iconst 0, 1) := by decide +kernel
theorem dX9_goOn_111 : decode cX9_goOn 111 = .ok (.ireturn, 1) := by decide +kernel
abbrev rmX9_goOn : Room := { frames := 8, cells := 0, slots := 0, locals := 187 }
theorem ywX9_goOn : fY yX9_goOn "EqualCourtModel" cX9_goOn 6 (some .int) 2 := ⟨tw_1229, tp_61, tw_11, tw_1230, by decide +kernel⟩
set_option maxHeartbeats 4000000 in
set_option maxRecDepth 100000 in
theorem cX9_goOn_ok {D : va_G} {ad : Nat → Nat} {cy cz : ClassId} {l : Launch} {z : fS} {v1 : Int32} {v2 : Int32} {r : Int32} {τ : fS} (h : fX9_goOn z v1 v2 = some (r, τ)) : fMi D 31 ad (cfM ad cy cz) cy cz l yX9_goOn cX9_goOn 6 (some .int) rmX9_goOn [.ref (ad 0), .int v1, .int v2] z r τ := by
  refine f_bodyi (by decide) (Nat.le_of_ble_eq_true rfl) (fun p e s m args below meth c Q hC hret ls hl hI => ?_)
  have hx := hC.1
  have hb := hC.2.1
  have hl : lv_has ls 6 [(0, .ref (ad 0)), (1, .int v1), (2, .int v2)] := hl
  unfold fX9_goOn at h
  have w29 : ∀ (v2 : Int32) (v3 : Int32) (y0 : Int32) (z : fS) (H : Heap) (locs : List Loc) (ls : Array Slot), fI D 31 ad (cfM ad cy cz) z s H locs → lv_has ls 6 [(0, .ref (ad 0)), (2, .int v2), (3, .int v3)] → jX9_goOn_29   v2 v3 y0 z = some (r, τ) → W p l e rmX9_goOn s m args below meth c H locs 0 0 Q (F0 m 29 ls [.int y0]) := by
    intro v2 v3 y0 z H locs ls hI hl h
    unfold jX9_goOn_29 at h
    refine lv_istore (lv' := [(4, .int y0), (0, .ref (ad 0)), (2, .int v2), (3, .int v3)]) hx hb dX9_goOn_29 hl (by decide) rfl (fun ls hl => ?_)
    refine lv_iload_n hx hb dX9_goOn_31 rfl (lv_at hl 3 rfl) ?_
    refine lv_if_lt (tgt := 40) hx hb dX9_goOn_32 (by decide) (fun c32 => ?_) (fun c32 => ?_)
    · replace h := if_t h c32
      refine lv_iconst (v := 2) hx hb dX9_goOn_40 (by decide) ?_
      exact hret h dX9_goOn_41 hI
    · replace h := if_f h c32
      refine lv_iload hx hb dX9_goOn_35 (lv_at hl 0 rfl) ?_
      refine lv_if_ge (tgt := 42) hx hb dX9_goOn_37 (by decide) (fun c37 => ?_) (fun c37 => ?_)
      · replace h := if_t h c37
        refine lv_aload_n hx hb dX9_goOn_42 rfl (lv_at hl 1 rfl) ?_
        refine lv_iload_n hx hb dX9_goOn_43 rfl (lv_at hl 3 rfl) ?_
        refine lv_iload hx hb dX9_goOn_44 (lv_at hl 0 rfl) ?_
        replace h := bd_at h
        obtain ⟨r46, z46, e46, h⟩ := h
        refine r_calli (rest := []) hC hI oM_0 (C := "EqualCourtModel") rfl ywX9_areOne tw_1129 (cX9_areOne_ok  e46) ⟨Nat.le_of_ble_eq_true rfl, Nat.le_of_ble_eq_true rfl⟩ ⟨rfl, rfl⟩ rfl hl.1 rfl (Nat.le_of_ble_eq_true rfl) dX9_goOn_46 (fun H locs hI => ?_)
        refine lv_if_eq (tgt := 54) hx hb dX9_goOn_49 (by decide) (fun c49 => ?_) (fun c49 => ?_)
        · replace h := if_t h c49
          refine lv_aload_n hx hb dX9_goOn_54 rfl (lv_at hl 1 rfl) ?_
          refine gX9_sayings hC hI tw_863 dX9_goOn_55 ?_
          refine lv_bipush (v := 100) hx hb dX9_goOn_58 (by decide) ?_
          refine lv_icmp_ne (tgt := 65) hx hb dX9_goOn_60 (by decide) (fun c60 => ?_) (fun c60 => ?_)
          · replace h := if_f h c60
            refine lv_aload_n hx hb dX9_goOn_65 rfl (lv_at hl 1 rfl) ?_
            refine lv_iload_n hx hb dX9_goOn_66 rfl (lv_at hl 3 rfl) ?_
            refine lv_iload hx hb dX9_goOn_67 (lv_at hl 0 rfl) ?_
            refine lv_iconst (v := 1) hx hb dX9_goOn_69 (by decide) ?_
            replace h := bd_at h
            obtain ⟨r70, z70, e70, h⟩ := h
            refine r_calli (rest := []) hC hI oM_0 (C := "EqualCourtModel") rfl ywX9_wouldClash tw_1085 (cX9_wouldClash_ok  e70) ⟨Nat.le_of_ble_eq_true rfl, Nat.le_of_ble_eq_true rfl⟩ ⟨rfl, rfl⟩ rfl hl.1 rfl (Nat.le_of_ble_eq_true rfl) dX9_goOn_70 (fun H locs hI => ?_)
            refine lv_if_eq (tgt := 78) hx hb dX9_goOn_73 (by decide) (fun c73 => ?_) (fun c73 => ?_)
            · replace h := if_t h c73
              refine lv_aload_n hx hb dX9_goOn_78 rfl (lv_at hl 1 rfl) ?_
              refine lv_iload_n hx hb dX9_goOn_79 rfl (lv_at hl 3 rfl) ?_
              refine lv_iload hx hb dX9_goOn_80 (lv_at hl 0 rfl) ?_
              refine lv_iconst (v := 1) hx hb dX9_goOn_82 (by decide) ?_
              replace h := bd_at h
              obtain ⟨r83, z83, e83, h⟩ := h
              refine r_calli (rest := []) hC hI oM_0 (C := "EqualCourtModel") rfl ywX9_take tw_1105 (cX9_take_ok  e83) ⟨Nat.le_of_ble_eq_true rfl, Nat.le_of_ble_eq_true rfl⟩ ⟨rfl, rfl⟩ rfl hl.1 rfl (Nat.le_of_ble_eq_true rfl) dX9_goOn_83 (fun H locs hI => ?_)
              refine lv_istore (lv' := [(5, .int r83), (4, .int y0), (0, .ref (ad 0)), (2, .int v2), (3, .int v3)]) hx hb dX9_goOn_86 hl (by decide) rfl (fun ls hl => ?_)
              refine lv_aload_n hx hb dX9_goOn_88 rfl (lv_at hl 2 rfl) ?_
              refine lv_dup hx hb dX9_goOn_89 rfl ?_
              refine gX9_came hC hI tw_895 dX9_goOn_90 ?_
              refine lv_iconst (v := 1) hx hb dX9_goOn_93 (by decide) ?_
              refine lv_iadd hx hb dX9_goOn_94 ?_
              refine pX9_came hC hI tw_895 dX9_goOn_95 (fun z95 H locs e95 hI => ?_)
              replace h := bnd_at h e95
              refine lv_aload_n hx hb dX9_goOn_98 rfl (lv_at hl 2 rfl) ?_
              refine gX9_came hC hI tw_895 dX9_goOn_99 ?_
              refine lv_iload_n hx hb dX9_goOn_102 rfl (lv_at hl 3 rfl) ?_
              refine lv_icmp_ne (tgt := 110) hx hb dX9_goOn_103 (by decide) (fun c103 => ?_) (fun c103 => ?_)
              · replace h := if_f h c103
                refine lv_iconst (v := 0) hx hb dX9_goOn_110 (by decide) ?_
                exact hret h dX9_goOn_111 hI
              · replace h := if_t h c103
                refine lv_iconst (v := 1) hx hb dX9_goOn_106 (by decide) ?_
                refine lv_goto (tgt := 111) hx hb dX9_goOn_107 (by decide) ?_
                exact hret h dX9_goOn_111 hI
            · replace h := if_f h c73
              refine lv_iconst (v := 4) hx hb dX9_goOn_76 (by decide) ?_
              exact hret h dX9_goOn_77 hI
          · replace h := if_t h c60
            refine lv_iconst (v := 3) hx hb dX9_goOn_63 (by decide) ?_
            exact hret h dX9_goOn_64 hI
        · replace h := if_f h c49
          refine lv_iconst (v := 0) hx hb dX9_goOn_52 (by decide) ?_
          exact hret h dX9_goOn_53 hI
      · replace h := if_f h c37
        refine lv_iconst (v := 2) hx hb dX9_goOn_40 (by decide) ?_
        exact hret h dX9_goOn_41 hI
  refine lv_aload_n hx hb dX9_goOn_0 rfl (lv_at hl 0 rfl) ?_
  refine lv_aload_n hx hb dX9_goOn_1 rfl (lv_at hl 0 rfl) ?_
  refine gX9_lawA hC hI tw_866 dX9_goOn_2 ?_
  refine lv_iload_n hx hb dX9_goOn_5 rfl (lv_at hl 1 rfl) ?_
  have g6 := (gd_at h).1
  replace h := (gd_at h).2
  refine r_iald hC hI aM_10 g6 dX9_goOn_6 ?_
  replace h := bd_at h
  obtain ⟨r7, z7, e7, h⟩ := h
  refine r_calli (rest := []) hC hI oM_0 (C := "EqualCourtModel") rfl ywX9_instanceOf tw_1199 (cX9_instanceOf_ok  e7) ⟨Nat.le_of_ble_eq_true rfl, Nat.le_of_ble_eq_true rfl⟩ ⟨rfl, rfl⟩ rfl hl.1 rfl (Nat.le_of_ble_eq_true rfl) dX9_goOn_7 (fun H locs hI => ?_)
  refine lv_istore_n (lv' := [(3, .int r7), (0, .ref (ad 0)), (1, .int v1), (2, .int v2)]) hx hb dX9_goOn_10 rfl hl (by decide) rfl (fun ls hl => ?_)
  refine lv_iload_n hx hb dX9_goOn_11 rfl (lv_at hl 0 rfl) ?_
  refine lv_if_ge (tgt := 19) hx hb dX9_goOn_12 (by decide) (fun c12 => ?_) (fun c12 => ?_)
  · replace h := if_t h c12
    refine lv_aload_n hx hb dX9_goOn_19 rfl (lv_at hl 1 rfl) ?_
    refine lv_aload_n hx hb dX9_goOn_20 rfl (lv_at hl 1 rfl) ?_
    refine gX9_lawB hC hI tw_867 dX9_goOn_21 ?_
    refine lv_iload_n hx hb dX9_goOn_24 rfl (lv_at hl 2 rfl) ?_
    have g25 := (gd_at h).1
    replace h := (gd_at h).2
    refine r_iald hC hI aM_11 g25 dX9_goOn_25 ?_
    replace h := bd_at h
    obtain ⟨r26, z26, e26, h⟩ := h
    refine r_calli (rest := []) hC hI oM_0 (C := "EqualCourtModel") rfl ywX9_instanceOf tw_1199 (cX9_instanceOf_ok  e26) ⟨Nat.le_of_ble_eq_true rfl, Nat.le_of_ble_eq_true rfl⟩ ⟨rfl, rfl⟩ rfl hl.1 rfl (Nat.le_of_ble_eq_true rfl) dX9_goOn_26 (fun H locs hI => ?_)
    exact w29 v2 r7 r26 z26 _ _ _ hI (lv_sub hl [1, 3, 0] rfl) h
  · replace h := if_f h c12
    refine lv_iconst (v := -1) hx hb dX9_goOn_15 (by decide) ?_
    refine lv_goto (tgt := 29) hx hb dX9_goOn_16 (by decide) ?_
    exact w29 v2 r7 (-1 : Int32) z7 _ _ _ hI (lv_sub hl [1, 3, 0] rfl) h
theorem dX9_followAll_0 : decode cX9_followAll 0 = .ok (.aload_n 0, 1) := by decide +kernel
theorem dX9_followAll_1 : decode cX9_followAll 1 = .ok (.getfield 96, 3) := by decide +kernel
theorem dX9_followAll_4 : decode cX9_followAll 4 = .ok (.iconst 0, 1) := by decide +kernel
theorem dX9_followAll_5 : decode cX9_followAll 5 = .ok (.baload, 1) := by decide +kernel
theorem dX9_followAll_6 : decode cX9_followAll 6 = .ok (.ifCond .eq 10, 3) := by decide +kernel
theorem dX9_followAll_9 : decode cX9_followAll 9 = .ok (.aload_n 0, 1) := by decide +kernel
theorem dX9_followAll_10 : decode cX9_followAll 10 = .ok (.getfield 244, 3) := by decide +kernel
theorem dX9_followAll_13 : decode cX9_followAll 13 = .ok (.goto 4, 3) := by decide +kernel
theorem dX9_followAll_16 : decode cX9_followAll 16 = .ok (.iconst 1, 1) := by decide +kernel
theorem dX9_followAll_17 : decode cX9_followAll 17 = .ok (.istore_n 3, 1) := by decide +kernel
theorem dX9_followAll_18 : decode cX9_followAll 18 = .ok (.aload_n 0, 1) := by decide +kernel
theorem dX9_followAll_19 : decode cX9_followAll 19 = .ok (.getfield 96, 3) := by decide +kernel
theorem dX9_followAll_22 : decode cX9_followAll 22 = .ok (.iconst 1, 1) := by decide +kernel
theorem dX9_followAll_23 : decode cX9_followAll 23 = .ok (.baload, 1) := by decide +kernel
theorem dX9_followAll_24 : decode cX9_followAll 24 = .ok (.ifCond .eq 10, 3) := by decide +kernel
theorem dX9_followAll_27 : decode cX9_followAll 27 = .ok (.aload_n 0, 1) := by decide +kernel
theorem dX9_followAll_28 : decode cX9_followAll 28 = .ok (.getfield 244, 3) := by decide +kernel
theorem dX9_followAll_31 : decode cX9_followAll 31 = .ok (.goto 4, 3) := by decide +kernel
theorem dX9_followAll_34 : decode cX9_followAll 34 = .ok (.iconst 1, 1) := by decide +kernel
theorem dX9_followAll_35 : decode cX9_followAll 35 = .ok (.istore 4, 2) := by decide +kernel
theorem dX9_followAll_37 : decode cX9_followAll 37 = .ok (.aload_n 0, 1) := by decide +kernel
theorem dX9_followAll_38 : decode cX9_followAll 38 = .ok (.getfield 96, 3) := by decide +kernel
theorem dX9_followAll_41 : decode cX9_followAll 41 = .ok (.iconst 2, 1) := by decide +kernel
theorem dX9_followAll_42 : decode cX9_followAll 42 = .ok (.baload, 1) := by decide +kernel
theorem dX9_followAll_43 : decode cX9_followAll 43 = .ok (.ifCond .eq 10, 3) := by decide +kernel
theorem dX9_followAll_46 : decode cX9_followAll 46 = .ok (.aload_n 0, 1) := by decide +kernel
theorem dX9_followAll_47 : decode cX9_followAll 47 = .ok (.getfield 244, 3) := by decide +kernel
theorem dX9_followAll_50 : decode cX9_followAll 50 = .ok (.goto 4, 3) := by decide +kernel
theorem dX9_followAll_53 : decode cX9_followAll 53 = .ok (.iconst 1, 1) := by decide +kernel
theorem dX9_followAll_54 : decode cX9_followAll 54 = .ok (.istore 5, 2) := by decide +kernel
theorem dX9_followAll_56 : decode cX9_followAll 56 = .ok (.iconst 0, 1) := by decide +kernel
theorem dX9_followAll_57 : decode cX9_followAll 57 = .ok (.istore 6, 2) := by decide +kernel
theorem dX9_followAll_59 : decode cX9_followAll 59 = .ok (.iload 6, 2) := by decide +kernel
theorem dX9_followAll_61 : decode cX9_followAll 61 = .ok (.iload_n 3, 1) := by decide +kernel
theorem dX9_followAll_62 : decode cX9_followAll 62 = .ok (.if_icmp .ge 96, 3) := by decide +kernel
theorem dX9_followAll_65 : decode cX9_followAll 65 = .ok (.iconst 0, 1) := by decide +kernel
theorem dX9_followAll_66 : decode cX9_followAll 66 = .ok (.istore 7, 2) := by decide +kernel
theorem dX9_followAll_68 : decode cX9_followAll 68 = .ok (.iload 7, 2) := by decide +kernel
theorem dX9_followAll_70 : decode cX9_followAll 70 = .ok (.iload 4, 2) := by decide +kernel
theorem dX9_followAll_72 : decode cX9_followAll 72 = .ok (.if_icmp .ge 80, 3) := by decide +kernel
theorem dX9_followAll_75 : decode cX9_followAll 75 = .ok (.iconst 0, 1) := by decide +kernel
theorem dX9_followAll_76 : decode cX9_followAll 76 = .ok (.istore 8, 2) := by decide +kernel
theorem dX9_followAll_78 : decode cX9_followAll 78 = .ok (.iload 8, 2) := by decide +kernel
theorem dX9_followAll_80 : decode cX9_followAll 80 = .ok (.iload 5, 2) := by decide +kernel
theorem dX9_followAll_82 : decode cX9_followAll 82 = .ok (.if_icmp .ge 64, 3) := by decide +kernel
theorem dX9_followAll_85 : decode cX9_followAll 85 = .ok (.aload_n 0, 1) := by decide +kernel
theorem dX9_followAll_86 : decode cX9_followAll 86 = .ok (.getfield 84, 3) := by decide +kernel
theorem dX9_followAll_89 : decode cX9_followAll 89 = .ok (.iconst 0, 1) := by decide +kernel
theorem dX9_followAll_90 : decode cX9_followAll 90 = .ok (.aload_n 0, 1) := by decide +kernel
theorem dX9_followAll_91 : decode cX9_followAll 91 = .ok (.getfield 102, 3) := by decide +kernel
theorem dX9_followAll_94 : decode cX9_followAll 94 = .ok (.iload 6, 2) := by decide +kernel
theorem dX9_followAll_96 : decode cX9_followAll 96 = .ok (.iaload, 1) := by decide +kernel
theorem dX9_followAll_97 : decode cX9_followAll 97 = .ok (.iastore, 1) := by decide +kernel
theorem dX9_followAll_98 : decode cX9_followAll 98 = .ok (.aload_n 0, 1) := by decide +kernel
theorem dX9_followAll_99 : decode cX9_followAll 99 = .ok (.getfield 84, 3) := by decide +kernel
theorem dX9_followAll_102 : decode cX9_followAll 102 = .ok (.iconst 1, 1) := by decide +kernel
theorem dX9_followAll_103 : decode cX9_followAll 103 = .ok (.aload_n 0, 1) := by decide +kernel
theorem dX9_followAll_104 : decode cX9_followAll 104 = .ok (.getfield 102, 3) := by decide +kernel
theorem dX9_followAll_107 : decode cX9_followAll 107 = .ok (.iload 7, 2) := by decide +kernel
theorem dX9_followAll_109 : decode cX9_followAll 109 = .ok (.iaload, 1) := by decide +kernel
theorem dX9_followAll_110 : decode cX9_followAll 110 = .ok (.iastore, 1) := by decide +kernel
theorem dX9_followAll_111 : decode cX9_followAll 111 = .ok (.aload_n 0, 1) := by decide +kernel
theorem dX9_followAll_112 : decode cX9_followAll 112 = .ok (.getfield 84, 3) := by decide +kernel
theorem dX9_followAll_115 : decode cX9_followAll 115 = .ok (.iconst 2, 1) := by decide +kernel
theorem dX9_followAll_116 : decode cX9_followAll 116 = .ok (.aload_n 0, 1) := by decide +kernel
theorem dX9_followAll_117 : decode cX9_followAll 117 = .ok (.getfield 102, 3) := by decide +kernel
theorem dX9_followAll_120 : decode cX9_followAll 120 = .ok (.iload 8, 2) := by decide +kernel
theorem dX9_followAll_122 : decode cX9_followAll 122 = .ok (.iaload, 1) := by decide +kernel
theorem dX9_followAll_123 : decode cX9_followAll 123 = .ok (.iastore, 1) := by decide +kernel
theorem dX9_followAll_124 : decode cX9_followAll 124 = .ok (.aload_n 0, 1) := by decide +kernel
theorem dX9_followAll_125 : decode cX9_followAll 125 = .ok (.iload_n 1, 1) := by decide +kernel
theorem dX9_followAll_126 : decode cX9_followAll 126 = .ok (.iload_n 2, 1) := by decide +kernel
theorem dX9_followAll_127 : decode cX9_followAll 127 = .ok (.invokevirtual 250, 3) := by decide +kernel
theorem dX9_followAll_130 : decode cX9_followAll 130 = .ok (.istore 9, 2) := by decide +kernel
theorem dX9_followAll_132 : decode cX9_followAll 132 = .ok (.iload 9, 2) := by decide +kernel
theorem dX9_followAll_134 : decode cX9_followAll 134 = .ok (.ifCond .eq 6, 3) := by decide +kernel
theorem dX9_followAll_137 : decode cX9_followAll 137 = .ok (.iload 9, 2) := by decide +kernel
theorem dX9_followAll_139 : decode cX9_followAll 139 = .ok (.ireturn, 1) := by decide +kernel
theorem dX9_followAll_140 : decode cX9_followAll 140 = .ok (.iinc 8 1, 3) := by decide +kernel
theorem dX9_followAll_143 : decode cX9_followAll 143 = .ok (.goto (-65), 3) := by decide +kernel
theorem dX9_followAll_146 : decode cX9_followAll 146 = .ok (.iinc 7 1, 3) := by decide +kernel
theorem dX9_followAll_149 : decode cX9_followAll 149 = .ok (.goto (-81), 3) := by decide +kernel
theorem dX9_followAll_152 : decode cX9_followAll 152 = .ok (.iinc 6 1, 3) := by decide +kernel
theorem dX9_followAll_155 : decode cX9_followAll 155 = .ok (.goto (-96), 3) := by decide +kernel
theorem dX9_followAll_158 : decode cX9_followAll 158 = .ok (.iconst 0, 1) := by decide +kernel
theorem dX9_followAll_159 : decode cX9_followAll 159 = .ok (.ireturn, 1) := by decide +kernel
abbrev rmX9_followAll : Room := { frames := 9, cells := 0, slots := 0, locals := 212 }
theorem ywX9_followAll : fY yX9_followAll "EqualCourtModel" cX9_followAll 10 (some .int) 2 := ⟨tw_1225, tp_60, tw_11, tw_1226, by decide +kernel⟩
set_option maxHeartbeats 4000000 in
set_option maxRecDepth 100000 in
theorem cX9_followAll_ok {D : va_G} {ad : Nat → Nat} {cy cz : ClassId} {l : Launch} {z : fS} {v1 : Int32} {v2 : Int32} {r : Int32} {τ : fS} (h : fX9_followAll z v1 v2 = some (r, τ)) : fMi D 31 ad (cfM ad cy cz) cy cz l yX9_followAll cX9_followAll 10 (some .int) rmX9_followAll [.ref (ad 0), .int v1, .int v2] z r τ := by
  refine f_bodyi (by decide) (Nat.le_of_ble_eq_true rfl) (fun p e s m args below meth c Q hC hret ls hl hI => ?_)
  have hx := hC.1
  have hb := hC.2.1
  have hl : lv_has ls 10 [(0, .ref (ad 0)), (1, .int v1), (2, .int v2)] := hl
  unfold fX9_followAll at h
  have w54 : ∀ (v1 : Int32) (v2 : Int32) (v3 : Int32) (v4 : Int32) (y0 : Int32) (z : fS) (H : Heap) (locs : List Loc) (ls : Array Slot), fI D 31 ad (cfM ad cy cz) z s H locs → lv_has ls 10 [(0, .ref (ad 0)), (1, .int v1), (2, .int v2), (3, .int v3), (4, .int v4)] → jX9_followAll_54   v1 v2 v3 v4 y0 z = some (r, τ) → W p l e rmX9_followAll s m args below meth c H locs 0 0 Q (F0 m 54 ls [.int y0]) := by
    intro v1 v2 v3 v4 y0 z H locs ls hI hl h
    unfold jX9_followAll_54 at h
    refine lv_istore (lv' := [(5, .int y0), (0, .ref (ad 0)), (1, .int v1), (2, .int v2), (3, .int v3), (4, .int v4)]) hx hb dX9_followAll_54 hl (by decide) rfl (fun ls hl => ?_)
    refine lv_iconst (v := 0) hx hb dX9_followAll_56 (by decide) ?_
    refine lv_istore (lv' := [(6, .int (0 : Int32)), (5, .int y0), (0, .ref (ad 0)), (1, .int v1), (2, .int v2), (3, .int v3), (4, .int v4)]) hx hb dX9_followAll_57 hl (by decide) rfl (fun ls hl => ?_)
    have w59 : ∀ (N59 : Nat) (v1 : Int32) (v2 : Int32) (v3 : Int32) (v4 : Int32) (v5 : Int32) (v6 : Int32) (z : fS) (H : Heap) (locs : List Loc) (ls : Array Slot), fI D 31 ad (cfM ad cy cz) z s H locs → lv_has ls 10 [(0, .ref (ad 0)), (1, .int v1), (2, .int v2), (3, .int v3), (4, .int v4), (5, .int v5), (6, .int v6)] → lX9_followAll_59   v1 v2 v3 v4 v5 N59 v6 z = some (r, τ) → W p l e rmX9_followAll s m args below meth c H locs 0 0 Q (F0 m 59 ls []) := by
      intro N59
      induction N59 with
      | zero =>
        intro v1 v2 v3 v4 v5 v6 z H locs ls hI hl h
        exact none_no h
      | succ N59 ih59 =>
        have w152 : ∀ (v1 : Int32) (v2 : Int32) (v3 : Int32) (v4 : Int32) (v5 : Int32) (v6 : Int32) (z : fS) (H : Heap) (locs : List Loc) (ls : Array Slot), fI D 31 ad (cfM ad cy cz) z s H locs → lv_has ls 10 [(0, .ref (ad 0)), (1, .int v1), (2, .int v2), (3, .int v3), (4, .int v4), (5, .int v5), (6, .int v6)] → jX9_followAll_152  (lX9_followAll_59   v1 v2 v3 v4 v5 N59) v1 v2 v3 v4 v5 v6 z = some (r, τ) → W p l e rmX9_followAll s m args below meth c H locs 0 0 Q (F0 m 152 ls []) := by
          intro v1 v2 v3 v4 v5 v6 z H locs ls hI hl h
          unfold jX9_followAll_152 at h
          obtain ⟨x152, e152⟩ : ∃ y : Int32, y = (v6 + (1 : Int32)) := ⟨_, rfl⟩
          replace h := bnd_at h e152
          refine lv_iinc (v := x152) (lv' := [(6, .int x152), (0, .ref (ad 0)), (1, .int v1), (2, .int v2), (3, .int v3), (4, .int v4), (5, .int v5)]) hx hb dX9_followAll_152 hl (k := 6) rfl (by rw [e152]; rfl) (by decide) rfl (fun ls hl => ?_)
          refine lv_goto (tgt := 59) hx hb dX9_followAll_155 (by decide) ?_
          exact ih59 v1 v2 v3 v4 v5 x152 z _ _ _ hI (lv_sub hl [1, 2, 3, 4, 5, 6, 0] rfl) h
        intro v1 v2 v3 v4 v5 v6 z H locs ls hI hl h
        rw [lX9_followAll_59.eq_2] at h
        refine lv_iload hx hb dX9_followAll_59 (lv_at hl 6 rfl) ?_
        refine lv_iload_n hx hb dX9_followAll_61 rfl (lv_at hl 3 rfl) ?_
        refine lv_icmp_ge (tgt := 158) hx hb dX9_followAll_62 (by decide) (fun c62 => ?_) (fun c62 => ?_)
        · replace h := if_t h c62
          refine lv_iconst (v := 0) hx hb dX9_followAll_158 (by decide) ?_
          exact hret h dX9_followAll_159 hI
        · replace h := if_f h c62
          refine lv_iconst (v := 0) hx hb dX9_followAll_65 (by decide) ?_
          refine lv_istore (lv' := [(7, .int (0 : Int32)), (0, .ref (ad 0)), (1, .int v1), (2, .int v2), (3, .int v3), (4, .int v4), (5, .int v5), (6, .int v6)]) hx hb dX9_followAll_66 hl (by decide) rfl (fun ls hl => ?_)
          have w68 : ∀ (N68 : Nat) (v1 : Int32) (v2 : Int32) (v3 : Int32) (v4 : Int32) (v5 : Int32) (v6 : Int32) (v7 : Int32) (z : fS) (H : Heap) (locs : List Loc) (ls : Array Slot), fI D 31 ad (cfM ad cy cz) z s H locs → lv_has ls 10 [(0, .ref (ad 0)), (1, .int v1), (2, .int v2), (3, .int v3), (4, .int v4), (5, .int v5), (6, .int v6), (7, .int v7)] → lX9_followAll_68  (jX9_followAll_152  (lX9_followAll_59   v1 v2 v3 v4 v5 N59) v1 v2 v3 v4 v5 v6) v1 v2 v3 v4 v5 v6 N68 v7 z = some (r, τ) → W p l e rmX9_followAll s m args below meth c H locs 0 0 Q (F0 m 68 ls []) := by
            intro N68
            induction N68 with
            | zero =>
              intro v1 v2 v3 v4 v5 v6 v7 z H locs ls hI hl h
              exact none_no h
            | succ N68 ih68 =>
              have w146 : ∀ (v1 : Int32) (v2 : Int32) (v3 : Int32) (v4 : Int32) (v5 : Int32) (v6 : Int32) (v7 : Int32) (z : fS) (H : Heap) (locs : List Loc) (ls : Array Slot), fI D 31 ad (cfM ad cy cz) z s H locs → lv_has ls 10 [(0, .ref (ad 0)), (1, .int v1), (2, .int v2), (3, .int v3), (4, .int v4), (5, .int v5), (6, .int v6), (7, .int v7)] → jX9_followAll_146  (lX9_followAll_68  (jX9_followAll_152  (lX9_followAll_59   v1 v2 v3 v4 v5 N59) v1 v2 v3 v4 v5 v6) v1 v2 v3 v4 v5 v6 N68) (jX9_followAll_152  (lX9_followAll_59   v1 v2 v3 v4 v5 N59) v1 v2 v3 v4 v5 v6) v1 v2 v3 v4 v5 v6 v7 z = some (r, τ) → W p l e rmX9_followAll s m args below meth c H locs 0 0 Q (F0 m 146 ls []) := by
                intro v1 v2 v3 v4 v5 v6 v7 z H locs ls hI hl h
                unfold jX9_followAll_146 at h
                obtain ⟨x146, e146⟩ : ∃ y : Int32, y = (v7 + (1 : Int32)) := ⟨_, rfl⟩
                replace h := bnd_at h e146
                refine lv_iinc (v := x146) (lv' := [(7, .int x146), (0, .ref (ad 0)), (1, .int v1), (2, .int v2), (3, .int v3), (4, .int v4), (5, .int v5), (6, .int v6)]) hx hb dX9_followAll_146 hl (k := 7) rfl (by rw [e146]; rfl) (by decide) rfl (fun ls hl => ?_)
                refine lv_goto (tgt := 68) hx hb dX9_followAll_149 (by decide) ?_
                exact ih68 v1 v2 v3 v4 v5 v6 x146 z _ _ _ hI (lv_sub hl [1, 2, 3, 4, 5, 6, 7, 0] rfl) h
              intro v1 v2 v3 v4 v5 v6 v7 z H locs ls hI hl h
              rw [lX9_followAll_68.eq_2] at h
              refine lv_iload hx hb dX9_followAll_68 (lv_at hl 7 rfl) ?_
              refine lv_iload hx hb dX9_followAll_70 (lv_at hl 4 rfl) ?_
              refine lv_icmp_ge (tgt := 152) hx hb dX9_followAll_72 (by decide) (fun c72 => ?_) (fun c72 => ?_)
              · replace h := if_t h c72
                exact w152 v1 v2 v3 v4 v5 v6 z _ _ _ hI (lv_sub hl [0, 1, 2, 3, 4, 5, 6] rfl) h
              · replace h := if_f h c72
                refine lv_iconst (v := 0) hx hb dX9_followAll_75 (by decide) ?_
                refine lv_istore (lv' := [(8, .int (0 : Int32)), (0, .ref (ad 0)), (1, .int v1), (2, .int v2), (3, .int v3), (4, .int v4), (5, .int v5), (6, .int v6), (7, .int v7)]) hx hb dX9_followAll_76 hl (by decide) rfl (fun ls hl => ?_)
                have w78 : ∀ (N78 : Nat) (v1 : Int32) (v2 : Int32) (v3 : Int32) (v4 : Int32) (v5 : Int32) (v6 : Int32) (v7 : Int32) (v8 : Int32) (z : fS) (H : Heap) (locs : List Loc) (ls : Array Slot), fI D 31 ad (cfM ad cy cz) z s H locs → lv_has ls 10 [(0, .ref (ad 0)), (1, .int v1), (2, .int v2), (3, .int v3), (4, .int v4), (5, .int v5), (6, .int v6), (7, .int v7), (8, .int v8)] → lX9_followAll_78  (jX9_followAll_146  (lX9_followAll_68  (jX9_followAll_152  (lX9_followAll_59   v1 v2 v3 v4 v5 N59) v1 v2 v3 v4 v5 v6) v1 v2 v3 v4 v5 v6 N68) (jX9_followAll_152  (lX9_followAll_59   v1 v2 v3 v4 v5 N59) v1 v2 v3 v4 v5 v6) v1 v2 v3 v4 v5 v6 v7) v1 v2 v3 v4 v5 v6 v7 N78 v8 z = some (r, τ) → W p l e rmX9_followAll s m args below meth c H locs 0 0 Q (F0 m 78 ls []) := by
                  intro N78
                  induction N78 with
                  | zero =>
                    intro v1 v2 v3 v4 v5 v6 v7 v8 z H locs ls hI hl h
                    exact none_no h
                  | succ N78 ih78 =>
                    intro v1 v2 v3 v4 v5 v6 v7 v8 z H locs ls hI hl h
                    rw [lX9_followAll_78.eq_2] at h
                    refine lv_iload hx hb dX9_followAll_78 (lv_at hl 8 rfl) ?_
                    refine lv_iload hx hb dX9_followAll_80 (lv_at hl 5 rfl) ?_
                    refine lv_icmp_ge (tgt := 146) hx hb dX9_followAll_82 (by decide) (fun c82 => ?_) (fun c82 => ?_)
                    · replace h := if_t h c82
                      exact w146 v1 v2 v3 v4 v5 v6 v7 z _ _ _ hI (lv_sub hl [0, 1, 2, 3, 4, 5, 6, 7] rfl) h
                    · replace h := if_f h c82
                      refine lv_aload_n hx hb dX9_followAll_85 rfl (lv_at hl 0 rfl) ?_
                      refine gX9_hole hC hI tw_887 dX9_followAll_86 ?_
                      refine lv_iconst (v := 0) hx hb dX9_followAll_89 (by decide) ?_
                      refine lv_aload_n hx hb dX9_followAll_90 rfl (lv_at hl 0 rfl) ?_
                      refine gX9_heads hC hI tw_893 dX9_followAll_91 ?_
                      refine lv_iload hx hb dX9_followAll_94 (lv_at hl 6 rfl) ?_
                      have g96 := (gd_at h).1
                      replace h := (gd_at h).2
                      refine r_iald hC hI aM_30 g96 dX9_followAll_96 ?_
                      have g97 := (gd_at h).1
                      replace h := (gd_at h).2
                      refine r_iast hC hI aM_24 g97 dX9_followAll_97 (fun z97 H locs e97 hI => ?_)
                      replace h := bnd_at h e97
                      refine lv_aload_n hx hb dX9_followAll_98 rfl (lv_at hl 0 rfl) ?_
                      refine gX9_hole hC hI tw_887 dX9_followAll_99 ?_
                      refine lv_iconst (v := 1) hx hb dX9_followAll_102 (by decide) ?_
                      refine lv_aload_n hx hb dX9_followAll_103 rfl (lv_at hl 0 rfl) ?_
                      refine gX9_heads hC hI tw_893 dX9_followAll_104 ?_
                      refine lv_iload hx hb dX9_followAll_107 (lv_at hl 7 rfl) ?_
                      have g109 := (gd_at h).1
                      replace h := (gd_at h).2
                      refine r_iald hC hI aM_30 g109 dX9_followAll_109 ?_
                      have g110 := (gd_at h).1
                      replace h := (gd_at h).2
                      refine r_iast hC hI aM_24 g110 dX9_followAll_110 (fun z110 H locs e110 hI => ?_)
                      replace h := bnd_at h e110
                      refine lv_aload_n hx hb dX9_followAll_111 rfl (lv_at hl 0 rfl) ?_
                      refine gX9_hole hC hI tw_887 dX9_followAll_112 ?_
                      refine lv_iconst (v := 2) hx hb dX9_followAll_115 (by decide) ?_
                      refine lv_aload_n hx hb dX9_followAll_116 rfl (lv_at hl 0 rfl) ?_
                      refine gX9_heads hC hI tw_893 dX9_followAll_117 ?_
                      refine lv_iload hx hb dX9_followAll_120 (lv_at hl 8 rfl) ?_
                      have g122 := (gd_at h).1
                      replace h := (gd_at h).2
                      refine r_iald hC hI aM_30 g122 dX9_followAll_122 ?_
                      have g123 := (gd_at h).1
                      replace h := (gd_at h).2
                      refine r_iast hC hI aM_24 g123 dX9_followAll_123 (fun z123 H locs e123 hI => ?_)
                      replace h := bnd_at h e123
                      refine lv_aload_n hx hb dX9_followAll_124 rfl (lv_at hl 0 rfl) ?_
                      refine lv_iload_n hx hb dX9_followAll_125 rfl (lv_at hl 1 rfl) ?_
                      refine lv_iload_n hx hb dX9_followAll_126 rfl (lv_at hl 2 rfl) ?_
                      replace h := bd_at h
                      obtain ⟨r127, z127, e127, h⟩ := h
                      refine r_calli (rest := []) hC hI oM_0 (C := "EqualCourtModel") rfl ywX9_goOn tw_1227 (cX9_goOn_ok  e127) ⟨Nat.le_of_ble_eq_true rfl, Nat.le_of_ble_eq_true rfl⟩ ⟨rfl, rfl⟩ rfl hl.1 rfl (Nat.le_of_ble_eq_true rfl) dX9_followAll_127 (fun H locs hI => ?_)
                      refine lv_istore (lv' := [(9, .int r127), (0, .ref (ad 0)), (1, .int v1), (2, .int v2), (3, .int v3), (4, .int v4), (5, .int v5), (6, .int v6), (7, .int v7), (8, .int v8)]) hx hb dX9_followAll_130 hl (by decide) rfl (fun ls hl => ?_)
                      refine lv_iload hx hb dX9_followAll_132 (lv_at hl 0 rfl) ?_
                      refine lv_if_eq (tgt := 140) hx hb dX9_followAll_134 (by decide) (fun c134 => ?_) (fun c134 => ?_)
                      · replace h := if_t h c134
                        obtain ⟨x140, e140⟩ : ∃ y : Int32, y = (v8 + (1 : Int32)) := ⟨_, rfl⟩
                        replace h := bnd_at h e140
                        refine lv_iinc (v := x140) (lv' := [(8, .int x140), (9, .int r127), (0, .ref (ad 0)), (1, .int v1), (2, .int v2), (3, .int v3), (4, .int v4), (5, .int v5), (6, .int v6), (7, .int v7)]) hx hb dX9_followAll_140 hl (k := 9) rfl (by rw [e140]; rfl) (by decide) rfl (fun ls hl => ?_)
                        refine lv_goto (tgt := 78) hx hb dX9_followAll_143 (by decide) ?_
                        exact ih78 v1 v2 v3 v4 v5 v6 v7 x140 z127 _ _ _ hI (lv_sub hl [2, 3, 4, 5, 6, 7, 8, 9, 0] rfl) h
                      · replace h := if_f h c134
                        refine lv_iload hx hb dX9_followAll_137 (lv_at hl 0 rfl) ?_
                        exact hret h dX9_followAll_139 hI
                exact w78 FU v1 v2 v3 v4 v5 v6 v7 (0 : Int32) z _ _ _ hI (lv_sub hl [1, 2, 3, 4, 5, 6, 7, 8, 0] rfl) h
          exact w68 FU v1 v2 v3 v4 v5 v6 (0 : Int32) z _ _ _ hI (lv_sub hl [1, 2, 3, 4, 5, 6, 7, 0] rfl) h
    exact w59 FU v1 v2 v3 v4 y0 (0 : Int32) z _ _ _ hI (lv_sub hl [2, 3, 4, 5, 6, 1, 0] rfl) h
  have w35 : ∀ (v1 : Int32) (v2 : Int32) (v3 : Int32) (y0 : Int32) (z : fS) (H : Heap) (locs : List Loc) (ls : Array Slot), fI D 31 ad (cfM ad cy cz) z s H locs → lv_has ls 10 [(0, .ref (ad 0)), (1, .int v1), (2, .int v2), (3, .int v3)] → jX9_followAll_35   v1 v2 v3 y0 z = some (r, τ) → W p l e rmX9_followAll s m args below meth c H locs 0 0 Q (F0 m 35 ls [.int y0]) := by
    intro v1 v2 v3 y0 z H locs ls hI hl h
    unfold jX9_followAll_35 at h
    refine lv_istore (lv' := [(4, .int y0), (0, .ref (ad 0)), (1, .int v1), (2, .int v2), (3, .int v3)]) hx hb dX9_followAll_35 hl (by decide) rfl (fun ls hl => ?_)
    refine lv_aload_n hx hb dX9_followAll_37 rfl (lv_at hl 1 rfl) ?_
    refine gX9_stands hC hI tw_891 dX9_followAll_38 ?_
    refine lv_iconst (v := 2) hx hb dX9_followAll_41 (by decide) ?_
    have g42 := (gd_at h).1
    replace h := (gd_at h).2
    refine r_zald hC hI aM_28 g42 dX9_followAll_42 ?_
    refine lv_if_eq (tgt := 53) hx hb dX9_followAll_43 (by decide) (fun c43 => ?_) (fun c43 => ?_)
    · replace h := if_t h c43
      refine lv_iconst (v := 1) hx hb dX9_followAll_53 (by decide) ?_
      exact w54 v1 v2 v3 y0 (1 : Int32) z _ _ _ hI (lv_sub hl [1, 2, 3, 4, 0] rfl) h
    · replace h := if_f h c43
      refine lv_aload_n hx hb dX9_followAll_46 rfl (lv_at hl 1 rfl) ?_
      refine gX9_headMany hC hI tw_894 dX9_followAll_47 ?_
      refine lv_goto (tgt := 54) hx hb dX9_followAll_50 (by decide) ?_
      exact w54 v1 v2 v3 y0 (z 0 40) z _ _ _ hI (lv_sub hl [1, 2, 3, 4, 0] rfl) h
  have w17 : ∀ (v1 : Int32) (v2 : Int32) (y0 : Int32) (z : fS) (H : Heap) (locs : List Loc) (ls : Array Slot), fI D 31 ad (cfM ad cy cz) z s H locs → lv_has ls 10 [(0, .ref (ad 0)), (1, .int v1), (2, .int v2)] → jX9_followAll_17   v1 v2 y0 z = some (r, τ) → W p l e rmX9_followAll s m args below meth c H locs 0 0 Q (F0 m 17 ls [.int y0]) := by
    intro v1 v2 y0 z H locs ls hI hl h
    unfold jX9_followAll_17 at h
    refine lv_istore_n (lv' := [(3, .int y0), (0, .ref (ad 0)), (1, .int v1), (2, .int v2)]) hx hb dX9_followAll_17 rfl hl (by decide) rfl (fun ls hl => ?_)
    refine lv_aload_n hx hb dX9_followAll_18 rfl (lv_at hl 1 rfl) ?_
    refine gX9_stands hC hI tw_891 dX9_followAll_19 ?_
    refine lv_iconst (v := 1) hx hb dX9_followAll_22 (by decide) ?_
    have g23 := (gd_at h).1
    replace h := (gd_at h).2
    refine r_zald hC hI aM_28 g23 dX9_followAll_23 ?_
    refine lv_if_eq (tgt := 34) hx hb dX9_followAll_24 (by decide) (fun c24 => ?_) (fun c24 => ?_)
    · replace h := if_t h c24
      refine lv_iconst (v := 1) hx hb dX9_followAll_34 (by decide) ?_
      exact w35 v1 v2 y0 (1 : Int32) z _ _ _ hI (lv_sub hl [1, 2, 3, 0] rfl) h
    · replace h := if_f h c24
      refine lv_aload_n hx hb dX9_followAll_27 rfl (lv_at hl 1 rfl) ?_
      refine gX9_headMany hC hI tw_894 dX9_followAll_28 ?_
      refine lv_goto (tgt := 35) hx hb dX9_followAll_31 (by decide) ?_
      exact w35 v1 v2 y0 (z 0 40) z _ _ _ hI (lv_sub hl [1, 2, 3, 0] rfl) h
  refine lv_aload_n hx hb dX9_followAll_0 rfl (lv_at hl 0 rfl) ?_
  refine gX9_stands hC hI tw_891 dX9_followAll_1 ?_
  refine lv_iconst (v := 0) hx hb dX9_followAll_4 (by decide) ?_
  have g5 := (gd_at h).1
  replace h := (gd_at h).2
  refine r_zald hC hI aM_28 g5 dX9_followAll_5 ?_
  refine lv_if_eq (tgt := 16) hx hb dX9_followAll_6 (by decide) (fun c6 => ?_) (fun c6 => ?_)
  · replace h := if_t h c6
    refine lv_iconst (v := 1) hx hb dX9_followAll_16 (by decide) ?_
    exact w17 v1 v2 (1 : Int32) z _ _ _ hI hl h
  · replace h := if_f h c6
    refine lv_aload_n hx hb dX9_followAll_9 rfl (lv_at hl 0 rfl) ?_
    refine gX9_headMany hC hI tw_894 dX9_followAll_10 ?_
    refine lv_goto (tgt := 17) hx hb dX9_followAll_13 (by decide) ?_
    exact w17 v1 v2 (z 0 40) z _ _ _ hI hl h
theorem dX9_follow_0 : decode cX9_follow 0 = .ok (.iload_n 1, 1) := by decide +kernel
theorem dX9_follow_1 : decode cX9_follow 1 = .ok (.ifCond .lt 22, 3) := by decide +kernel
theorem dX9_follow_4 : decode cX9_follow 4 = .ok (.iload_n 1, 1) := by decide +kernel
theorem dX9_follow_5 : decode cX9_follow 5 = .ok (.aload_n 0, 1) := by decide +kernel
theorem dX9_follow_6 : decode cX9_follow 6 = .ok (.getfield 173, 3) := by decide +kernel
theorem dX9_follow_9 : decode cX9_follow 9 = .ok (.if_icmp .ge 14, 3) := by decide +kernel
theorem dX9_follow_12 : decode cX9_follow 12 = .ok (.iload_n 2, 1) := by decide +kernel
theorem dX9_follow_13 : decode cX9_follow 13 = .ok (.iconst 1, 1) := by decide +kernel
theorem dX9_follow_14 : decode cX9_follow 14 = .ok (.if_icmp .lt 9, 3) := by decide +kernel
theorem dX9_follow_17 : decode cX9_follow 17 = .ok (.iload_n 2, 1) := by decide +kernel
theorem dX9_follow_18 : decode cX9_follow 18 = .ok (.bipush 50, 2) := by decide +kernel
theorem dX9_follow_20 : decode cX9_follow 20 = .ok (.if_icmp .le 9, 3) := by decide +kernel
theorem dX9_follow_23 : decode cX9_follow 23 = .ok (.aload_n 0, 1) := by decide +kernel
theorem dX9_follow_24 : decode cX9_follow 24 = .ok (.iconst 1, 1) := by decide +kernel
theorem dX9_follow_25 : decode cX9_follow 25 = .ok (.invokevirtual 119, 3) := by decide +kernel
theorem dX9_follow_28 : decode cX9_follow 28 = .ok (.ireturn, 1) := by decide +kernel
theorem dX9_follow_29 : decode cX9_follow 29 = .ok (.aload_n 0, 1) := by decide +kernel
theorem dX9_follow_30 : decode cX9_follow 30 = .ok (.invokevirtual 253, 3) := by decide +kernel
theorem dX9_follow_33 : decode cX9_follow 33 = .ok (.aload_n 0, 1) := by decide +kernel
theorem dX9_follow_34 : decode cX9_follow 34 = .ok (.getfield 244, 3) := by decide +kernel
theorem dX9_follow_37 : decode cX9_follow 37 = .ok (.ifCond .ne 10, 3) := by decide +kernel
theorem dX9_follow_40 : decode cX9_follow 40 = .ok (.aload_n 0, 1) := by decide +kernel
theorem dX9_follow_41 : decode cX9_follow 41 = .ok (.bipush 6, 2) := by decide +kernel
theorem dX9_follow_43 : decode cX9_follow 43 = .ok (.invokevirtual 119, 3) := by decide +kernel
theorem dX9_follow_46 : decode cX9_follow 46 = .ok (.ireturn, 1) := by decide +kernel
theorem dX9_follow_47 : decode cX9_follow 47 = .ok (.iconst 0, 1) := by decide +kernel
theorem dX9_follow_48 : decode cX9_follow 48 = .ok (.istore_n 3, 1) := by decide +kernel
theorem dX9_follow_49 : decode cX9_follow 49 = .ok (.iload_n 3, 1) := by decide +kernel
theorem dX9_follow_50 : decode cX9_follow 50 = .ok (.iconst 3, 1) := by decide +kernel
theorem dX9_follow_51 : decode cX9_follow 51 = .ok (.if_icmp .ge 16, 3) := by decide +kernel
theorem dX9_follow_54 : decode cX9_follow 54 = .ok (.aload_n 0, 1) := by decide +kernel
theorem dX9_follow_55 : decode cX9_follow 55 = .ok (.getfield 96, 3) := by decide +kernel
theorem dX9_follow_58 : decode cX9_follow 58 = .ok (.iload_n 3, 1) := by decide +kernel
theorem dX9_follow_59 : decode cX9_follow 59 = .ok (.iconst 0, 1) := by decide +kernel
theorem dX9_follow_60 : decode cX9_follow 60 = .ok (.bastore, 1) := by decide +kernel
theorem dX9_follow_61 : decode cX9_follow 61 = .ok (.iinc 3 1, 3) := by decide +kernel
theorem dX9_follow_64 : decode cX9_follow 64 = .ok (.goto (-15), 3) := by decide +kernel
theorem dX9_follow_67 : decode cX9_follow 67 = .ok (.aload_n 0, 1) := by decide +kernel
theorem dX9_follow_68 : decode cX9_follow 68 = .ok (.aload_n 0, 1) := by decide +kernel
theorem dX9_follow_69 : decode cX9_follow 69 = .ok (.getfield 38, 3) := by decide +kernel
theorem dX9_follow_72 : decode cX9_follow 72 = .ok (.iload_n 1, 1) := by decide +kernel
theorem dX9_follow_73 : decode cX9_follow 73 = .ok (.iaload, 1) := by decide +kernel
theorem dX9_follow_74 : decode cX9_follow 74 = .ok (.invokevirtual 256, 3) := by decide +kernel
theorem dX9_follow_77 : decode cX9_follow 77 = .ok (.aload_n 0, 1) := by decide +kernel
theorem dX9_follow_78 : decode cX9_follow 78 = .ok (.aload_n 0, 1) := by decide +kernel
theorem dX9_follow_79 : decode cX9_follow 79 = .ok (.getfield 41, 3) := by decide +kernel
theorem dX9_follow_82 : decode cX9_follow 82 = .ok (.iload_n 1, 1) := by decide +kernel
theorem dX9_follow_83 : decode cX9_follow 83 = .ok (.iaload, 1) := by decide +kernel
theorem dX9_follow_84 : decode cX9_follow 84 = .ok (.invokevirtual 256, 3) := by decide +kernel
theorem dX9_follow_87 : decode cX9_follow 87 = .ok (.aload_n 0, 1) := by decide +kernel
theorem dX9_follow_88 : decode cX9_follow 88 = .ok (.iconst 0, 1) := by decide +kernel
theorem dX9_follow_89 : decode cX9_follow 89 = .ok (.putfield 247, 3) := by decide +kernel
theorem dX9_follow_92 : decode cX9_follow 92 = .ok (.aload_n 0, 1) := by decide +kernel
theorem dX9_follow_93 : decode cX9_follow 93 = .ok (.aload_n 0, 1) := by decide +kernel
theorem dX9_follow_94 : decode cX9_follow 94 = .ok (.iload_n 1, 1) := by decide +kernel
theorem dX9_follow_95 : decode cX9_follow 95 = .ok (.iload_n 2, 1) := by decide +kernel
theorem dX9_follow_96 : decode cX9_follow 96 = .ok (.invokevirtual 260, 3) := by decide +kernel
theorem dX9_follow_99 : decode cX9_follow 99 = .ok (.putfield 65, 3) := by decide +kernel
theorem dX9_follow_102 : decode cX9_follow 102 = .ok (.aload_n 0, 1) := by decide +kernel
theorem dX9_follow_103 : decode cX9_follow 103 = .ok (.aload_n 0, 1) := by decide +kernel
theorem dX9_follow_104 : decode cX9_follow 104 = .ok (.getfield 247, 3) := by decide +kernel
theorem dX9_follow_107 : decode cX9_follow 107 = .ok (.invokevirtual 123, 3) := by decide +kernel
theorem dX9_follow_110 : decode cX9_follow 110 = .ok (.ireturn, 1) := by decide +kernel
abbrev rmX9_follow : Room := { frames := 10, cells := 0, slots := 0, locals := 241 }
theorem ywX9_follow : fY yX9_follow "EqualCourtModel" cX9_follow 4 (some .int) 2 := ⟨tw_1212, tw_1213, tw_11, tw_1214, by decide +kernel⟩
set_option maxHeartbeats 4000000 in
set_option maxRecDepth 100000 in
theorem cX9_follow_ok {D : va_G} {ad : Nat → Nat} {cy cz : ClassId} {l : Launch} {z : fS} {v1 : Int32} {v2 : Int32} {r : Int32} {τ : fS} (h : fX9_follow z v1 v2 = some (r, τ)) : fMi D 31 ad (cfM ad cy cz) cy cz l yX9_follow cX9_follow 4 (some .int) rmX9_follow [.ref (ad 0), .int v1, .int v2] z r τ := by
  refine f_bodyi (by decide) (Nat.le_of_ble_eq_true rfl) (fun p e s m args below meth c Q hC hret ls hl hI => ?_)
  have hx := hC.1
  have hb := hC.2.1
  have hl : lv_has ls 4 [(0, .ref (ad 0)), (1, .int v1), (2, .int v2)] := hl
  unfold fX9_follow at h
  have w67 : ∀ (v1 : Int32) (v2 : Int32) (z : fS) (H : Heap) (locs : List Loc) (ls : Array Slot), fI D 31 ad (cfM ad cy cz) z s H locs → lv_has ls 4 [(0, .ref (ad 0)), (1, .int v1), (2, .int v2)] → jX9_follow_67   v1 v2 z = some (r, τ) → W p l e rmX9_follow s m args below meth c H locs 0 0 Q (F0 m 67 ls []) := by
    intro v1 v2 z H locs ls hI hl h
    unfold jX9_follow_67 at h
    refine lv_aload_n hx hb dX9_follow_67 rfl (lv_at hl 0 rfl) ?_
    refine lv_aload_n hx hb dX9_follow_68 rfl (lv_at hl 0 rfl) ?_
    refine gX9_lawA hC hI tw_866 dX9_follow_69 ?_
    refine lv_iload_n hx hb dX9_follow_72 rfl (lv_at hl 1 rfl) ?_
    have g73 := (gd_at h).1
    replace h := (gd_at h).2
    refine r_iald hC hI aM_10 g73 dX9_follow_73 ?_
    replace h := bp_at h
    obtain ⟨z74, e74, h⟩ := h
    refine r_callv (rest := []) hC hI oM_0 (C := "EqualCourtModel") rfl ywX9_lookForHoles tw_1219 (cX9_lookForHoles_ok  e74) ⟨Nat.le_of_ble_eq_true rfl, Nat.le_of_ble_eq_true rfl⟩ ⟨rfl, rfl⟩ rfl hl.1 rfl (Nat.le_of_ble_eq_true rfl) dX9_follow_74 (fun H locs hI => ?_)
    refine lv_aload_n hx hb dX9_follow_77 rfl (lv_at hl 0 rfl) ?_
    refine lv_aload_n hx hb dX9_follow_78 rfl (lv_at hl 0 rfl) ?_
    refine gX9_lawB hC hI tw_867 dX9_follow_79 ?_
    refine lv_iload_n hx hb dX9_follow_82 rfl (lv_at hl 1 rfl) ?_
    have g83 := (gd_at h).1
    replace h := (gd_at h).2
    refine r_iald hC hI aM_11 g83 dX9_follow_83 ?_
    replace h := bp_at h
    obtain ⟨z84, e84, h⟩ := h
    refine r_callv (rest := []) hC hI oM_0 (C := "EqualCourtModel") rfl ywX9_lookForHoles tw_1219 (cX9_lookForHoles_ok  e84) ⟨Nat.le_of_ble_eq_true rfl, Nat.le_of_ble_eq_true rfl⟩ ⟨rfl, rfl⟩ rfl hl.1 rfl (Nat.le_of_ble_eq_true rfl) dX9_follow_84 (fun H locs hI => ?_)
    refine lv_aload_n hx hb dX9_follow_87 rfl (lv_at hl 0 rfl) ?_
    refine lv_iconst (v := 0) hx hb dX9_follow_88 (by decide) ?_
    refine pX9_came hC hI tw_895 dX9_follow_89 (fun z89 H locs e89 hI => ?_)
    replace h := bnd_at h e89
    refine lv_aload_n hx hb dX9_follow_92 rfl (lv_at hl 0 rfl) ?_
    refine lv_aload_n hx hb dX9_follow_93 rfl (lv_at hl 0 rfl) ?_
    refine lv_iload_n hx hb dX9_follow_94 rfl (lv_at hl 1 rfl) ?_
    refine lv_iload_n hx hb dX9_follow_95 rfl (lv_at hl 2 rfl) ?_
    replace h := bd_at h
    obtain ⟨r96, z96, e96, h⟩ := h
    refine r_calli (rest := [.ref (ad 0)]) hC hI oM_0 (C := "EqualCourtModel") rfl ywX9_followAll tw_1223 (cX9_followAll_ok  e96) ⟨Nat.le_of_ble_eq_true rfl, Nat.le_of_ble_eq_true rfl⟩ ⟨rfl, rfl⟩ rfl hl.1 rfl (Nat.le_of_ble_eq_true rfl) dX9_follow_96 (fun H locs hI => ?_)
    refine pX9_endedBy hC hI tw_879 dX9_follow_99 (fun z99 H locs e99 hI => ?_)
    replace h := bnd_at h e99
    refine lv_aload_n hx hb dX9_follow_102 rfl (lv_at hl 0 rfl) ?_
    refine lv_aload_n hx hb dX9_follow_103 rfl (lv_at hl 0 rfl) ?_
    refine gX9_came hC hI tw_895 dX9_follow_104 ?_
    replace h := bd_at h
    obtain ⟨r107, z107, e107, h⟩ := h
    refine r_calli (rest := []) hC hI oM_0 (C := "EqualCourtModel") rfl ywX9_done tw_1001 (cX9_done_ok  e107) ⟨Nat.le_of_ble_eq_true rfl, Nat.le_of_ble_eq_true rfl⟩ ⟨rfl, rfl⟩ rfl hl.1 rfl (Nat.le_of_ble_eq_true rfl) dX9_follow_107 (fun H locs hI => ?_)
    exact hret h dX9_follow_110 hI
  refine lv_iload_n hx hb dX9_follow_0 rfl (lv_at hl 1 rfl) ?_
  refine lv_if_lt (tgt := 23) hx hb dX9_follow_1 (by decide) (fun c1 => ?_) (fun c1 => ?_)
  · replace h := if_t h c1
    refine lv_aload_n hx hb dX9_follow_23 rfl (lv_at hl 0 rfl) ?_
    refine lv_iconst (v := 1) hx hb dX9_follow_24 (by decide) ?_
    replace h := bd_at h
    obtain ⟨r25, z25, e25, h⟩ := h
    refine r_calli (rest := []) hC hI oM_0 (C := "EqualCourtModel") rfl ywX9_refuse tw_985 (cX9_refuse_ok  e25) ⟨Nat.le_of_ble_eq_true rfl, Nat.le_of_ble_eq_true rfl⟩ ⟨rfl, rfl⟩ rfl hl.1 rfl (Nat.le_of_ble_eq_true rfl) dX9_follow_25 (fun H locs hI => ?_)
    exact hret h dX9_follow_28 hI
  · replace h := if_f h c1
    refine lv_iload_n hx hb dX9_follow_4 rfl (lv_at hl 1 rfl) ?_
    refine lv_aload_n hx hb dX9_follow_5 rfl (lv_at hl 0 rfl) ?_
    refine gX9_laws hC hI tw_868 dX9_follow_6 ?_
    refine lv_icmp_ge (tgt := 23) hx hb dX9_follow_9 (by decide) (fun c9 => ?_) (fun c9 => ?_)
    · replace h := if_t h c9
      refine lv_aload_n hx hb dX9_follow_23 rfl (lv_at hl 0 rfl) ?_
      refine lv_iconst (v := 1) hx hb dX9_follow_24 (by decide) ?_
      replace h := bd_at h
      obtain ⟨r25, z25, e25, h⟩ := h
      refine r_calli (rest := []) hC hI oM_0 (C := "EqualCourtModel") rfl ywX9_refuse tw_985 (cX9_refuse_ok  e25) ⟨Nat.le_of_ble_eq_true rfl, Nat.le_of_ble_eq_true rfl⟩ ⟨rfl, rfl⟩ rfl hl.1 rfl (Nat.le_of_ble_eq_true rfl) dX9_follow_25 (fun H locs hI => ?_)
      exact hret h dX9_follow_28 hI
    · replace h := if_f h c9
      refine lv_iload_n hx hb dX9_follow_12 rfl (lv_at hl 2 rfl) ?_
      refine lv_iconst (v := 1) hx hb dX9_follow_13 (by decide) ?_
      refine lv_icmp_lt (tgt := 23) hx hb dX9_follow_14 (by decide) (fun c14 => ?_) (fun c14 => ?_)
      · replace h := if_t h c14
        refine lv_aload_n hx hb dX9_follow_23 rfl (lv_at hl 0 rfl) ?_
        refine lv_iconst (v := 1) hx hb dX9_follow_24 (by decide) ?_
        replace h := bd_at h
        obtain ⟨r25, z25, e25, h⟩ := h
        refine r_calli (rest := []) hC hI oM_0 (C := "EqualCourtModel") rfl ywX9_refuse tw_985 (cX9_refuse_ok  e25) ⟨Nat.le_of_ble_eq_true rfl, Nat.le_of_ble_eq_true rfl⟩ ⟨rfl, rfl⟩ rfl hl.1 rfl (Nat.le_of_ble_eq_true rfl) dX9_follow_25 (fun H locs hI => ?_)
        exact hret h dX9_follow_28 hI
      · replace h := if_f h c14
        refine lv_iload_n hx hb dX9_follow_17 rfl (lv_at hl 2 rfl) ?_
        refine lv_bipush (v := 50) hx hb dX9_follow_18 (by decide) ?_
        refine lv_icmp_le (tgt := 29) hx hb dX9_follow_20 (by decide) (fun c20 => ?_) (fun c20 => ?_)
        · replace h := if_t h c20
          refine lv_aload_n hx hb dX9_follow_29 rfl (lv_at hl 0 rfl) ?_
          replace h := bp_at h
          obtain ⟨z30, e30, h⟩ := h
          refine r_callv (rest := []) hC hI oM_0 (C := "EqualCourtModel") rfl ywX9_findHeads tw_1215 (cX9_findHeads_ok  e30) ⟨Nat.le_of_ble_eq_true rfl, Nat.le_of_ble_eq_true rfl⟩ ⟨rfl, rfl⟩ rfl hl.1 rfl (Nat.le_of_ble_eq_true rfl) dX9_follow_30 (fun H locs hI => ?_)
          refine lv_aload_n hx hb dX9_follow_33 rfl (lv_at hl 0 rfl) ?_
          refine gX9_headMany hC hI tw_894 dX9_follow_34 ?_
          refine lv_if_ne (tgt := 47) hx hb dX9_follow_37 (by decide) (fun c37 => ?_) (fun c37 => ?_)
          · replace h := if_f h c37
            refine lv_iconst (v := 0) hx hb dX9_follow_47 (by decide) ?_
            refine lv_istore_n (lv' := [(3, .int (0 : Int32)), (0, .ref (ad 0)), (1, .int v1), (2, .int v2)]) hx hb dX9_follow_48 rfl hl (by decide) rfl (fun ls hl => ?_)
            have w49 : ∀ (N49 : Nat) (v1 : Int32) (v2 : Int32) (v3 : Int32) (z : fS) (H : Heap) (locs : List Loc) (ls : Array Slot), fI D 31 ad (cfM ad cy cz) z s H locs → lv_has ls 4 [(0, .ref (ad 0)), (1, .int v1), (2, .int v2), (3, .int v3)] → lX9_follow_49  (jX9_follow_67   v1 v2) v1 v2 N49 v3 z = some (r, τ) → W p l e rmX9_follow s m args below meth c H locs 0 0 Q (F0 m 49 ls []) := by
              intro N49
              induction N49 with
              | zero =>
                intro v1 v2 v3 z H locs ls hI hl h
                exact none_no h
              | succ N49 ih49 =>
                intro v1 v2 v3 z H locs ls hI hl h
                rw [lX9_follow_49.eq_2] at h
                refine lv_iload_n hx hb dX9_follow_49 rfl (lv_at hl 3 rfl) ?_
                refine lv_iconst (v := 3) hx hb dX9_follow_50 (by decide) ?_
                refine lv_icmp_ge (tgt := 67) hx hb dX9_follow_51 (by decide) (fun c51 => ?_) (fun c51 => ?_)
                · replace h := if_t h c51
                  exact w67 v1 v2 z _ _ _ hI (lv_sub hl [0, 1, 2] rfl) h
                · replace h := if_f h c51
                  refine lv_aload_n hx hb dX9_follow_54 rfl (lv_at hl 0 rfl) ?_
                  refine gX9_stands hC hI tw_891 dX9_follow_55 ?_
                  refine lv_iload_n hx hb dX9_follow_58 rfl (lv_at hl 3 rfl) ?_
                  refine lv_iconst (v := 0) hx hb dX9_follow_59 (by decide) ?_
                  have g60 := (gd_at h).1
                  replace h := (gd_at h).2
                  refine r_zast hC hI aM_28 g60 dX9_follow_60 (fun z60 H locs e60 hI => ?_)
                  replace h := bnd_at h e60
                  obtain ⟨x61, e61⟩ : ∃ y : Int32, y = (v3 + (1 : Int32)) := ⟨_, rfl⟩
                  replace h := bnd_at h e61
                  refine lv_iinc (v := x61) (lv' := [(3, .int x61), (0, .ref (ad 0)), (1, .int v1), (2, .int v2)]) hx hb dX9_follow_61 hl (k := 3) rfl (by rw [e61]; rfl) (by decide) rfl (fun ls hl => ?_)
                  refine lv_goto (tgt := 49) hx hb dX9_follow_64 (by decide) ?_
                  exact ih49 v1 v2 x61 z60 _ _ _ hI (lv_sub hl [1, 2, 3, 0] rfl) h
            exact w49 FU v1 v2 (0 : Int32) z30 _ _ _ hI (lv_sub hl [1, 2, 3, 0] rfl) h
          · replace h := if_t h c37
            refine lv_aload_n hx hb dX9_follow_40 rfl (lv_at hl 0 rfl) ?_
            refine lv_bipush (v := 6) hx hb dX9_follow_41 (by decide) ?_
            replace h := bd_at h
            obtain ⟨r43, z43, e43, h⟩ := h
            refine r_calli (rest := []) hC hI oM_0 (C := "EqualCourtModel") rfl ywX9_refuse tw_985 (cX9_refuse_ok  e43) ⟨Nat.le_of_ble_eq_true rfl, Nat.le_of_ble_eq_true rfl⟩ ⟨rfl, rfl⟩ rfl hl.1 rfl (Nat.le_of_ble_eq_true rfl) dX9_follow_43 (fun H locs hI => ?_)
            exact hret h dX9_follow_46 hI
        · replace h := if_f h c20
          refine lv_aload_n hx hb dX9_follow_23 rfl (lv_at hl 0 rfl) ?_
          refine lv_iconst (v := 1) hx hb dX9_follow_24 (by decide) ?_
          replace h := bd_at h
          obtain ⟨r25, z25, e25, h⟩ := h
          refine r_calli (rest := []) hC hI oM_0 (C := "EqualCourtModel") rfl ywX9_refuse tw_985 (cX9_refuse_ok  e25) ⟨Nat.le_of_ble_eq_true rfl, Nat.le_of_ble_eq_true rfl⟩ ⟨rfl, rfl⟩ rfl hl.1 rfl (Nat.le_of_ble_eq_true rfl) dX9_follow_25 (fun H locs hI => ?_)
          exact hret h dX9_follow_28 hI
theorem dX9_ended_0 : decode cX9_ended 0 = .ok (.aload_n 0, 1) := by decide +kernel
theorem dX9_ended_1 : decode cX9_ended 1 = .ok (.getfield 65, 3) := by decide +kernel
theorem dX9_ended_4 : decode cX9_ended 4 = .ok (.ireturn, 1) := by decide +kernel
abbrev rmX9_ended : Room := { frames := 0, cells := 0, slots := 0, locals := 0 }
theorem ywX9_ended : fY yX9_ended "EqualCourtModel" cX9_ended 1 (some .int) 0 := ⟨tw_1232, tw_1233, tw_11, tw_1234, by decide +kernel⟩
set_option maxHeartbeats 4000000 in
set_option maxRecDepth 100000 in
theorem cX9_ended_ok {D : va_G} {ad : Nat → Nat} {cy cz : ClassId} {l : Launch} {z : fS}  {r : Int32} (h : fX9_ended z = some r) : fMi D 31 ad (cfM ad cy cz) cy cz l yX9_ended cX9_ended 1 (some .int) rmX9_ended [.ref (ad 0)] z r z := by
  refine f_bodyi (by decide) (Nat.le_of_ble_eq_true rfl) (fun p e s m args below meth c Q hC hret ls hl hI => ?_)
  have hx := hC.1
  have hb := hC.2.1
  have hl : lv_has ls 1 [(0, .ref (ad 0))] := hl
  unfold fX9_ended at h
  refine lv_aload_n hx hb dX9_ended_0 rfl (lv_at hl 0 rfl) ?_
  refine gX9_endedBy hC hI tw_879 dX9_ended_1 ?_
  exact hret (ret_p _ h) dX9_ended_4 hI
theorem dX9_claim_0 : decode cX9_claim 0 = .ok (.aload_n 0, 1) := by decide +kernel
theorem dX9_claim_1 : decode cX9_claim 1 = .ok (.iload_n 2, 1) := by decide +kernel
theorem dX9_claim_2 : decode cX9_claim 2 = .ok (.invokevirtual 132, 3) := by decide +kernel
theorem dX9_claim_5 : decode cX9_claim 5 = .ok (.ifCond .eq 11, 3) := by decide +kernel
theorem dX9_claim_8 : decode cX9_claim 8 = .ok (.aload_n 0, 1) := by decide +kernel
theorem dX9_claim_9 : decode cX9_claim 9 = .ok (.iload_n 3, 1) := by decide +kernel
theorem dX9_claim_10 : decode cX9_claim 10 = .ok (.invokevirtual 132, 3) := by decide +kernel
theorem dX9_claim_13 : decode cX9_claim 13 = .ok (.ifCond .ne 9, 3) := by decide +kernel
theorem dX9_claim_16 : decode cX9_claim 16 = .ok (.aload_n 0, 1) := by decide +kernel
theorem dX9_claim_17 : decode cX9_claim 17 = .ok (.iconst 1, 1) := by decide +kernel
theorem dX9_claim_18 : decode cX9_claim 18 = .ok (.invokevirtual 119, 3) := by decide +kernel
theorem dX9_claim_21 : decode cX9_claim 21 = .ok (.ireturn, 1) := by decide +kernel
theorem dX9_claim_22 : decode cX9_claim 22 = .ok (.aload_n 0, 1) := by decide +kernel
theorem dX9_claim_23 : decode cX9_claim 23 = .ok (.getfield 176, 3) := by decide +kernel
theorem dX9_claim_26 : decode cX9_claim 26 = .ok (.bipush 100, 2) := by decide +kernel
theorem dX9_claim_28 : decode cX9_claim 28 = .ok (.if_icmp .ne 9, 3) := by decide +kernel
theorem dX9_claim_31 : decode cX9_claim 31 = .ok (.aload_n 0, 1) := by decide +kernel
theorem dX9_claim_32 : decode cX9_claim 32 = .ok (.iconst 3, 1) := by decide +kernel
theorem dX9_claim_33 : decode cX9_claim 33 = .ok (.invokevirtual 119, 3) := by decide +kernel
theorem dX9_claim_36 : decode cX9_claim 36 = .ok (.ireturn, 1) := by decide +kernel
theorem dX9_claim_37 : decode cX9_claim 37 = .ok (.aload_n 0, 1) := by decide +kernel
theorem dX9_claim_38 : decode cX9_claim 38 = .ok (.getfield 44, 3) := by decide +kernel
theorem dX9_claim_41 : decode cX9_claim 41 = .ok (.aload_n 0, 1) := by decide +kernel
theorem dX9_claim_42 : decode cX9_claim 42 = .ok (.getfield 176, 3) := by decide +kernel
theorem dX9_claim_45 : decode cX9_claim 45 = .ok (.iload_n 1, 1) := by decide +kernel
theorem dX9_claim_46 : decode cX9_claim 46 = .ok (.iastore, 1) := by decide +kernel
theorem dX9_claim_47 : decode cX9_claim 47 = .ok (.aload_n 0, 1) := by decide +kernel
theorem dX9_claim_48 : decode cX9_claim 48 = .ok (.getfield 47, 3) := by decide +kernel
theorem dX9_claim_51 : decode cX9_claim 51 = .ok (.aload_n 0, 1) := by decide +kernel
theorem dX9_claim_52 : decode cX9_claim 52 = .ok (.getfield 176, 3) := by decide +kernel
theorem dX9_claim_55 : decode cX9_claim 55 = .ok (.iload_n 2, 1) := by decide +kernel
theorem dX9_claim_56 : decode cX9_claim 56 = .ok (.iastore, 1) := by decide +kernel
theorem dX9_claim_57 : decode cX9_claim 57 = .ok (.aload_n 0, 1) := by decide +kernel
theorem dX9_claim_58 : decode cX9_claim 58 = .ok (.getfield 50, 3) := by decide +kernel
theorem dX9_claim_61 : decode cX9_claim 61 = .ok (.aload_n 0, 1) := by decide +kernel
theorem dX9_claim_62 : decode cX9_claim 62 = .ok (.getfield 176, 3) := by decide +kernel
theorem dX9_claim_65 : decode cX9_claim 65 = .ok (.iload_n 3, 1) := by decide +kernel
theorem dX9_claim_66 : decode cX9_claim 66 = .ok (.iastore, 1) := by decide +kernel
theorem dX9_claim_67 : decode cX9_claim 67 = .ok (.aload_n 0, 1) := by decide +kernel
theorem dX9_claim_68 : decode cX9_claim 68 = .ok (.getfield 53, 3) := by decide +kernel
theorem dX9_claim_71 : decode cX9_claim 71 = .ok (.aload_n 0, 1) := by decide +kernel
theorem dX9_claim_72 : decode cX9_claim 72 = .ok (.getfield 176, 3) := by decide +kernel
theorem dX9_claim_75 : decode cX9_claim 75 = .ok (.iload 4, 2) := by decide +kernel
theorem dX9_claim_77 : decode cX9_claim 77 = .ok (.iastore, 1) := by decide +kernel
theorem dX9_claim_78 : decode cX9_claim 78 = .ok (.aload_n 0, 1) := by decide +kernel
theorem dX9_claim_79 : decode cX9_claim 79 = .ok (.getfield 56, 3) := by decide +kernel
theorem dX9_claim_82 : decode cX9_claim 82 = .ok (.aload_n 0, 1) := by decide +kernel
theorem dX9_claim_83 : decode cX9_claim 83 = .ok (.getfield 176, 3) := by decide +kernel
theorem dX9_claim_86 : decode cX9_claim 86 = .ok (.iload 5, 2) := by decide +kernel
theorem dX9_claim_88 : decode cX9_claim 88 = .ok (.iastore, 1) := by decide +kernel
theorem dX9_claim_89 : decode cX9_claim 89 = .ok (.aload_n 0, 1) := by decide +kernel
theorem dX9_claim_90 : decode cX9_claim 90 = .ok (.dup, 1) := by decide +kernel
theorem dX9_claim_91 : decode cX9_claim 91 = .ok (.getfield 176, 3) := by decide +kernel
theorem dX9_claim_94 : decode cX9_claim 94 = .ok (.iconst 1, 1) := by decide +kernel
theorem dX9_claim_95 : decode cX9_claim 95 = .ok (.iadd, 1) := by decide +kernel
theorem dX9_claim_96 : decode cX9_claim 96 = .ok (.putfield 176, 3) := by decide +kernel
theorem dX9_claim_99 : decode cX9_claim 99 = .ok (.aload_n 0, 1) := by decide +kernel
theorem dX9_claim_100 : decode cX9_claim 100 = .ok (.aload_n 0, 1) := by decide +kernel
theorem dX9_claim_101 : decode cX9_claim 101 = .ok (.getfield 176, 3) := by decide +kernel
theorem dX9_claim_104 : decode cX9_claim 104 = .ok (.iconst 1, 1) := by decide +kernel
theorem dX9_claim_105 : decode cX9_claim 105 = .ok (.isub, 1) := by decide +kernel
theorem dX9_claim_106 : decode cX9_claim 106 = .ok (.invokevirtual 123, 3) := by decide +kernel
theorem dX9_claim_109 : decode cX9_claim 109 = .ok (.ireturn, 1) := by decide +kernel
abbrev rmX9_claim : Room := { frames := 1, cells := 0, slots := 0, locals := 21 }
theorem ywX9_claim : fY yX9_claim "EqualCourtModel" cX9_claim 6 (some .int) 5 := ⟨tw_1236, tw_1237, tw_11, tw_1238, by decide +kernel⟩
set_option maxHeartbeats 4000000 in
set_option maxRecDepth 100000 in
theorem cX9_claim_ok {D : va_G} {ad : Nat → Nat} {cy cz : ClassId} {l : Launch} {z : fS} {v1 : Int32} {v2 : Int32} {v3 : Int32} {v4 : Int32} {v5 : Int32} {r : Int32} {τ : fS} (h : fX9_claim z v1 v2 v3 v4 v5 = some (r, τ)) : fMi D 31 ad (cfM ad cy cz) cy cz l yX9_claim cX9_claim 6 (some .int) rmX9_claim [.ref (ad 0), .int v1, .int v2, .int v3, .int v4, .int v5] z r τ := by
  refine f_bodyi (by decide) (Nat.le_of_ble_eq_true rfl) (fun p e s m args below meth c Q hC hret ls hl hI => ?_)
  have hx := hC.1
  have hb := hC.2.1
  have hl : lv_has ls 6 [(0, .ref (ad 0)), (1, .int v1), (2, .int v2), (3, .int v3), (4, .int v4), (5, .int v5)] := hl
  unfold fX9_claim at h
  refine lv_aload_n hx hb dX9_claim_0 rfl (lv_at hl 0 rfl) ?_
  refine lv_iload_n hx hb dX9_claim_1 rfl (lv_at hl 2 rfl) ?_
  replace h := bp_at h
  obtain ⟨r2, e2, h⟩ := h
  refine r_calli (rest := []) hC hI oM_0 (C := "EqualCourtModel") rfl ywX9_isTerm tw_1013 (cX9_isTerm_ok  e2) ⟨Nat.le_of_ble_eq_true rfl, Nat.le_of_ble_eq_true rfl⟩ ⟨rfl, rfl⟩ rfl hl.1 rfl (Nat.le_of_ble_eq_true rfl) dX9_claim_2 (fun H locs hI => ?_)
  refine lv_if_eq (tgt := 16) hx hb dX9_claim_5 (by decide) (fun c5 => ?_) (fun c5 => ?_)
  · replace h := if_t h c5
    refine lv_aload_n hx hb dX9_claim_16 rfl (lv_at hl 0 rfl) ?_
    refine lv_iconst (v := 1) hx hb dX9_claim_17 (by decide) ?_
    replace h := bd_at h
    obtain ⟨r18, z18, e18, h⟩ := h
    refine r_calli (rest := []) hC hI oM_0 (C := "EqualCourtModel") rfl ywX9_refuse tw_985 (cX9_refuse_ok  e18) ⟨Nat.le_of_ble_eq_true rfl, Nat.le_of_ble_eq_true rfl⟩ ⟨rfl, rfl⟩ rfl hl.1 rfl (Nat.le_of_ble_eq_true rfl) dX9_claim_18 (fun H locs hI => ?_)
    exact hret h dX9_claim_21 hI
  · replace h := if_f h c5
    refine lv_aload_n hx hb dX9_claim_8 rfl (lv_at hl 0 rfl) ?_
    refine lv_iload_n hx hb dX9_claim_9 rfl (lv_at hl 3 rfl) ?_
    replace h := bp_at h
    obtain ⟨r10, e10, h⟩ := h
    refine r_calli (rest := []) hC hI oM_0 (C := "EqualCourtModel") rfl ywX9_isTerm tw_1013 (cX9_isTerm_ok  e10) ⟨Nat.le_of_ble_eq_true rfl, Nat.le_of_ble_eq_true rfl⟩ ⟨rfl, rfl⟩ rfl hl.1 rfl (Nat.le_of_ble_eq_true rfl) dX9_claim_10 (fun H locs hI => ?_)
    refine lv_if_ne (tgt := 22) hx hb dX9_claim_13 (by decide) (fun c13 => ?_) (fun c13 => ?_)
    · replace h := if_f h c13
      refine lv_aload_n hx hb dX9_claim_22 rfl (lv_at hl 0 rfl) ?_
      refine gX9_steps hC hI tw_874 dX9_claim_23 ?_
      refine lv_bipush (v := 100) hx hb dX9_claim_26 (by decide) ?_
      refine lv_icmp_ne (tgt := 37) hx hb dX9_claim_28 (by decide) (fun c28 => ?_) (fun c28 => ?_)
      · replace h := if_f h c28
        refine lv_aload_n hx hb dX9_claim_37 rfl (lv_at hl 0 rfl) ?_
        refine gX9_reasonOf hC hI tw_869 dX9_claim_38 ?_
        refine lv_aload_n hx hb dX9_claim_41 rfl (lv_at hl 0 rfl) ?_
        refine gX9_steps hC hI tw_874 dX9_claim_42 ?_
        refine lv_iload_n hx hb dX9_claim_45 rfl (lv_at hl 1 rfl) ?_
        have g46 := (gd_at h).1
        replace h := (gd_at h).2
        refine r_iast hC hI aM_12 g46 dX9_claim_46 (fun z46 H locs e46 hI => ?_)
        replace h := bnd_at h e46
        refine lv_aload_n hx hb dX9_claim_47 rfl (lv_at hl 0 rfl) ?_
        refine gX9_stepA hC hI tw_870 dX9_claim_48 ?_
        refine lv_aload_n hx hb dX9_claim_51 rfl (lv_at hl 0 rfl) ?_
        refine gX9_steps hC hI tw_874 dX9_claim_52 ?_
        refine lv_iload_n hx hb dX9_claim_55 rfl (lv_at hl 2 rfl) ?_
        have g56 := (gd_at h).1
        replace h := (gd_at h).2
        refine r_iast hC hI aM_13 g56 dX9_claim_56 (fun z56 H locs e56 hI => ?_)
        replace h := bnd_at h e56
        refine lv_aload_n hx hb dX9_claim_57 rfl (lv_at hl 0 rfl) ?_
        refine gX9_stepB hC hI tw_871 dX9_claim_58 ?_
        refine lv_aload_n hx hb dX9_claim_61 rfl (lv_at hl 0 rfl) ?_
        refine gX9_steps hC hI tw_874 dX9_claim_62 ?_
        refine lv_iload_n hx hb dX9_claim_65 rfl (lv_at hl 3 rfl) ?_
        have g66 := (gd_at h).1
        replace h := (gd_at h).2
        refine r_iast hC hI aM_14 g66 dX9_claim_66 (fun z66 H locs e66 hI => ?_)
        replace h := bnd_at h e66
        refine lv_aload_n hx hb dX9_claim_67 rfl (lv_at hl 0 rfl) ?_
        refine gX9_stepI hC hI tw_872 dX9_claim_68 ?_
        refine lv_aload_n hx hb dX9_claim_71 rfl (lv_at hl 0 rfl) ?_
        refine gX9_steps hC hI tw_874 dX9_claim_72 ?_
        refine lv_iload hx hb dX9_claim_75 (lv_at hl 4 rfl) ?_
        have g77 := (gd_at h).1
        replace h := (gd_at h).2
        refine r_iast hC hI aM_15 g77 dX9_claim_77 (fun z77 H locs e77 hI => ?_)
        replace h := bnd_at h e77
        refine lv_aload_n hx hb dX9_claim_78 rfl (lv_at hl 0 rfl) ?_
        refine gX9_stepJ hC hI tw_873 dX9_claim_79 ?_
        refine lv_aload_n hx hb dX9_claim_82 rfl (lv_at hl 0 rfl) ?_
        refine gX9_steps hC hI tw_874 dX9_claim_83 ?_
        refine lv_iload hx hb dX9_claim_86 (lv_at hl 5 rfl) ?_
        have g88 := (gd_at h).1
        replace h := (gd_at h).2
        refine r_iast hC hI aM_16 g88 dX9_claim_88 (fun z88 H locs e88 hI => ?_)
        replace h := bnd_at h e88
        refine lv_aload_n hx hb dX9_claim_89 rfl (lv_at hl 0 rfl) ?_
        refine lv_dup hx hb dX9_claim_90 rfl ?_
        refine gX9_steps hC hI tw_874 dX9_claim_91 ?_
        refine lv_iconst (v := 1) hx hb dX9_claim_94 (by decide) ?_
        refine lv_iadd hx hb dX9_claim_95 ?_
        refine pX9_steps hC hI tw_874 dX9_claim_96 (fun z96 H locs e96 hI => ?_)
        replace h := bnd_at h e96
        refine lv_aload_n hx hb dX9_claim_99 rfl (lv_at hl 0 rfl) ?_
        refine lv_aload_n hx hb dX9_claim_100 rfl (lv_at hl 0 rfl) ?_
        refine gX9_steps hC hI tw_874 dX9_claim_101 ?_
        refine lv_iconst (v := 1) hx hb dX9_claim_104 (by decide) ?_
        refine lv_isub hx hb dX9_claim_105 ?_
        replace h := bd_at h
        obtain ⟨r106, z106, e106, h⟩ := h
        refine r_calli (rest := []) hC hI oM_0 (C := "EqualCourtModel") rfl ywX9_done tw_1001 (cX9_done_ok  e106) ⟨Nat.le_of_ble_eq_true rfl, Nat.le_of_ble_eq_true rfl⟩ ⟨rfl, rfl⟩ rfl hl.1 rfl (Nat.le_of_ble_eq_true rfl) dX9_claim_106 (fun H locs hI => ?_)
        exact hret h dX9_claim_109 hI
      · replace h := if_t h c28
        refine lv_aload_n hx hb dX9_claim_31 rfl (lv_at hl 0 rfl) ?_
        refine lv_iconst (v := 3) hx hb dX9_claim_32 (by decide) ?_
        replace h := bd_at h
        obtain ⟨r33, z33, e33, h⟩ := h
        refine r_calli (rest := []) hC hI oM_0 (C := "EqualCourtModel") rfl ywX9_refuse tw_985 (cX9_refuse_ok  e33) ⟨Nat.le_of_ble_eq_true rfl, Nat.le_of_ble_eq_true rfl⟩ ⟨rfl, rfl⟩ rfl hl.1 rfl (Nat.le_of_ble_eq_true rfl) dX9_claim_33 (fun H locs hI => ?_)
        exact hret h dX9_claim_36 hI
    · replace h := if_t h c13
      refine lv_aload_n hx hb dX9_claim_16 rfl (lv_at hl 0 rfl) ?_
      refine lv_iconst (v := 1) hx hb dX9_claim_17 (by decide) ?_
      replace h := bd_at h
      obtain ⟨r18, z18, e18, h⟩ := h
      refine r_calli (rest := []) hC hI oM_0 (C := "EqualCourtModel") rfl ywX9_refuse tw_985 (cX9_refuse_ok  e18) ⟨Nat.le_of_ble_eq_true rfl, Nat.le_of_ble_eq_true rfl⟩ ⟨rfl, rfl⟩ rfl hl.1 rfl (Nat.le_of_ble_eq_true rfl) dX9_claim_18 (fun H locs hI => ?_)
      exact hret h dX9_claim_21 hI
theorem dX9_unclaim_0 : decode cX9_unclaim 0 = .ok (.aload_n 0, 1) := by decide +kernel
theorem dX9_unclaim_1 : decode cX9_unclaim 1 = .ok (.getfield 176, 3) := by decide +kernel
theorem dX9_unclaim_4 : decode cX9_unclaim 4 = .ok (.istore_n 1, 1) := by decide +kernel
theorem dX9_unclaim_5 : decode cX9_unclaim 5 = .ok (.aload_n 0, 1) := by decide +kernel
theorem dX9_unclaim_6 : decode cX9_unclaim 6 = .ok (.iconst 0, 1) := by decide +kernel
theorem dX9_unclaim_7 : decode cX9_unclaim 7 = .ok (.putfield 176, 3) := by decide +kernel
theorem dX9_unclaim_10 : decode cX9_unclaim 10 = .ok (.aload_n 0, 1) := by decide +kernel
theorem dX9_unclaim_11 : decode cX9_unclaim 11 = .ok (.iload_n 1, 1) := by decide +kernel
theorem dX9_unclaim_12 : decode cX9_unclaim 12 = .ok (.invokevirtual 123, 3) := by decide +kernel
theorem dX9_unclaim_15 : decode cX9_unclaim 15 = .ok (.ireturn, 1) := by decide +kernel
abbrev rmX9_unclaim : Room := { frames := 1, cells := 0, slots := 0, locals := 21 }
theorem ywX9_unclaim : fY yX9_unclaim "EqualCourtModel" cX9_unclaim 2 (some .int) 0 := ⟨tw_1240, tw_1241, tw_11, tw_1242, by decide +kernel⟩
set_option maxHeartbeats 4000000 in
set_option maxRecDepth 100000 in
theorem cX9_unclaim_ok {D : va_G} {ad : Nat → Nat} {cy cz : ClassId} {l : Launch} {z : fS}  {r : Int32} {τ : fS} (h : fX9_unclaim z = some (r, τ)) : fMi D 31 ad (cfM ad cy cz) cy cz l yX9_unclaim cX9_unclaim 2 (some .int) rmX9_unclaim [.ref (ad 0)] z r τ := by
  refine f_bodyi (by decide) (Nat.le_of_ble_eq_true rfl) (fun p e s m args below meth c Q hC hret ls hl hI => ?_)
  have hx := hC.1
  have hb := hC.2.1
  have hl : lv_has ls 2 [(0, .ref (ad 0))] := hl
  unfold fX9_unclaim at h
  refine lv_aload_n hx hb dX9_unclaim_0 rfl (lv_at hl 0 rfl) ?_
  refine gX9_steps hC hI tw_874 dX9_unclaim_1 ?_
  refine lv_topi (fun x4 e4 => ?_)
  replace h := bnd_at h e4
  refine lv_istore_n (lv' := [(1, .int x4), (0, .ref (ad 0))]) hx hb dX9_unclaim_4 rfl hl (by decide) rfl (fun ls hl => ?_)
  refine lv_aload_n hx hb dX9_unclaim_5 rfl (lv_at hl 1 rfl) ?_
  refine lv_iconst (v := 0) hx hb dX9_unclaim_6 (by decide) ?_
  refine pX9_steps hC hI tw_874 dX9_unclaim_7 (fun z7 H locs e7 hI => ?_)
  replace h := bnd_at h e7
  refine lv_aload_n hx hb dX9_unclaim_10 rfl (lv_at hl 1 rfl) ?_
  refine lv_iload_n hx hb dX9_unclaim_11 rfl (lv_at hl 0 rfl) ?_
  replace h := bd_at h
  obtain ⟨r12, z12, e12, h⟩ := h
  refine r_calli (rest := []) hC hI oM_0 (C := "EqualCourtModel") rfl ywX9_done tw_1001 (cX9_done_ok  e12) ⟨Nat.le_of_ble_eq_true rfl, Nat.le_of_ble_eq_true rfl⟩ ⟨rfl, rfl⟩ rfl hl.1 rfl (Nat.le_of_ble_eq_true rfl) dX9_unclaim_12 (fun H locs hI => ?_)
  exact hret h dX9_unclaim_15 hI
theorem dX9_isStep_0 : decode cX9_isStep 0 = .ok (.iload_n 1, 1) := by decide +kernel
theorem dX9_isStep_1 : decode cX9_isStep 1 = .ok (.ifCond .lt 12, 3) := by decide +kernel
theorem dX9_isStep_4 : decode cX9_isStep 4 = .ok (.iload_n 1, 1) := by decide +kernel
theorem dX9_isStep_5 : decode cX9_isStep 5 = .ok (.iload_n 2, 1) := by decide +kernel
theorem dX9_isStep_6 : decode cX9_isStep 6 = .ok (.if_icmp .ge 7, 3) := by decide +kernel
theorem dX9_isStep_9 : decode cX9_isStep 9 = .ok (.iconst 1, 1) := by decide +kernel
theorem dX9_isStep_10 : decode cX9_isStep 10 = .ok (.goto 4, 3) := by decide +kernel
theorem dX9_isStep_13 : decode cX9_isStep 13 = .ok (.iconst 0, 1) := by decide +kernel
theorem dX9_isStep_14 : decode cX9_isStep 14 = .ok (.ireturn, 1) := by decide +kernel
abbrev rmX9_isStep : Room := { frames := 0, cells := 0, slots := 0, locals := 0 }
theorem ywX9_isStep : fY yX9_isStep "EqualCourtModel" cX9_isStep 3 (some .boolean) 2 := ⟨tw_1253, tp_63, tw_11, tw_1254, by decide +kernel⟩
set_option maxHeartbeats 4000000 in
set_option maxRecDepth 100000 in
theorem cX9_isStep_ok {D : va_G} {ad : Nat → Nat} {cy cz : ClassId} {l : Launch} {z : fS} {v1 : Int32} {v2 : Int32} {r : Int32} (h : fX9_isStep z v1 v2 = some r) : fMi D 31 ad (cfM ad cy cz) cy cz l yX9_isStep cX9_isStep 3 (some .boolean) rmX9_isStep [.ref (ad 0), .int v1, .int v2] z r z := by
  refine f_bodyz (by decide) (Nat.le_of_ble_eq_true rfl) (fun p e s m args below meth c Q hC hret ls hl hI => ?_)
  have hx := hC.1
  have hb := hC.2.1
  have hl : lv_has ls 3 [(0, .ref (ad 0)), (1, .int v1), (2, .int v2)] := hl
  unfold fX9_isStep at h
  refine lv_iload_n hx hb dX9_isStep_0 rfl (lv_at hl 1 rfl) ?_
  refine lv_if_lt (tgt := 13) hx hb dX9_isStep_1 (by decide) (fun c1 => ?_) (fun c1 => ?_)
  · replace h := if_t h c1
    refine lv_iconst (v := 0) hx hb dX9_isStep_13 (by decide) ?_
    exact hret (ret_p _ h) (by decide) dX9_isStep_14 hI
  · replace h := if_f h c1
    refine lv_iload_n hx hb dX9_isStep_4 rfl (lv_at hl 1 rfl) ?_
    refine lv_iload_n hx hb dX9_isStep_5 rfl (lv_at hl 2 rfl) ?_
    refine lv_icmp_ge (tgt := 13) hx hb dX9_isStep_6 (by decide) (fun c6 => ?_) (fun c6 => ?_)
    · replace h := if_t h c6
      refine lv_iconst (v := 0) hx hb dX9_isStep_13 (by decide) ?_
      exact hret (ret_p _ h) (by decide) dX9_isStep_14 hI
    · replace h := if_f h c6
      refine lv_iconst (v := 1) hx hb dX9_isStep_9 (by decide) ?_
      refine lv_goto (tgt := 14) hx hb dX9_isStep_10 (by decide) ?_
      exact hret (ret_p _ h) (by decide) dX9_isStep_14 hI
theorem dX9_isKnown_0 : decode cX9_isKnown 0 = .ok (.iload_n 1, 1) := by decide +kernel
theorem dX9_isKnown_1 : decode cX9_isKnown 1 = .ok (.iload_n 2, 1) := by decide +kernel
theorem dX9_isKnown_2 : decode cX9_isKnown 2 = .ok (.if_icmp .ne 7, 3) := by decide +kernel
theorem dX9_isKnown_5 : decode cX9_isKnown 5 = .ok (.iconst 1, 1) := by decide +kernel
theorem dX9_isKnown_6 : decode cX9_isKnown 6 = .ok (.goto 4, 3) := by decide +kernel
theorem dX9_isKnown_9 : decode cX9_isKnown 9 = .ok (.iconst 0, 1) := by decide +kernel
theorem dX9_isKnown_10 : decode cX9_isKnown 10 = .ok (.istore 4, 2) := by decide +kernel
theorem dX9_isKnown_12 : decode cX9_isKnown 12 = .ok (.iconst 0, 1) := by decide +kernel
theorem dX9_isKnown_13 : decode cX9_isKnown 13 = .ok (.istore 5, 2) := by decide +kernel
theorem dX9_isKnown_15 : decode cX9_isKnown 15 = .ok (.iload 5, 2) := by decide +kernel
theorem dX9_isKnown_17 : decode cX9_isKnown 17 = .ok (.iload_n 3, 1) := by decide +kernel
theorem dX9_isKnown_18 : decode cX9_isKnown 18 = .ok (.if_icmp .ge 43, 3) := by decide +kernel
theorem dX9_isKnown_21 : decode cX9_isKnown 21 = .ok (.iload 4, 2) := by decide +kernel
theorem dX9_isKnown_23 : decode cX9_isKnown 23 = .ok (.ifCond .ne 38, 3) := by decide +kernel
theorem dX9_isKnown_26 : decode cX9_isKnown 26 = .ok (.aload_n 0, 1) := by decide +kernel
theorem dX9_isKnown_27 : decode cX9_isKnown 27 = .ok (.getfield 47, 3) := by decide +kernel
theorem dX9_isKnown_30 : decode cX9_isKnown 30 = .ok (.iload 5, 2) := by decide +kernel
theorem dX9_isKnown_32 : decode cX9_isKnown 32 = .ok (.iaload, 1) := by decide +kernel
theorem dX9_isKnown_33 : decode cX9_isKnown 33 = .ok (.iload_n 1, 1) := by decide +kernel
theorem dX9_isKnown_34 : decode cX9_isKnown 34 = .ok (.if_icmp .ne 18, 3) := by decide +kernel
theorem dX9_isKnown_37 : decode cX9_isKnown 37 = .ok (.aload_n 0, 1) := by decide +kernel
theorem dX9_isKnown_38 : decode cX9_isKnown 38 = .ok (.getfield 50, 3) := by decide +kernel
theorem dX9_isKnown_41 : decode cX9_isKnown 41 = .ok (.iload 5, 2) := by decide +kernel
theorem dX9_isKnown_43 : decode cX9_isKnown 43 = .ok (.iaload, 1) := by decide +kernel
theorem dX9_isKnown_44 : decode cX9_isKnown 44 = .ok (.iload_n 2, 1) := by decide +kernel
theorem dX9_isKnown_45 : decode cX9_isKnown 45 = .ok (.if_icmp .ne 7, 3) := by decide +kernel
theorem dX9_isKnown_48 : decode cX9_isKnown 48 = .ok (.iconst 1, 1) := by decide +kernel
theorem dX9_isKnown_49 : decode cX9_isKnown 49 = .ok (.goto 4, 3) := by decide +kernel
theorem dX9_isKnown_52 : decode cX9_isKnown 52 = .ok (.iconst 0, 1) := by decide +kernel
theorem dX9_isKnown_53 : decode cX9_isKnown 53 = .ok (.istore 4, 2) := by decide +kernel
theorem dX9_isKnown_55 : decode cX9_isKnown 55 = .ok (.iinc 5 1, 3) := by decide +kernel
theorem dX9_isKnown_58 : decode cX9_isKnown 58 = .ok (.goto (-43), 3) := by decide +kernel
theorem dX9_isKnown_61 : decode cX9_isKnown 61 = .ok (.iload 4, 2) := by decide +kernel
theorem dX9_isKnown_63 : decode cX9_isKnown 63 = .ok (.ireturn, 1) := by decide +kernel
abbrev rmX9_isKnown : Room := { frames := 0, cells := 0, slots := 0, locals := 0 }
theorem ywX9_isKnown : fY yX9_isKnown "EqualCourtModel" cX9_isKnown 6 (some .boolean) 3 := ⟨tw_1261, tp_65, tw_11, tw_1262, by decide +kernel⟩
set_option maxHeartbeats 4000000 in
set_option maxRecDepth 100000 in
theorem cX9_isKnown_ok {D : va_G} {ad : Nat → Nat} {cy cz : ClassId} {l : Launch} {z : fS} {v1 : Int32} {v2 : Int32} {v3 : Int32} {r : Int32} (h : fX9_isKnown z v1 v2 v3 = some r) : fMi D 31 ad (cfM ad cy cz) cy cz l yX9_isKnown cX9_isKnown 6 (some .boolean) rmX9_isKnown [.ref (ad 0), .int v1, .int v2, .int v3] z r z := by
  refine f_bodyz (by decide) (Nat.le_of_ble_eq_true rfl) (fun p e s m args below meth c Q hC hret ls hl hI => ?_)
  have hx := hC.1
  have hb := hC.2.1
  have hl : lv_has ls 6 [(0, .ref (ad 0)), (1, .int v1), (2, .int v2), (3, .int v3)] := hl
  unfold fX9_isKnown at h
  have w10 : ∀ (v1 : Int32) (v2 : Int32) (v3 : Int32) (y0 : Int32) (H : Heap) (locs : List Loc) (ls : Array Slot), fI D 31 ad (cfM ad cy cz) z s H locs → lv_has ls 6 [(0, .ref (ad 0)), (1, .int v1), (2, .int v2), (3, .int v3)] → jX9_isKnown_10   z v1 v2 v3 y0 = some r → W p l e rmX9_isKnown s m args below meth c H locs 0 0 Q (F0 m 10 ls [.int y0]) := by
    intro v1 v2 v3 y0 H locs ls hI hl h
    unfold jX9_isKnown_10 at h
    refine lv_istore (lv' := [(4, .int y0), (0, .ref (ad 0)), (1, .int v1), (2, .int v2), (3, .int v3)]) hx hb dX9_isKnown_10 hl (by decide) rfl (fun ls hl => ?_)
    refine lv_iconst (v := 0) hx hb dX9_isKnown_12 (by decide) ?_
    refine lv_istore (lv' := [(5, .int (0 : Int32)), (4, .int y0), (0, .ref (ad 0)), (1, .int v1), (2, .int v2), (3, .int v3)]) hx hb dX9_isKnown_13 hl (by decide) rfl (fun ls hl => ?_)
    have w15 : ∀ (N15 : Nat) (v1 : Int32) (v2 : Int32) (v3 : Int32) (v4 : Int32) (v5 : Int32) (H : Heap) (locs : List Loc) (ls : Array Slot), fI D 31 ad (cfM ad cy cz) z s H locs → lv_has ls 6 [(0, .ref (ad 0)), (1, .int v1), (2, .int v2), (3, .int v3), (4, .int v4), (5, .int v5)] → lX9_isKnown_15   z v1 v2 v3 N15 v4 v5 = some r → W p l e rmX9_isKnown s m args below meth c H locs 0 0 Q (F0 m 15 ls []) := by
      intro N15
      induction N15 with
      | zero =>
        intro v1 v2 v3 v4 v5 H locs ls hI hl h
        exact none_no h
      | succ N15 ih15 =>
        intro v1 v2 v3 v4 v5 H locs ls hI hl h
        rw [lX9_isKnown_15.eq_2] at h
        refine lv_iload hx hb dX9_isKnown_15 (lv_at hl 5 rfl) ?_
        refine lv_iload_n hx hb dX9_isKnown_17 rfl (lv_at hl 3 rfl) ?_
        refine lv_icmp_ge (tgt := 61) hx hb dX9_isKnown_18 (by decide) (fun c18 => ?_) (fun c18 => ?_)
        · replace h := if_t h c18
          refine lv_iload hx hb dX9_isKnown_61 (lv_at hl 4 rfl) ?_
          have g63 := (gd_at h).1
          replace h := (gd_at h).2
          exact hret (ret_p _ h) g63 dX9_isKnown_63 hI
        · replace h := if_f h c18
          refine lv_iload hx hb dX9_isKnown_21 (lv_at hl 4 rfl) ?_
          refine lv_if_ne (tgt := 61) hx hb dX9_isKnown_23 (by decide) (fun c23 => ?_) (fun c23 => ?_)
          · replace h := if_f h c23
            refine lv_iload hx hb dX9_isKnown_61 (lv_at hl 4 rfl) ?_
            have g63 := (gd_at h).1
            replace h := (gd_at h).2
            exact hret (ret_p _ h) g63 dX9_isKnown_63 hI
          · replace h := if_t h c23
            refine lv_aload_n hx hb dX9_isKnown_26 rfl (lv_at hl 0 rfl) ?_
            refine gX9_stepA hC hI tw_870 dX9_isKnown_27 ?_
            refine lv_iload hx hb dX9_isKnown_30 (lv_at hl 5 rfl) ?_
            have g32 := (gd_at h).1
            replace h := (gd_at h).2
            refine r_iald hC hI aM_13 g32 dX9_isKnown_32 ?_
            refine lv_iload_n hx hb dX9_isKnown_33 rfl (lv_at hl 1 rfl) ?_
            refine lv_icmp_ne (tgt := 52) hx hb dX9_isKnown_34 (by decide) (fun c34 => ?_) (fun c34 => ?_)
            · replace h := if_f h c34
              refine lv_iconst (v := 0) hx hb dX9_isKnown_52 (by decide) ?_
              refine lv_istore (lv' := [(4, .int (0 : Int32)), (0, .ref (ad 0)), (1, .int v1), (2, .int v2), (3, .int v3), (5, .int v5)]) hx hb dX9_isKnown_53 hl (by decide) rfl (fun ls hl => ?_)
              obtain ⟨x55, e55⟩ : ∃ y : Int32, y = (v5 + (1 : Int32)) := ⟨_, rfl⟩
              replace h := bnd_at h e55
              refine lv_iinc (v := x55) (lv' := [(5, .int x55), (4, .int (0 : Int32)), (0, .ref (ad 0)), (1, .int v1), (2, .int v2), (3, .int v3)]) hx hb dX9_isKnown_55 hl (k := 5) rfl (by rw [e55]; rfl) (by decide) rfl (fun ls hl => ?_)
              refine lv_goto (tgt := 15) hx hb dX9_isKnown_58 (by decide) ?_
              exact ih15 v1 v2 v3 (0 : Int32) x55 _ _ _ hI (lv_sub hl [2, 3, 4, 5, 1, 0] rfl) h
            · replace h := if_t h c34
              refine lv_aload_n hx hb dX9_isKnown_37 rfl (lv_at hl 0 rfl) ?_
              refine gX9_stepB hC hI tw_871 dX9_isKnown_38 ?_
              refine lv_iload hx hb dX9_isKnown_41 (lv_at hl 5 rfl) ?_
              have g43 := (gd_at h).1
              replace h := (gd_at h).2
              refine r_iald hC hI aM_14 g43 dX9_isKnown_43 ?_
              refine lv_iload_n hx hb dX9_isKnown_44 rfl (lv_at hl 2 rfl) ?_
              refine lv_icmp_ne (tgt := 52) hx hb dX9_isKnown_45 (by decide) (fun c45 => ?_) (fun c45 => ?_)
              · replace h := if_f h c45
                refine lv_iconst (v := 0) hx hb dX9_isKnown_52 (by decide) ?_
                refine lv_istore (lv' := [(4, .int (0 : Int32)), (0, .ref (ad 0)), (1, .int v1), (2, .int v2), (3, .int v3), (5, .int v5)]) hx hb dX9_isKnown_53 hl (by decide) rfl (fun ls hl => ?_)
                obtain ⟨x55, e55⟩ : ∃ y : Int32, y = (v5 + (1 : Int32)) := ⟨_, rfl⟩
                replace h := bnd_at h e55
                refine lv_iinc (v := x55) (lv' := [(5, .int x55), (4, .int (0 : Int32)), (0, .ref (ad 0)), (1, .int v1), (2, .int v2), (3, .int v3)]) hx hb dX9_isKnown_55 hl (k := 5) rfl (by rw [e55]; rfl) (by decide) rfl (fun ls hl => ?_)
                refine lv_goto (tgt := 15) hx hb dX9_isKnown_58 (by decide) ?_
                exact ih15 v1 v2 v3 (0 : Int32) x55 _ _ _ hI (lv_sub hl [2, 3, 4, 5, 1, 0] rfl) h
              · replace h := if_t h c45
                refine lv_iconst (v := 1) hx hb dX9_isKnown_48 (by decide) ?_
                refine lv_goto (tgt := 53) hx hb dX9_isKnown_49 (by decide) ?_
                refine lv_istore (lv' := [(4, .int (1 : Int32)), (0, .ref (ad 0)), (1, .int v1), (2, .int v2), (3, .int v3), (5, .int v5)]) hx hb dX9_isKnown_53 hl (by decide) rfl (fun ls hl => ?_)
                obtain ⟨x55, e55⟩ : ∃ y : Int32, y = (v5 + (1 : Int32)) := ⟨_, rfl⟩
                replace h := bnd_at h e55
                refine lv_iinc (v := x55) (lv' := [(5, .int x55), (4, .int (1 : Int32)), (0, .ref (ad 0)), (1, .int v1), (2, .int v2), (3, .int v3)]) hx hb dX9_isKnown_55 hl (k := 5) rfl (by rw [e55]; rfl) (by decide) rfl (fun ls hl => ?_)
                refine lv_goto (tgt := 15) hx hb dX9_isKnown_58 (by decide) ?_
                exact ih15 v1 v2 v3 (1 : Int32) x55 _ _ _ hI (lv_sub hl [2, 3, 4, 5, 1, 0] rfl) h
    exact w15 FU v1 v2 v3 y0 (0 : Int32) _ _ _ hI (lv_sub hl [2, 3, 4, 5, 1, 0] rfl) h
  refine lv_iload_n hx hb dX9_isKnown_0 rfl (lv_at hl 1 rfl) ?_
  refine lv_iload_n hx hb dX9_isKnown_1 rfl (lv_at hl 2 rfl) ?_
  refine lv_icmp_ne (tgt := 9) hx hb dX9_isKnown_2 (by decide) (fun c2 => ?_) (fun c2 => ?_)
  · replace h := if_f h c2
    refine lv_iconst (v := 0) hx hb dX9_isKnown_9 (by decide) ?_
    exact w10 v1 v2 v3 (0 : Int32) _ _ _ hI hl h
  · replace h := if_t h c2
    refine lv_iconst (v := 1) hx hb dX9_isKnown_5 (by decide) ?_
    refine lv_goto (tgt := 10) hx hb dX9_isKnown_6 (by decide) ?_
    exact w10 v1 v2 v3 (1 : Int32) _ _ _ hI hl h
theorem dX9_isRightByParts_0 : decode cX9_isRightByParts 0 = .ok (.aload_n 0, 1) := by decide +kernel
theorem dX9_isRightByParts_1 : decode cX9_isRightByParts 1 = .ok (.getfield 47, 3) := by decide +kernel
theorem dX9_isRightByParts_4 : decode cX9_isRightByParts 4 = .ok (.iload_n 1, 1) := by decide +kernel
theorem dX9_isRightByParts_5 : decode cX9_isRightByParts 5 = .ok (.iaload, 1) := by decide +kernel
theorem dX9_isRightByParts_6 : decode cX9_isRightByParts 6 = .ok (.istore_n 2, 1) := by decide +kernel
theorem dX9_isRightByParts_7 : decode cX9_isRightByParts 7 = .ok (.aload_n 0, 1) := by decide +kernel
theorem dX9_isRightByParts_8 : decode cX9_isRightByParts 8 = .ok (.getfield 50, 3) := by decide +kernel
theorem dX9_isRightByParts_11 : decode cX9_isRightByParts 11 = .ok (.iload_n 1, 1) := by decide +kernel
theorem dX9_isRightByParts_12 : decode cX9_isRightByParts 12 = .ok (.iaload, 1) := by decide +kernel
theorem dX9_isRightByParts_13 : decode cX9_isRightByParts 13 = .ok (.istore_n 3, 1) := by decide +kernel
theorem dX9_isRightByParts_14 : decode cX9_isRightByParts 14 = .ok (.aload_n 0, 1) := by decide +kernel
theorem dX9_isRightByParts_15 : decode cX9_isRightByParts 15 = .ok (.getfield 16, 3) := by decide +kernel
theorem dX9_isRightByParts_18 : decode cX9_isRightByParts 18 = .ok (.iload_n 2, 1) := by decide +kernel
theorem dX9_isRightByParts_19 : decode cX9_isRightByParts 19 = .ok (.iaload, 1) := by decide +kernel
theorem dX9_isRightByParts_20 : decode cX9_isRightByParts 20 = .ok (.ifCond .eq 48, 3) := by decide +kernel
theorem dX9_isRightByParts_23 : decode cX9_isRightByParts 23 = .ok (.aload_n 0, 1) := by decide +kernel
theorem dX9_isRightByParts_24 : decode cX9_isRightByParts 24 = .ok (.getfield 7, 3) := by decide +kernel
theorem dX9_isRightByParts_27 : decode cX9_isRightByParts 27 = .ok (.iload_n 2, 1) := by decide +kernel
theorem dX9_isRightByParts_28 : decode cX9_isRightByParts 28 = .ok (.iaload, 1) := by decide +kernel
theorem dX9_isRightByParts_29 : decode cX9_isRightByParts 29 = .ok (.aload_n 0, 1) := by decide +kernel
theorem dX9_isRightByParts_30 : decode cX9_isRightByParts 30 = .ok (.getfield 7, 3) := by decide +kernel
theorem dX9_isRightByParts_33 : decode cX9_isRightByParts 33 = .ok (.iload_n 3, 1) := by decide +kernel
theorem dX9_isRightByParts_34 : decode cX9_isRightByParts 34 = .ok (.iaload, 1) := by decide +kernel
theorem dX9_isRightByParts_35 : decode cX9_isRightByParts 35 = .ok (.if_icmp .ne 33, 3) := by decide +kernel
theorem dX9_isRightByParts_38 : decode cX9_isRightByParts 38 = .ok (.aload_n 0, 1) := by decide +kernel
theorem dX9_isRightByParts_39 : decode cX9_isRightByParts 39 = .ok (.getfield 13, 3) := by decide +kernel
theorem dX9_isRightByParts_42 : decode cX9_isRightByParts 42 = .ok (.iload_n 2, 1) := by decide +kernel
theorem dX9_isRightByParts_43 : decode cX9_isRightByParts 43 = .ok (.iaload, 1) := by decide +kernel
theorem dX9_isRightByParts_44 : decode cX9_isRightByParts 44 = .ok (.aload_n 0, 1) := by decide +kernel
theorem dX9_isRightByParts_45 : decode cX9_isRightByParts 45 = .ok (.getfield 13, 3) := by decide +kernel
theorem dX9_isRightByParts_48 : decode cX9_isRightByParts 48 = .ok (.iload_n 3, 1) := by decide +kernel
theorem dX9_isRightByParts_49 : decode cX9_isRightByParts 49 = .ok (.iaload, 1) := by decide +kernel
theorem dX9_isRightByParts_50 : decode cX9_isRightByParts 50 = .ok (.if_icmp .ne 18, 3) := by decide +kernel
theorem dX9_isRightByParts_53 : decode cX9_isRightByParts 53 = .ok (.aload_n 0, 1) := by decide +kernel
theorem dX9_isRightByParts_54 : decode cX9_isRightByParts 54 = .ok (.getfield 16, 3) := by decide +kernel
theorem dX9_isRightByParts_57 : decode cX9_isRightByParts 57 = .ok (.iload_n 2, 1) := by decide +kernel
theorem dX9_isRightByParts_58 : decode cX9_isRightByParts 58 = .ok (.iaload, 1) := by decide +kernel
theorem dX9_isRightByParts_59 : decode cX9_isRightByParts 59 = .ok (.aload_n 0, 1) := by decide +kernel
theorem dX9_isRightByParts_60 : decode cX9_isRightByParts 60 = .ok (.getfield 16, 3) := by decide +kernel
theorem dX9_isRightByParts_63 : decode cX9_isRightByParts 63 = .ok (.iload_n 3, 1) := by decide +kernel
theorem dX9_isRightByParts_64 : decode cX9_isRightByParts 64 = .ok (.iaload, 1) := by decide +kernel
theorem dX9_isRightByParts_65 : decode cX9_isRightByParts 65 = .ok (.if_icmp .eq 5, 3) := by decide +kernel
theorem dX9_isRightByParts_68 : decode cX9_isRightByParts 68 = .ok (.iconst 0, 1) := by decide +kernel
theorem dX9_isRightByParts_69 : decode cX9_isRightByParts 69 = .ok (.ireturn, 1) := by decide +kernel
theorem dX9_isRightByParts_70 : decode cX9_isRightByParts 70 = .ok (.aload_n 0, 1) := by decide +kernel
theorem dX9_isRightByParts_71 : decode cX9_isRightByParts 71 = .ok (.getfield 7, 3) := by decide +kernel
theorem dX9_isRightByParts_74 : decode cX9_isRightByParts 74 = .ok (.iload_n 2, 1) := by decide +kernel
theorem dX9_isRightByParts_75 : decode cX9_isRightByParts 75 = .ok (.iaload, 1) := by decide +kernel
theorem dX9_isRightByParts_76 : decode cX9_isRightByParts 76 = .ok (.iconst 4, 1) := by decide +kernel
theorem dX9_isRightByParts_77 : decode cX9_isRightByParts 77 = .ok (.if_icmp .ne 17, 3) := by decide +kernel
theorem dX9_isRightByParts_80 : decode cX9_isRightByParts 80 = .ok (.aload_n 0, 1) := by decide +kernel
theorem dX9_isRightByParts_81 : decode cX9_isRightByParts 81 = .ok (.getfield 53, 3) := by decide +kernel
theorem dX9_isRightByParts_84 : decode cX9_isRightByParts 84 = .ok (.iload_n 1, 1) := by decide +kernel
theorem dX9_isRightByParts_85 : decode cX9_isRightByParts 85 = .ok (.iaload, 1) := by decide +kernel
theorem dX9_isRightByParts_86 : decode cX9_isRightByParts 86 = .ok (.iconst 1, 1) := by decide +kernel
theorem dX9_isRightByParts_87 : decode cX9_isRightByParts 87 = .ok (.if_icmp .ne 7, 3) := by decide +kernel
theorem dX9_isRightByParts_90 : decode cX9_isRightByParts 90 = .ok (.iconst 1, 1) := by decide +kernel
theorem dX9_isRightByParts_91 : decode cX9_isRightByParts 91 = .ok (.goto 4, 3) := by decide +kernel
theorem dX9_isRightByParts_94 : decode cX9_isRightByParts 94 = .ok (.iconst 0, 1) := by decide +kernel
theorem dX9_isRightByParts_95 : decode cX9_isRightByParts 95 = .ok (.istore 4, 2) := by decide +kernel
theorem dX9_isRightByParts_97 : decode cX9_isRightByParts 97 = .ok (.iconst 1, 1) := by decide +kernel
theorem dX9_isRightByParts_98 : decode cX9_isRightByParts 98 = .ok (.istore 5, 2) := by decide +kernel
theorem dX9_isRightByParts_100 : decode cX9_isRightByParts 100 = .ok (.iconst 0, 1) := by decide +kernel
theorem dX9_isRightByParts_101 : decode cX9_isRightByParts 101 = .ok (.istore 6, 2) := by decide +kernel
theorem dX9_isRightByParts_103 : decode cX9_isRightByParts 103 = .ok (.iload 6, 2) := by decide +kernel
theorem dX9_isRightByParts_105 : decode cX9_isRightByParts 105 = .ok (.aload_n 0, 1) := by decide +kernel
theorem dX9_isRightByParts_106 : decode cX9_isRightByParts 106 = .ok (.getfield 16, 3) := by decide +kernel
theorem dX9_isRightByParts_109 : decode cX9_isRightByParts 109 = .ok (.iload_n 2, 1) := by decide +kernel
theorem dX9_isRightByParts_110 : decode cX9_isRightByParts 110 = .ok (.iaload, 1) := by decide +kernel
theorem dX9_isRightByParts_111 : decode cX9_isRightByParts 111 = .ok (.if_icmp .ge 55, 3) := by decide +kernel
theorem dX9_isRightByParts_114 : decode cX9_isRightByParts 114 = .ok (.iload 5, 2) := by decide +kernel
theorem dX9_isRightByParts_116 : decode cX9_isRightByParts 116 = .ok (.ifCond .eq 50, 3) := by decide +kernel
theorem dX9_isRightByParts_119 : decode cX9_isRightByParts 119 = .ok (.aload_n 0, 1) := by decide +kernel
theorem dX9_isRightByParts_120 : decode cX9_isRightByParts 120 = .ok (.aload_n 0, 1) := by decide +kernel
theorem dX9_isRightByParts_121 : decode cX9_isRightByParts 121 = .ok (.getfield 19, 3) := by decide +kernel
theorem dX9_isRightByParts_124 : decode cX9_isRightByParts 124 = .ok (.iconst 3, 1) := by decide +kernel
theorem dX9_isRightByParts_125 : decode cX9_isRightByParts 125 = .ok (.iload_n 2, 1) := by decide +kernel
theorem dX9_isRightByParts_126 : decode cX9_isRightByParts 126 = .ok (.imul, 1) := by decide +kernel
theorem dX9_isRightByParts_127 : decode cX9_isRightByParts 127 = .ok (.iload 6, 2) := by decide +kernel
theorem dX9_isRightByParts_129 : decode cX9_isRightByParts 129 = .ok (.iadd, 1) := by decide +kernel
theorem dX9_isRightByParts_130 : decode cX9_isRightByParts 130 = .ok (.iaload, 1) := by decide +kernel
theorem dX9_isRightByParts_131 : decode cX9_isRightByParts 131 = .ok (.aload_n 0, 1) := by decide +kernel
theorem dX9_isRightByParts_132 : decode cX9_isRightByParts 132 = .ok (.getfield 19, 3) := by decide +kernel
theorem dX9_isRightByParts_135 : decode cX9_isRightByParts 135 = .ok (.iconst 3, 1) := by decide +kernel
theorem dX9_isRightByParts_136 : decode cX9_isRightByParts 136 = .ok (.iload_n 3, 1) := by decide +kernel
theorem dX9_isRightByParts_137 : decode cX9_isRightByParts 137 = .ok (.imul, 1) := by decide +kernel
theorem dX9_isRightByParts_138 : decode cX9_isRightByParts 138 = .ok (.iload 4, 2) := by decide +kernel
theorem dX9_isRightByParts_140 : decode cX9_isRightByParts 140 = .ok (.ifCond .eq 10, 3) := by decide +kernel
theorem dX9_isRightByParts_143 : decode cX9_isRightByParts 143 = .ok (.iconst 1, 1) := by decide +kernel
theorem dX9_isRightByParts_144 : decode cX9_isRightByParts 144 = .ok (.iload 6, 2) := by decide +kernel
theorem dX9_isRightByParts_146 : decode cX9_isRightByParts 146 = .ok (.isub, 1) := by decide +kernel
theorem dX9_isRightByParts_147 : decode cX9_isRightByParts 147 = .ok (.goto 5, 3) := by decide +kernel
theorem dX9_isRightByParts_150 : decode cX9_isRightByParts 150 = .ok (.iload 6, 2) := by decide +kernel
theorem dX9_isRightByParts_152 : decode cX9_isRightByParts 152 = .ok (.iadd, 1) := by decide +kernel
theorem dX9_isRightByParts_153 : decode cX9_isRightByParts 153 = .ok (.iaload, 1) := by decide +kernel
theorem dX9_isRightByParts_154 : decode cX9_isRightByParts 154 = .ok (.iload_n 1, 1) := by decide +kernel
theorem dX9_isRightByParts_155 : decode cX9_isRightByParts 155 = .ok (.invokevirtual 263, 3) := by decide +kernel
theorem dX9_isRightByParts_158 : decode cX9_isRightByParts 158 = .ok (.istore 5, 2) := by decide +kernel
theorem dX9_isRightByParts_160 : decode cX9_isRightByParts 160 = .ok (.iinc 6 1, 3) := by decide +kernel
theorem dX9_isRightByParts_163 : decode cX9_isRightByParts 163 = .ok (.goto (-60), 3) := by decide +kernel
theorem dX9_isRightByParts_166 : decode cX9_isRightByParts 166 = .ok (.iload 5, 2) := by decide +kernel
theorem dX9_isRightByParts_168 : decode cX9_isRightByParts 168 = .ok (.ireturn, 1) := by decide +kernel
abbrev rmX9_isRightByParts : Room := { frames := 1, cells := 0, slots := 0, locals := 25 }
theorem ywX9_isRightByParts : fY yX9_isRightByParts "EqualCourtModel" cX9_isRightByParts 7 (some .boolean) 1 := ⟨tw_1257, tp_64, tw_11, tw_1258, by decide +kernel⟩
set_option maxHeartbeats 4000000 in
set_option maxRecDepth 100000 in
theorem cX9_isRightByParts_ok {D : va_G} {ad : Nat → Nat} {cy cz : ClassId} {l : Launch} {z : fS} {v1 : Int32} {r : Int32} (h : fX9_isRightByParts z v1 = some r) : fMi D 31 ad (cfM ad cy cz) cy cz l yX9_isRightByParts cX9_isRightByParts 7 (some .boolean) rmX9_isRightByParts [.ref (ad 0), .int v1] z r z := by
  refine f_bodyz (by decide) (Nat.le_of_ble_eq_true rfl) (fun p e s m args below meth c Q hC hret ls hl hI => ?_)
  have hx := hC.1
  have hb := hC.2.1
  have hl : lv_has ls 7 [(0, .ref (ad 0)), (1, .int v1)] := hl
  unfold fX9_isRightByParts at h
  have w95 : ∀ (v1 : Int32) (v2 : Int32) (v3 : Int32) (y0 : Int32) (H : Heap) (locs : List Loc) (ls : Array Slot), fI D 31 ad (cfM ad cy cz) z s H locs → lv_has ls 7 [(0, .ref (ad 0)), (1, .int v1), (2, .int v2), (3, .int v3)] → jX9_isRightByParts_95   z v1 v2 v3 y0 = some r → W p l e rmX9_isRightByParts s m args below meth c H locs 0 0 Q (F0 m 95 ls [.int y0]) := by
    intro v1 v2 v3 y0 H locs ls hI hl h
    unfold jX9_isRightByParts_95 at h
    refine lv_istore (lv' := [(4, .int y0), (0, .ref (ad 0)), (1, .int v1), (2, .int v2), (3, .int v3)]) hx hb dX9_isRightByParts_95 hl (by decide) rfl (fun ls hl => ?_)
    refine lv_iconst (v := 1) hx hb dX9_isRightByParts_97 (by decide) ?_
    refine lv_istore (lv' := [(5, .int (1 : Int32)), (4, .int y0), (0, .ref (ad 0)), (1, .int v1), (2, .int v2), (3, .int v3)]) hx hb dX9_isRightByParts_98 hl (by decide) rfl (fun ls hl => ?_)
    refine lv_iconst (v := 0) hx hb dX9_isRightByParts_100 (by decide) ?_
    refine lv_istore (lv' := [(6, .int (0 : Int32)), (5, .int (1 : Int32)), (4, .int y0), (0, .ref (ad 0)), (1, .int v1), (2, .int v2), (3, .int v3)]) hx hb dX9_isRightByParts_101 hl (by decide) rfl (fun ls hl => ?_)
    have w103 : ∀ (N103 : Nat) (v1 : Int32) (v2 : Int32) (v3 : Int32) (v4 : Int32) (v5 : Int32) (v6 : Int32) (H : Heap) (locs : List Loc) (ls : Array Slot), fI D 31 ad (cfM ad cy cz) z s H locs → lv_has ls 7 [(0, .ref (ad 0)), (1, .int v1), (2, .int v2), (3, .int v3), (4, .int v4), (5, .int v5), (6, .int v6)] → lX9_isRightByParts_103   z v1 v2 v3 v4 N103 v5 v6 = some r → W p l e rmX9_isRightByParts s m args below meth c H locs 0 0 Q (F0 m 103 ls []) := by
      intro N103
      induction N103 with
      | zero =>
        intro v1 v2 v3 v4 v5 v6 H locs ls hI hl h
        exact none_no h
      | succ N103 ih103 =>
        intro v1 v2 v3 v4 v5 v6 H locs ls hI hl h
        rw [lX9_isRightByParts_103.eq_2] at h
        refine lv_iload hx hb dX9_isRightByParts_103 (lv_at hl 6 rfl) ?_
        refine lv_aload_n hx hb dX9_isRightByParts_105 rfl (lv_at hl 0 rfl) ?_
        refine gX9_partMany hC hI tw_856 dX9_isRightByParts_106 ?_
        refine lv_iload_n hx hb dX9_isRightByParts_109 rfl (lv_at hl 2 rfl) ?_
        have g110 := (gd_at h).1
        replace h := (gd_at h).2
        refine r_iald hC hI aM_3 g110 dX9_isRightByParts_110 ?_
        refine lv_icmp_ge (tgt := 166) hx hb dX9_isRightByParts_111 (by decide) (fun c111 => ?_) (fun c111 => ?_)
        · replace h := if_t h c111
          refine lv_iload hx hb dX9_isRightByParts_166 (lv_at hl 5 rfl) ?_
          have g168 := (gd_at h).1
          replace h := (gd_at h).2
          exact hret (ret_p _ h) g168 dX9_isRightByParts_168 hI
        · replace h := if_f h c111
          refine lv_iload hx hb dX9_isRightByParts_114 (lv_at hl 5 rfl) ?_
          refine lv_if_eq (tgt := 166) hx hb dX9_isRightByParts_116 (by decide) (fun c116 => ?_) (fun c116 => ?_)
          · replace h := if_t h c116
            refine lv_iload hx hb dX9_isRightByParts_166 (lv_at hl 5 rfl) ?_
            have g168 := (gd_at h).1
            replace h := (gd_at h).2
            exact hret (ret_p _ h) g168 dX9_isRightByParts_168 hI
          · replace h := if_f h c116
            refine lv_aload_n hx hb dX9_isRightByParts_119 rfl (lv_at hl 0 rfl) ?_
            refine lv_aload_n hx hb dX9_isRightByParts_120 rfl (lv_at hl 0 rfl) ?_
            refine gX9_partOf hC hI tw_857 dX9_isRightByParts_121 ?_
            refine lv_iconst (v := 3) hx hb dX9_isRightByParts_124 (by decide) ?_
            refine lv_iload_n hx hb dX9_isRightByParts_125 rfl (lv_at hl 2 rfl) ?_
            refine lv_imul hx hb dX9_isRightByParts_126 ?_
            refine lv_iload hx hb dX9_isRightByParts_127 (lv_at hl 6 rfl) ?_
            refine lv_iadd hx hb dX9_isRightByParts_129 ?_
            have g130 := (gd_at h).1
            replace h := (gd_at h).2
            refine r_iald hC hI aM_4 g130 dX9_isRightByParts_130 ?_
            refine lv_aload_n hx hb dX9_isRightByParts_131 rfl (lv_at hl 0 rfl) ?_
            refine gX9_partOf hC hI tw_857 dX9_isRightByParts_132 ?_
            refine lv_iconst (v := 3) hx hb dX9_isRightByParts_135 (by decide) ?_
            refine lv_iload_n hx hb dX9_isRightByParts_136 rfl (lv_at hl 3 rfl) ?_
            refine lv_imul hx hb dX9_isRightByParts_137 ?_
            refine lv_iload hx hb dX9_isRightByParts_138 (lv_at hl 4 rfl) ?_
            refine lv_if_eq (tgt := 150) hx hb dX9_isRightByParts_140 (by decide) (fun c140 => ?_) (fun c140 => ?_)
            · replace h := if_t h c140
              refine lv_iload hx hb dX9_isRightByParts_150 (lv_at hl 6 rfl) ?_
              refine lv_iadd hx hb dX9_isRightByParts_152 ?_
              have g153 := (gd_at h).1
              replace h := (gd_at h).2
              refine r_iald hC hI aM_4 g153 dX9_isRightByParts_153 ?_
              refine lv_iload_n hx hb dX9_isRightByParts_154 rfl (lv_at hl 1 rfl) ?_
              replace h := bp_at h
              obtain ⟨r155, e155, h⟩ := h
              refine r_calli (rest := []) hC hI oM_0 (C := "EqualCourtModel") rfl ywX9_isKnown tw_1259 (cX9_isKnown_ok  e155) ⟨Nat.le_of_ble_eq_true rfl, Nat.le_of_ble_eq_true rfl⟩ ⟨rfl, rfl⟩ rfl hl.1 rfl (Nat.le_of_ble_eq_true rfl) dX9_isRightByParts_155 (fun H locs hI => ?_)
              refine lv_istore (lv' := [(5, .int r155), (0, .ref (ad 0)), (1, .int v1), (2, .int v2), (3, .int v3), (4, .int v4), (6, .int v6)]) hx hb dX9_isRightByParts_158 hl (by decide) rfl (fun ls hl => ?_)
              obtain ⟨x160, e160⟩ : ∃ y : Int32, y = (v6 + (1 : Int32)) := ⟨_, rfl⟩
              replace h := bnd_at h e160
              refine lv_iinc (v := x160) (lv' := [(6, .int x160), (5, .int r155), (0, .ref (ad 0)), (1, .int v1), (2, .int v2), (3, .int v3), (4, .int v4)]) hx hb dX9_isRightByParts_160 hl (k := 6) rfl (by rw [e160]; rfl) (by decide) rfl (fun ls hl => ?_)
              refine lv_goto (tgt := 103) hx hb dX9_isRightByParts_163 (by decide) ?_
              exact ih103 v1 v2 v3 v4 r155 x160 _ _ _ hI (lv_sub hl [2, 3, 4, 5, 6, 1, 0] rfl) h
            · replace h := if_f h c140
              refine lv_iconst (v := 1) hx hb dX9_isRightByParts_143 (by decide) ?_
              refine lv_iload hx hb dX9_isRightByParts_144 (lv_at hl 6 rfl) ?_
              refine lv_isub hx hb dX9_isRightByParts_146 ?_
              refine lv_goto (tgt := 152) hx hb dX9_isRightByParts_147 (by decide) ?_
              refine lv_iadd hx hb dX9_isRightByParts_152 ?_
              have g153 := (gd_at h).1
              replace h := (gd_at h).2
              refine r_iald hC hI aM_4 g153 dX9_isRightByParts_153 ?_
              refine lv_iload_n hx hb dX9_isRightByParts_154 rfl (lv_at hl 1 rfl) ?_
              replace h := bp_at h
              obtain ⟨r155, e155, h⟩ := h
              refine r_calli (rest := []) hC hI oM_0 (C := "EqualCourtModel") rfl ywX9_isKnown tw_1259 (cX9_isKnown_ok  e155) ⟨Nat.le_of_ble_eq_true rfl, Nat.le_of_ble_eq_true rfl⟩ ⟨rfl, rfl⟩ rfl hl.1 rfl (Nat.le_of_ble_eq_true rfl) dX9_isRightByParts_155 (fun H locs hI => ?_)
              refine lv_istore (lv' := [(5, .int r155), (0, .ref (ad 0)), (1, .int v1), (2, .int v2), (3, .int v3), (4, .int v4), (6, .int v6)]) hx hb dX9_isRightByParts_158 hl (by decide) rfl (fun ls hl => ?_)
              obtain ⟨x160, e160⟩ : ∃ y : Int32, y = (v6 + (1 : Int32)) := ⟨_, rfl⟩
              replace h := bnd_at h e160
              refine lv_iinc (v := x160) (lv' := [(6, .int x160), (5, .int r155), (0, .ref (ad 0)), (1, .int v1), (2, .int v2), (3, .int v3), (4, .int v4)]) hx hb dX9_isRightByParts_160 hl (k := 6) rfl (by rw [e160]; rfl) (by decide) rfl (fun ls hl => ?_)
              refine lv_goto (tgt := 103) hx hb dX9_isRightByParts_163 (by decide) ?_
              exact ih103 v1 v2 v3 v4 r155 x160 _ _ _ hI (lv_sub hl [2, 3, 4, 5, 6, 1, 0] rfl) h
    exact w103 FU v1 v2 v3 y0 (1 : Int32) (0 : Int32) _ _ _ hI (lv_sub hl [3, 4, 5, 6, 2, 1, 0] rfl) h
  refine lv_aload_n hx hb dX9_isRightByParts_0 rfl (lv_at hl 0 rfl) ?_
  refine gX9_stepA hC hI tw_870 dX9_isRightByParts_1 ?_
  refine lv_iload_n hx hb dX9_isRightByParts_4 rfl (lv_at hl 1 rfl) ?_
  have g5 := (gd_at h).1
  replace h := (gd_at h).2
  refine r_iald hC hI aM_13 g5 dX9_isRightByParts_5 ?_
  refine lv_topi (fun x6 e6 => ?_)
  replace h := bnd_at h e6
  refine lv_istore_n (lv' := [(2, .int x6), (0, .ref (ad 0)), (1, .int v1)]) hx hb dX9_isRightByParts_6 rfl hl (by decide) rfl (fun ls hl => ?_)
  refine lv_aload_n hx hb dX9_isRightByParts_7 rfl (lv_at hl 1 rfl) ?_
  refine gX9_stepB hC hI tw_871 dX9_isRightByParts_8 ?_
  refine lv_iload_n hx hb dX9_isRightByParts_11 rfl (lv_at hl 2 rfl) ?_
  have g12 := (gd_at h).1
  replace h := (gd_at h).2
  refine r_iald hC hI aM_14 g12 dX9_isRightByParts_12 ?_
  refine lv_topi (fun x13 e13 => ?_)
  replace h := bnd_at h e13
  refine lv_istore_n (lv' := [(3, .int x13), (2, .int x6), (0, .ref (ad 0)), (1, .int v1)]) hx hb dX9_isRightByParts_13 rfl hl (by decide) rfl (fun ls hl => ?_)
  refine lv_aload_n hx hb dX9_isRightByParts_14 rfl (lv_at hl 2 rfl) ?_
  refine gX9_partMany hC hI tw_856 dX9_isRightByParts_15 ?_
  refine lv_iload_n hx hb dX9_isRightByParts_18 rfl (lv_at hl 1 rfl) ?_
  have g19 := (gd_at h).1
  replace h := (gd_at h).2
  refine r_iald hC hI aM_3 g19 dX9_isRightByParts_19 ?_
  refine lv_if_eq (tgt := 68) hx hb dX9_isRightByParts_20 (by decide) (fun c20 => ?_) (fun c20 => ?_)
  · replace h := if_t h c20
    refine lv_iconst (v := 0) hx hb dX9_isRightByParts_68 (by decide) ?_
    exact hret (ret_p _ h) (by decide) dX9_isRightByParts_69 hI
  · replace h := if_f h c20
    refine lv_aload_n hx hb dX9_isRightByParts_23 rfl (lv_at hl 2 rfl) ?_
    refine gX9_kindOf hC hI tw_854 dX9_isRightByParts_24 ?_
    refine lv_iload_n hx hb dX9_isRightByParts_27 rfl (lv_at hl 1 rfl) ?_
    have g28 := (gd_at h).1
    replace h := (gd_at h).2
    refine r_iald hC hI aM_1 g28 dX9_isRightByParts_28 ?_
    refine lv_aload_n hx hb dX9_isRightByParts_29 rfl (lv_at hl 2 rfl) ?_
    refine gX9_kindOf hC hI tw_854 dX9_isRightByParts_30 ?_
    refine lv_iload_n hx hb dX9_isRightByParts_33 rfl (lv_at hl 0 rfl) ?_
    have g34 := (gd_at h).1
    replace h := (gd_at h).2
    refine r_iald hC hI aM_1 g34 dX9_isRightByParts_34 ?_
    refine lv_icmp_ne (tgt := 68) hx hb dX9_isRightByParts_35 (by decide) (fun c35 => ?_) (fun c35 => ?_)
    · replace h := if_f h c35
      refine lv_iconst (v := 0) hx hb dX9_isRightByParts_68 (by decide) ?_
      exact hret (ret_p _ h) (by decide) dX9_isRightByParts_69 hI
    · replace h := if_t h c35
      refine lv_aload_n hx hb dX9_isRightByParts_38 rfl (lv_at hl 2 rfl) ?_
      refine gX9_shown hC hI tw_855 dX9_isRightByParts_39 ?_
      refine lv_iload_n hx hb dX9_isRightByParts_42 rfl (lv_at hl 1 rfl) ?_
      have g43 := (gd_at h).1
      replace h := (gd_at h).2
      refine r_iald hC hI aM_2 g43 dX9_isRightByParts_43 ?_
      refine lv_aload_n hx hb dX9_isRightByParts_44 rfl (lv_at hl 2 rfl) ?_
      refine gX9_shown hC hI tw_855 dX9_isRightByParts_45 ?_
      refine lv_iload_n hx hb dX9_isRightByParts_48 rfl (lv_at hl 0 rfl) ?_
      have g49 := (gd_at h).1
      replace h := (gd_at h).2
      refine r_iald hC hI aM_2 g49 dX9_isRightByParts_49 ?_
      refine lv_icmp_ne (tgt := 68) hx hb dX9_isRightByParts_50 (by decide) (fun c50 => ?_) (fun c50 => ?_)
      · replace h := if_f h c50
        refine lv_iconst (v := 0) hx hb dX9_isRightByParts_68 (by decide) ?_
        exact hret (ret_p _ h) (by decide) dX9_isRightByParts_69 hI
      · replace h := if_t h c50
        refine lv_aload_n hx hb dX9_isRightByParts_53 rfl (lv_at hl 2 rfl) ?_
        refine gX9_partMany hC hI tw_856 dX9_isRightByParts_54 ?_
        refine lv_iload_n hx hb dX9_isRightByParts_57 rfl (lv_at hl 1 rfl) ?_
        have g58 := (gd_at h).1
        replace h := (gd_at h).2
        refine r_iald hC hI aM_3 g58 dX9_isRightByParts_58 ?_
        refine lv_aload_n hx hb dX9_isRightByParts_59 rfl (lv_at hl 2 rfl) ?_
        refine gX9_partMany hC hI tw_856 dX9_isRightByParts_60 ?_
        refine lv_iload_n hx hb dX9_isRightByParts_63 rfl (lv_at hl 0 rfl) ?_
        have g64 := (gd_at h).1
        replace h := (gd_at h).2
        refine r_iald hC hI aM_3 g64 dX9_isRightByParts_64 ?_
        refine lv_icmp_eq (tgt := 70) hx hb dX9_isRightByParts_65 (by decide) (fun c65 => ?_) (fun c65 => ?_)
        · replace h := if_t h c65
          refine lv_aload_n hx hb dX9_isRightByParts_70 rfl (lv_at hl 2 rfl) ?_
          refine gX9_kindOf hC hI tw_854 dX9_isRightByParts_71 ?_
          refine lv_iload_n hx hb dX9_isRightByParts_74 rfl (lv_at hl 1 rfl) ?_
          have g75 := (gd_at h).1
          replace h := (gd_at h).2
          refine r_iald hC hI aM_1 g75 dX9_isRightByParts_75 ?_
          refine lv_iconst (v := 4) hx hb dX9_isRightByParts_76 (by decide) ?_
          refine lv_icmp_ne (tgt := 94) hx hb dX9_isRightByParts_77 (by decide) (fun c77 => ?_) (fun c77 => ?_)
          · replace h := if_f h c77
            refine lv_iconst (v := 0) hx hb dX9_isRightByParts_94 (by decide) ?_
            exact w95 v1 x6 x13 (0 : Int32) _ _ _ hI (lv_sub hl [2, 3, 1, 0] rfl) h
          · replace h := if_t h c77
            refine lv_aload_n hx hb dX9_isRightByParts_80 rfl (lv_at hl 2 rfl) ?_
            refine gX9_stepI hC hI tw_872 dX9_isRightByParts_81 ?_
            refine lv_iload_n hx hb dX9_isRightByParts_84 rfl (lv_at hl 3 rfl) ?_
            have g85 := (gd_at h).1
            replace h := (gd_at h).2
            refine r_iald hC hI aM_15 g85 dX9_isRightByParts_85 ?_
            refine lv_iconst (v := 1) hx hb dX9_isRightByParts_86 (by decide) ?_
            refine lv_icmp_ne (tgt := 94) hx hb dX9_isRightByParts_87 (by decide) (fun c87 => ?_) (fun c87 => ?_)
            · replace h := if_f h c87
              refine lv_iconst (v := 0) hx hb dX9_isRightByParts_94 (by decide) ?_
              exact w95 v1 x6 x13 (0 : Int32) _ _ _ hI (lv_sub hl [2, 3, 1, 0] rfl) h
            · replace h := if_t h c87
              refine lv_iconst (v := 1) hx hb dX9_isRightByParts_90 (by decide) ?_
              refine lv_goto (tgt := 95) hx hb dX9_isRightByParts_91 (by decide) ?_
              exact w95 v1 x6 x13 (1 : Int32) _ _ _ hI (lv_sub hl [2, 3, 1, 0] rfl) h
        · replace h := if_f h c65
          refine lv_iconst (v := 0) hx hb dX9_isRightByParts_68 (by decide) ?_
          exact hret (ret_p _ h) (by decide) dX9_isRightByParts_69 hI
theorem dX9_isOfRows_0 : decode cX9_isOfRows 0 = .ok (.aload_n 0, 1) := by decide +kernel
theorem dX9_isOfRows_1 : decode cX9_isOfRows 1 = .ok (.getfield 47, 3) := by decide +kernel
theorem dX9_isOfRows_4 : decode cX9_isOfRows 4 = .ok (.iload_n 1, 1) := by decide +kernel
theorem dX9_isOfRows_5 : decode cX9_isOfRows 5 = .ok (.iaload, 1) := by decide +kernel
theorem dX9_isOfRows_6 : decode cX9_isOfRows 6 = .ok (.istore 5, 2) := by decide +kernel
theorem dX9_isOfRows_8 : decode cX9_isOfRows 8 = .ok (.aload_n 0, 1) := by decide +kernel
theorem dX9_isOfRows_9 : decode cX9_isOfRows 9 = .ok (.getfield 50, 3) := by decide +kernel
theorem dX9_isOfRows_12 : decode cX9_isOfRows 12 = .ok (.iload_n 1, 1) := by decide +kernel
theorem dX9_isOfRows_13 : decode cX9_isOfRows 13 = .ok (.iaload, 1) := by decide +kernel
theorem dX9_isOfRows_14 : decode cX9_isOfRows 14 = .ok (.istore 6, 2) := by decide +kernel
theorem dX9_isOfRows_16 : decode cX9_isOfRows 16 = .ok (.aload_n 0, 1) := by decide +kernel
theorem dX9_isOfRows_17 : decode cX9_isOfRows 17 = .ok (.getfield 7, 3) := by decide +kernel
theorem dX9_isOfRows_20 : decode cX9_isOfRows 20 = .ok (.iload 5, 2) := by decide +kernel
theorem dX9_isOfRows_22 : decode cX9_isOfRows 22 = .ok (.iaload, 1) := by decide +kernel
theorem dX9_isOfRows_23 : decode cX9_isOfRows 23 = .ok (.iconst 3, 1) := by decide +kernel
theorem dX9_isOfRows_24 : decode cX9_isOfRows 24 = .ok (.if_icmp .ne 50, 3) := by decide +kernel
theorem dX9_isOfRows_27 : decode cX9_isOfRows 27 = .ok (.aload_n 0, 1) := by decide +kernel
theorem dX9_isOfRows_28 : decode cX9_isOfRows 28 = .ok (.getfield 7, 3) := by decide +kernel
theorem dX9_isOfRows_31 : decode cX9_isOfRows 31 = .ok (.iload 6, 2) := by decide +kernel
theorem dX9_isOfRows_33 : decode cX9_isOfRows 33 = .ok (.iaload, 1) := by decide +kernel
theorem dX9_isOfRows_34 : decode cX9_isOfRows 34 = .ok (.iconst 3, 1) := by decide +kernel
theorem dX9_isOfRows_35 : decode cX9_isOfRows 35 = .ok (.if_icmp .ne 39, 3) := by decide +kernel
theorem dX9_isOfRows_38 : decode cX9_isOfRows 38 = .ok (.aload_n 0, 1) := by decide +kernel
theorem dX9_isOfRows_39 : decode cX9_isOfRows 39 = .ok (.getfield 19, 3) := by decide +kernel
theorem dX9_isOfRows_42 : decode cX9_isOfRows 42 = .ok (.iconst 3, 1) := by decide +kernel
theorem dX9_isOfRows_43 : decode cX9_isOfRows 43 = .ok (.iload 5, 2) := by decide +kernel
theorem dX9_isOfRows_45 : decode cX9_isOfRows 45 = .ok (.imul, 1) := by decide +kernel
theorem dX9_isOfRows_46 : decode cX9_isOfRows 46 = .ok (.iload 4, 2) := by decide +kernel
theorem dX9_isOfRows_48 : decode cX9_isOfRows 48 = .ok (.iadd, 1) := by decide +kernel
theorem dX9_isOfRows_49 : decode cX9_isOfRows 49 = .ok (.iaload, 1) := by decide +kernel
theorem dX9_isOfRows_50 : decode cX9_isOfRows 50 = .ok (.iload_n 2, 1) := by decide +kernel
theorem dX9_isOfRows_51 : decode cX9_isOfRows 51 = .ok (.if_icmp .ne 23, 3) := by decide +kernel
theorem dX9_isOfRows_54 : decode cX9_isOfRows 54 = .ok (.aload_n 0, 1) := by decide +kernel
theorem dX9_isOfRows_55 : decode cX9_isOfRows 55 = .ok (.getfield 19, 3) := by decide +kernel
theorem dX9_isOfRows_58 : decode cX9_isOfRows 58 = .ok (.iconst 3, 1) := by decide +kernel
theorem dX9_isOfRows_59 : decode cX9_isOfRows 59 = .ok (.iload 6, 2) := by decide +kernel
theorem dX9_isOfRows_61 : decode cX9_isOfRows 61 = .ok (.imul, 1) := by decide +kernel
theorem dX9_isOfRows_62 : decode cX9_isOfRows 62 = .ok (.iload 4, 2) := by decide +kernel
theorem dX9_isOfRows_64 : decode cX9_isOfRows 64 = .ok (.iadd, 1) := by decide +kernel
theorem dX9_isOfRows_65 : decode cX9_isOfRows 65 = .ok (.iaload, 1) := by decide +kernel
theorem dX9_isOfRows_66 : decode cX9_isOfRows 66 = .ok (.iload_n 3, 1) := by decide +kernel
theorem dX9_isOfRows_67 : decode cX9_isOfRows 67 = .ok (.if_icmp .ne 7, 3) := by decide +kernel
theorem dX9_isOfRows_70 : decode cX9_isOfRows 70 = .ok (.iconst 1, 1) := by decide +kernel
theorem dX9_isOfRows_71 : decode cX9_isOfRows 71 = .ok (.goto 4, 3) := by decide +kernel
theorem dX9_isOfRows_74 : decode cX9_isOfRows 74 = .ok (.iconst 0, 1) := by decide +kernel
theorem dX9_isOfRows_75 : decode cX9_isOfRows 75 = .ok (.ireturn, 1) := by decide +kernel
abbrev rmX9_isOfRows : Room := { frames := 0, cells := 0, slots := 0, locals := 0 }
theorem ywX9_isOfRows : fY yX9_isOfRows "EqualCourtModel" cX9_isOfRows 7 (some .boolean) 4 := ⟨tw_1265, tp_66, tw_11, tw_1266, by decide +kernel⟩
set_option maxHeartbeats 4000000 in
set_option maxRecDepth 100000 in
theorem cX9_isOfRows_ok {D : va_G} {ad : Nat → Nat} {cy cz : ClassId} {l : Launch} {z : fS} {v1 : Int32} {v2 : Int32} {v3 : Int32} {v4 : Int32} {r : Int32} (h : fX9_isOfRows z v1 v2 v3 v4 = some r) : fMi D 31 ad (cfM ad cy cz) cy cz l yX9_isOfRows cX9_isOfRows 7 (some .boolean) rmX9_isOfRows [.ref (ad 0), .int v1, .int v2, .int v3, .int v4] z r z := by
  refine f_bodyz (by decide) (Nat.le_of_ble_eq_true rfl) (fun p e s m args below meth c Q hC hret ls hl hI => ?_)
  have hx := hC.1
  have hb := hC.2.1
  have hl : lv_has ls 7 [(0, .ref (ad 0)), (1, .int v1), (2, .int v2), (3, .int v3), (4, .int v4)] := hl
  unfold fX9_isOfRows at h
  refine lv_aload_n hx hb dX9_isOfRows_0 rfl (lv_at hl 0 rfl) ?_
  refine gX9_stepA hC hI tw_870 dX9_isOfRows_1 ?_
  refine lv_iload_n hx hb dX9_isOfRows_4 rfl (lv_at hl 1 rfl) ?_
  have g5 := (gd_at h).1
  replace h := (gd_at h).2
  refine r_iald hC hI aM_13 g5 dX9_isOfRows_5 ?_
  refine lv_topi (fun x6 e6 => ?_)
  replace h := bnd_at h e6
  refine lv_istore (lv' := [(5, .int x6), (0, .ref (ad 0)), (1, .int v1), (2, .int v2), (3, .int v3), (4, .int v4)]) hx hb dX9_isOfRows_6 hl (by decide) rfl (fun ls hl => ?_)
  refine lv_aload_n hx hb dX9_isOfRows_8 rfl (lv_at hl 1 rfl) ?_
  refine gX9_stepB hC hI tw_871 dX9_isOfRows_9 ?_
  refine lv_iload_n hx hb dX9_isOfRows_12 rfl (lv_at hl 2 rfl) ?_
  have g13 := (gd_at h).1
  replace h := (gd_at h).2
  refine r_iald hC hI aM_14 g13 dX9_isOfRows_13 ?_
  refine lv_topi (fun x14 e14 => ?_)
  replace h := bnd_at h e14
  refine lv_istore (lv' := [(6, .int x14), (5, .int x6), (0, .ref (ad 0)), (1, .int v1), (2, .int v2), (3, .int v3), (4, .int v4)]) hx hb dX9_isOfRows_14 hl (by decide) rfl (fun ls hl => ?_)
  refine lv_aload_n hx hb dX9_isOfRows_16 rfl (lv_at hl 2 rfl) ?_
  refine gX9_kindOf hC hI tw_854 dX9_isOfRows_17 ?_
  refine lv_iload hx hb dX9_isOfRows_20 (lv_at hl 1 rfl) ?_
  have g22 := (gd_at h).1
  replace h := (gd_at h).2
  refine r_iald hC hI aM_1 g22 dX9_isOfRows_22 ?_
  refine lv_iconst (v := 3) hx hb dX9_isOfRows_23 (by decide) ?_
  refine lv_icmp_ne (tgt := 74) hx hb dX9_isOfRows_24 (by decide) (fun c24 => ?_) (fun c24 => ?_)
  · replace h := if_f h c24
    refine lv_iconst (v := 0) hx hb dX9_isOfRows_74 (by decide) ?_
    exact hret (ret_p _ h) (by decide) dX9_isOfRows_75 hI
  · replace h := if_t h c24
    refine lv_aload_n hx hb dX9_isOfRows_27 rfl (lv_at hl 2 rfl) ?_
    refine gX9_kindOf hC hI tw_854 dX9_isOfRows_28 ?_
    refine lv_iload hx hb dX9_isOfRows_31 (lv_at hl 0 rfl) ?_
    have g33 := (gd_at h).1
    replace h := (gd_at h).2
    refine r_iald hC hI aM_1 g33 dX9_isOfRows_33 ?_
    refine lv_iconst (v := 3) hx hb dX9_isOfRows_34 (by decide) ?_
    refine lv_icmp_ne (tgt := 74) hx hb dX9_isOfRows_35 (by decide) (fun c35 => ?_) (fun c35 => ?_)
    · replace h := if_f h c35
      refine lv_iconst (v := 0) hx hb dX9_isOfRows_74 (by decide) ?_
      exact hret (ret_p _ h) (by decide) dX9_isOfRows_75 hI
    · replace h := if_t h c35
      refine lv_aload_n hx hb dX9_isOfRows_38 rfl (lv_at hl 2 rfl) ?_
      refine gX9_partOf hC hI tw_857 dX9_isOfRows_39 ?_
      refine lv_iconst (v := 3) hx hb dX9_isOfRows_42 (by decide) ?_
      refine lv_iload hx hb dX9_isOfRows_43 (lv_at hl 1 rfl) ?_
      refine lv_imul hx hb dX9_isOfRows_45 ?_
      refine lv_iload hx hb dX9_isOfRows_46 (lv_at hl 6 rfl) ?_
      refine lv_iadd hx hb dX9_isOfRows_48 ?_
      have g49 := (gd_at h).1
      replace h := (gd_at h).2
      refine r_iald hC hI aM_4 g49 dX9_isOfRows_49 ?_
      refine lv_iload_n hx hb dX9_isOfRows_50 rfl (lv_at hl 4 rfl) ?_
      refine lv_icmp_ne (tgt := 74) hx hb dX9_isOfRows_51 (by decide) (fun c51 => ?_) (fun c51 => ?_)
      · replace h := if_f h c51
        refine lv_iconst (v := 0) hx hb dX9_isOfRows_74 (by decide) ?_
        exact hret (ret_p _ h) (by decide) dX9_isOfRows_75 hI
      · replace h := if_t h c51
        refine lv_aload_n hx hb dX9_isOfRows_54 rfl (lv_at hl 2 rfl) ?_
        refine gX9_partOf hC hI tw_857 dX9_isOfRows_55 ?_
        refine lv_iconst (v := 3) hx hb dX9_isOfRows_58 (by decide) ?_
        refine lv_iload hx hb dX9_isOfRows_59 (lv_at hl 0 rfl) ?_
        refine lv_imul hx hb dX9_isOfRows_61 ?_
        refine lv_iload hx hb dX9_isOfRows_62 (lv_at hl 6 rfl) ?_
        refine lv_iadd hx hb dX9_isOfRows_64 ?_
        have g65 := (gd_at h).1
        replace h := (gd_at h).2
        refine r_iald hC hI aM_4 g65 dX9_isOfRows_65 ?_
        refine lv_iload_n hx hb dX9_isOfRows_66 rfl (lv_at hl 5 rfl) ?_
        refine lv_icmp_ne (tgt := 74) hx hb dX9_isOfRows_67 (by decide) (fun c67 => ?_) (fun c67 => ?_)
        · replace h := if_f h c67
          refine lv_iconst (v := 0) hx hb dX9_isOfRows_74 (by decide) ?_
          exact hret (ret_p _ h) (by decide) dX9_isOfRows_75 hI
        · replace h := if_t h c67
          refine lv_iconst (v := 1) hx hb dX9_isOfRows_70 (by decide) ?_
          refine lv_goto (tgt := 75) hx hb dX9_isOfRows_71 (by decide) ?_
          exact hret (ret_p _ h) (by decide) dX9_isOfRows_75 hI
theorem dX9_isRight_0 : decode cX9_isRight 0 = .ok (.aload_n 0, 1) := by decide +kernel
theorem dX9_isRight_1 : decode cX9_isRight 1 = .ok (.getfield 47, 3) := by decide +kernel
theorem dX9_isRight_4 : decode cX9_isRight 4 = .ok (.iload_n 1, 1) := by decide +kernel
theorem dX9_isRight_5 : decode cX9_isRight 5 = .ok (.iaload, 1) := by decide +kernel
theorem dX9_isRight_6 : decode cX9_isRight 6 = .ok (.istore_n 2, 1) := by decide +kernel
theorem dX9_isRight_7 : decode cX9_isRight 7 = .ok (.aload_n 0, 1) := by decide +kernel
theorem dX9_isRight_8 : decode cX9_isRight 8 = .ok (.getfield 50, 3) := by decide +kernel
theorem dX9_isRight_11 : decode cX9_isRight 11 = .ok (.iload_n 1, 1) := by decide +kernel
theorem dX9_isRight_12 : decode cX9_isRight 12 = .ok (.iaload, 1) := by decide +kernel
theorem dX9_isRight_13 : decode cX9_isRight 13 = .ok (.istore_n 3, 1) := by decide +kernel
theorem dX9_isRight_14 : decode cX9_isRight 14 = .ok (.aload_n 0, 1) := by decide +kernel
theorem dX9_isRight_15 : decode cX9_isRight 15 = .ok (.getfield 53, 3) := by decide +kernel
theorem dX9_isRight_18 : decode cX9_isRight 18 = .ok (.iload_n 1, 1) := by decide +kernel
theorem dX9_isRight_19 : decode cX9_isRight 19 = .ok (.iaload, 1) := by decide +kernel
theorem dX9_isRight_20 : decode cX9_isRight 20 = .ok (.istore 4, 2) := by decide +kernel
theorem dX9_isRight_22 : decode cX9_isRight 22 = .ok (.aload_n 0, 1) := by decide +kernel
theorem dX9_isRight_23 : decode cX9_isRight 23 = .ok (.getfield 56, 3) := by decide +kernel
theorem dX9_isRight_26 : decode cX9_isRight 26 = .ok (.iload_n 1, 1) := by decide +kernel
theorem dX9_isRight_27 : decode cX9_isRight 27 = .ok (.iaload, 1) := by decide +kernel
theorem dX9_isRight_28 : decode cX9_isRight 28 = .ok (.istore 5, 2) := by decide +kernel
theorem dX9_isRight_30 : decode cX9_isRight 30 = .ok (.aload_n 0, 1) := by decide +kernel
theorem dX9_isRight_31 : decode cX9_isRight 31 = .ok (.getfield 44, 3) := by decide +kernel
theorem dX9_isRight_34 : decode cX9_isRight 34 = .ok (.iload_n 1, 1) := by decide +kernel
theorem dX9_isRight_35 : decode cX9_isRight 35 = .ok (.iaload, 1) := by decide +kernel
theorem dX9_isRight_36 : decode cX9_isRight 36 = .ok (.tableswitch 283 0 6 #[44, 128, 139, 177, 242, 248, 248], 44) := by decide +kernel
theorem dX9_isRight_80 : decode cX9_isRight 80 = .ok (.iload 4, 2) := by decide +kernel
theorem dX9_isRight_82 : decode cX9_isRight 82 = .ok (.ifCond .lt 80, 3) := by decide +kernel
theorem dX9_isRight_85 : decode cX9_isRight 85 = .ok (.iload 4, 2) := by decide +kernel
theorem dX9_isRight_87 : decode cX9_isRight 87 = .ok (.aload_n 0, 1) := by decide +kernel
theorem dX9_isRight_88 : decode cX9_isRight 88 = .ok (.getfield 155, 3) := by decide +kernel
theorem dX9_isRight_91 : decode cX9_isRight 91 = .ok (.if_icmp .ge 71, 3) := by decide +kernel
theorem dX9_isRight_94 : decode cX9_isRight 94 = .ok (.aload_n 0, 1) := by decide +kernel
theorem dX9_isRight_95 : decode cX9_isRight 95 = .ok (.getfield 32, 3) := by decide +kernel
theorem dX9_isRight_98 : decode cX9_isRight 98 = .ok (.iload 4, 2) := by decide +kernel
theorem dX9_isRight_100 : decode cX9_isRight 100 = .ok (.baload, 1) := by decide +kernel
theorem dX9_isRight_101 : decode cX9_isRight 101 = .ok (.ifCond .eq 61, 3) := by decide +kernel
theorem dX9_isRight_104 : decode cX9_isRight 104 = .ok (.aload_n 0, 1) := by decide +kernel
theorem dX9_isRight_105 : decode cX9_isRight 105 = .ok (.getfield 28, 3) := by decide +kernel
theorem dX9_isRight_108 : decode cX9_isRight 108 = .ok (.iload 4, 2) := by decide +kernel
theorem dX9_isRight_110 : decode cX9_isRight 110 = .ok (.baload, 1) := by decide +kernel
theorem dX9_isRight_111 : decode cX9_isRight 111 = .ok (.ifCond .eq 51, 3) := by decide +kernel
theorem dX9_isRight_114 : decode cX9_isRight 114 = .ok (.aload_n 0, 1) := by decide +kernel
theorem dX9_isRight_115 : decode cX9_isRight 115 = .ok (.getfield 22, 3) := by decide +kernel
theorem dX9_isRight_118 : decode cX9_isRight 118 = .ok (.iload 4, 2) := by decide +kernel
theorem dX9_isRight_120 : decode cX9_isRight 120 = .ok (.iaload, 1) := by decide +kernel
theorem dX9_isRight_121 : decode cX9_isRight 121 = .ok (.iload_n 2, 1) := by decide +kernel
theorem dX9_isRight_122 : decode cX9_isRight 122 = .ok (.if_icmp .ne 14, 3) := by decide +kernel
theorem dX9_isRight_125 : decode cX9_isRight 125 = .ok (.aload_n 0, 1) := by decide +kernel
theorem dX9_isRight_126 : decode cX9_isRight 126 = .ok (.getfield 25, 3) := by decide +kernel
theorem dX9_isRight_129 : decode cX9_isRight 129 = .ok (.iload 4, 2) := by decide +kernel
theorem dX9_isRight_131 : decode cX9_isRight 131 = .ok (.iaload, 1) := by decide +kernel
theorem dX9_isRight_132 : decode cX9_isRight 132 = .ok (.iload_n 3, 1) := by decide +kernel
theorem dX9_isRight_133 : decode cX9_isRight 133 = .ok (.if_icmp .eq 25, 3) := by decide +kernel
theorem dX9_isRight_136 : decode cX9_isRight 136 = .ok (.aload_n 0, 1) := by decide +kernel
theorem dX9_isRight_137 : decode cX9_isRight 137 = .ok (.getfield 22, 3) := by decide +kernel
theorem dX9_isRight_140 : decode cX9_isRight 140 = .ok (.iload 4, 2) := by decide +kernel
theorem dX9_isRight_142 : decode cX9_isRight 142 = .ok (.iaload, 1) := by decide +kernel
theorem dX9_isRight_143 : decode cX9_isRight 143 = .ok (.iload_n 3, 1) := by decide +kernel
theorem dX9_isRight_144 : decode cX9_isRight 144 = .ok (.if_icmp .ne 18, 3) := by decide +kernel
theorem dX9_isRight_147 : decode cX9_isRight 147 = .ok (.aload_n 0, 1) := by decide +kernel
theorem dX9_isRight_148 : decode cX9_isRight 148 = .ok (.getfield 25, 3) := by decide +kernel
theorem dX9_isRight_151 : decode cX9_isRight 151 = .ok (.iload 4, 2) := by decide +kernel
theorem dX9_isRight_153 : decode cX9_isRight 153 = .ok (.iaload, 1) := by decide +kernel
theorem dX9_isRight_154 : decode cX9_isRight 154 = .ok (.iload_n 2, 1) := by decide +kernel
theorem dX9_isRight_155 : decode cX9_isRight 155 = .ok (.if_icmp .ne 7, 3) := by decide +kernel
theorem dX9_isRight_158 : decode cX9_isRight 158 = .ok (.iconst 1, 1) := by decide +kernel
theorem dX9_isRight_159 : decode cX9_isRight 159 = .ok (.goto 4, 3) := by decide +kernel
theorem dX9_isRight_162 : decode cX9_isRight 162 = .ok (.iconst 0, 1) := by decide +kernel
theorem dX9_isRight_163 : decode cX9_isRight 163 = .ok (.ireturn, 1) := by decide +kernel
theorem dX9_isRight_164 : decode cX9_isRight 164 = .ok (.iload_n 2, 1) := by decide +kernel
theorem dX9_isRight_165 : decode cX9_isRight 165 = .ok (.iload_n 3, 1) := by decide +kernel
theorem dX9_isRight_166 : decode cX9_isRight 166 = .ok (.if_icmp .ne 7, 3) := by decide +kernel
theorem dX9_isRight_169 : decode cX9_isRight 169 = .ok (.iconst 1, 1) := by decide +kernel
theorem dX9_isRight_170 : decode cX9_isRight 170 = .ok (.goto 4, 3) := by decide +kernel
theorem dX9_isRight_173 : decode cX9_isRight 173 = .ok (.iconst 0, 1) := by decide +kernel
theorem dX9_isRight_174 : decode cX9_isRight 174 = .ok (.ireturn, 1) := by decide +kernel
theorem dX9_isRight_175 : decode cX9_isRight 175 = .ok (.aload_n 0, 1) := by decide +kernel
theorem dX9_isRight_176 : decode cX9_isRight 176 = .ok (.iload 4, 2) := by decide +kernel
theorem dX9_isRight_178 : decode cX9_isRight 178 = .ok (.iload_n 1, 1) := by decide +kernel
theorem dX9_isRight_179 : decode cX9_isRight 179 = .ok (.invokevirtual 266, 3) := by decide +kernel
theorem dX9_isRight_182 : decode cX9_isRight 182 = .ok (.ifCond .eq 29, 3) := by decide +kernel
theorem dX9_isRight_185 : decode cX9_isRight 185 = .ok (.aload_n 0, 1) := by decide +kernel
theorem dX9_isRight_186 : decode cX9_isRight 186 = .ok (.getfield 47, 3) := by decide +kernel
theorem dX9_isRight_189 : decode cX9_isRight 189 = .ok (.iload 4, 2) := by decide +kernel
theorem dX9_isRight_191 : decode cX9_isRight 191 = .ok (.iaload, 1) := by decide +kernel
theorem dX9_isRight_192 : decode cX9_isRight 192 = .ok (.iload_n 3, 1) := by decide +kernel
theorem dX9_isRight_193 : decode cX9_isRight 193 = .ok (.if_icmp .ne 18, 3) := by decide +kernel
theorem dX9_isRight_196 : decode cX9_isRight 196 = .ok (.aload_n 0, 1) := by decide +kernel
theorem dX9_isRight_197 : decode cX9_isRight 197 = .ok (.getfield 50, 3) := by decide +kernel
theorem dX9_isRight_200 : decode cX9_isRight 200 = .ok (.iload 4, 2) := by decide +kernel
theorem dX9_isRight_202 : decode cX9_isRight 202 = .ok (.iaload, 1) := by decide +kernel
theorem dX9_isRight_203 : decode cX9_isRight 203 = .ok (.iload_n 2, 1) := by decide +kernel
theorem dX9_isRight_204 : decode cX9_isRight 204 = .ok (.if_icmp .ne 7, 3) := by decide +kernel
theorem dX9_isRight_207 : decode cX9_isRight 207 = .ok (.iconst 1, 1) := by decide +kernel
theorem dX9_isRight_208 : decode cX9_isRight 208 = .ok (.goto 4, 3) := by decide +kernel
theorem dX9_isRight_211 : decode cX9_isRight 211 = .ok (.iconst 0, 1) := by decide +kernel
theorem dX9_isRight_212 : decode cX9_isRight 212 = .ok (.ireturn, 1) := by decide +kernel
theorem dX9_isRight_213 : decode cX9_isRight 213 = .ok (.aload_n 0, 1) := by decide +kernel
theorem dX9_isRight_214 : decode cX9_isRight 214 = .ok (.iload 4, 2) := by decide +kernel
theorem dX9_isRight_216 : decode cX9_isRight 216 = .ok (.iload_n 1, 1) := by decide +kernel
theorem dX9_isRight_217 : decode cX9_isRight 217 = .ok (.invokevirtual 266, 3) := by decide +kernel
theorem dX9_isRight_220 : decode cX9_isRight 220 = .ok (.ifCond .eq 56, 3) := by decide +kernel
theorem dX9_isRight_223 : decode cX9_isRight 223 = .ok (.aload_n 0, 1) := by decide +kernel
theorem dX9_isRight_224 : decode cX9_isRight 224 = .ok (.iload 5, 2) := by decide +kernel
theorem dX9_isRight_226 : decode cX9_isRight 226 = .ok (.iload_n 1, 1) := by decide +kernel
theorem dX9_isRight_227 : decode cX9_isRight 227 = .ok (.invokevirtual 266, 3) := by decide +kernel
theorem dX9_isRight_230 : decode cX9_isRight 230 = .ok (.ifCond .eq 46, 3) := by decide +kernel
theorem dX9_isRight_233 : decode cX9_isRight 233 = .ok (.aload_n 0, 1) := by decide +kernel
theorem dX9_isRight_234 : decode cX9_isRight 234 = .ok (.getfield 47, 3) := by decide +kernel
theorem dX9_isRight_237 : decode cX9_isRight 237 = .ok (.iload 4, 2) := by decide +kernel
theorem dX9_isRight_239 : decode cX9_isRight 239 = .ok (.iaload, 1) := by decide +kernel
theorem dX9_isRight_240 : decode cX9_isRight 240 = .ok (.iload_n 2, 1) := by decide +kernel
theorem dX9_isRight_241 : decode cX9_isRight 241 = .ok (.if_icmp .ne 35, 3) := by decide +kernel
theorem dX9_isRight_244 : decode cX9_isRight 244 = .ok (.aload_n 0, 1) := by decide +kernel
theorem dX9_isRight_245 : decode cX9_isRight 245 = .ok (.getfield 50, 3) := by decide +kernel
theorem dX9_isRight_248 : decode cX9_isRight 248 = .ok (.iload 4, 2) := by decide +kernel
theorem dX9_isRight_250 : decode cX9_isRight 250 = .ok (.iaload, 1) := by decide +kernel
theorem dX9_isRight_251 : decode cX9_isRight 251 = .ok (.aload_n 0, 1) := by decide +kernel
theorem dX9_isRight_252 : decode cX9_isRight 252 = .ok (.getfield 47, 3) := by decide +kernel
theorem dX9_isRight_255 : decode cX9_isRight 255 = .ok (.iload 5, 2) := by decide +kernel
theorem dX9_isRight_257 : decode cX9_isRight 257 = .ok (.iaload, 1) := by decide +kernel
theorem dX9_isRight_258 : decode cX9_isRight 258 = .ok (.if_icmp .ne 18, 3) := by decide +kernel
theorem dX9_isRight_261 : decode cX9_isRight 261 = .ok (.aload_n 0, 1) := by decide +kernel
theorem dX9_isRight_262 : decode cX9_isRight 262 = .ok (.getfield 50, 3) := by decide +kernel
theorem dX9_isRight_265 : decode cX9_isRight 265 = .ok (.iload 5, 2) := by decide +kernel
theorem dX9_isRight_267 : decode cX9_isRight 267 = .ok (.iaload, 1) := by decide +kernel
theorem dX9_isRight_268 : decode cX9_isRight 268 = .ok (.iload_n 3, 1) := by decide +kernel
theorem dX9_isRight_269 : decode cX9_isRight 269 = .ok (.if_icmp .ne 7, 3) := by decide +kernel
theorem dX9_isRight_272 : decode cX9_isRight 272 = .ok (.iconst 1, 1) := by decide +kernel
theorem dX9_isRight_273 : decode cX9_isRight 273 = .ok (.goto 4, 3) := by decide +kernel
theorem dX9_isRight_276 : decode cX9_isRight 276 = .ok (.iconst 0, 1) := by decide +kernel
theorem dX9_isRight_277 : decode cX9_isRight 277 = .ok (.ireturn, 1) := by decide +kernel
theorem dX9_isRight_278 : decode cX9_isRight 278 = .ok (.aload_n 0, 1) := by decide +kernel
theorem dX9_isRight_279 : decode cX9_isRight 279 = .ok (.iload_n 1, 1) := by decide +kernel
theorem dX9_isRight_280 : decode cX9_isRight 280 = .ok (.invokevirtual 269, 3) := by decide +kernel
theorem dX9_isRight_283 : decode cX9_isRight 283 = .ok (.ireturn, 1) := by decide +kernel
theorem dX9_isRight_284 : decode cX9_isRight 284 = .ok (.aload_n 0, 1) := by decide +kernel
theorem dX9_isRight_285 : decode cX9_isRight 285 = .ok (.iload 4, 2) := by decide +kernel
theorem dX9_isRight_287 : decode cX9_isRight 287 = .ok (.iload_n 1, 1) := by decide +kernel
theorem dX9_isRight_288 : decode cX9_isRight 288 = .ok (.invokevirtual 266, 3) := by decide +kernel
theorem dX9_isRight_291 : decode cX9_isRight 291 = .ok (.ifCond .eq 26, 3) := by decide +kernel
theorem dX9_isRight_294 : decode cX9_isRight 294 = .ok (.aload_n 0, 1) := by decide +kernel
theorem dX9_isRight_295 : decode cX9_isRight 295 = .ok (.iload 4, 2) := by decide +kernel
theorem dX9_isRight_297 : decode cX9_isRight 297 = .ok (.iload_n 2, 1) := by decide +kernel
theorem dX9_isRight_298 : decode cX9_isRight 298 = .ok (.iload_n 3, 1) := by decide +kernel
theorem dX9_isRight_299 : decode cX9_isRight 299 = .ok (.aload_n 0, 1) := by decide +kernel
theorem dX9_isRight_300 : decode cX9_isRight 300 = .ok (.getfield 44, 3) := by decide +kernel
theorem dX9_isRight_303 : decode cX9_isRight 303 = .ok (.iload_n 1, 1) := by decide +kernel
theorem dX9_isRight_304 : decode cX9_isRight 304 = .ok (.iaload, 1) := by decide +kernel
theorem dX9_isRight_305 : decode cX9_isRight 305 = .ok (.iconst 5, 1) := by decide +kernel
theorem dX9_isRight_306 : decode cX9_isRight 306 = .ok (.isub, 1) := by decide +kernel
theorem dX9_isRight_307 : decode cX9_isRight 307 = .ok (.invokevirtual 272, 3) := by decide +kernel
theorem dX9_isRight_310 : decode cX9_isRight 310 = .ok (.ifCond .eq 7, 3) := by decide +kernel
theorem dX9_isRight_313 : decode cX9_isRight 313 = .ok (.iconst 1, 1) := by decide +kernel
theorem dX9_isRight_314 : decode cX9_isRight 314 = .ok (.goto 4, 3) := by decide +kernel
theorem dX9_isRight_317 : decode cX9_isRight 317 = .ok (.iconst 0, 1) := by decide +kernel
theorem dX9_isRight_318 : decode cX9_isRight 318 = .ok (.ireturn, 1) := by decide +kernel
theorem dX9_isRight_319 : decode cX9_isRight 319 = .ok (.iconst 0, 1) := by decide +kernel
theorem dX9_isRight_320 : decode cX9_isRight 320 = .ok (.ireturn, 1) := by decide +kernel
abbrev rmX9_isRight : Room := { frames := 2, cells := 0, slots := 0, locals := 51 }
theorem ywX9_isRight : fY yX9_isRight "EqualCourtModel" cX9_isRight 6 (some .boolean) 1 := ⟨tw_1249, tp_62, tw_11, tw_1250, by decide +kernel⟩
set_option maxHeartbeats 4000000 in
set_option maxRecDepth 100000 in
theorem cX9_isRight_ok {D : va_G} {ad : Nat → Nat} {cy cz : ClassId} {l : Launch} {z : fS} {v1 : Int32} {r : Int32} (h : fX9_isRight z v1 = some r) : fMi D 31 ad (cfM ad cy cz) cy cz l yX9_isRight cX9_isRight 6 (some .boolean) rmX9_isRight [.ref (ad 0), .int v1] z r z := by
  refine f_bodyz (by decide) (Nat.le_of_ble_eq_true rfl) (fun p e s m args below meth c Q hC hret ls hl hI => ?_)
  have hx := hC.1
  have hb := hC.2.1
  have hl : lv_has ls 6 [(0, .ref (ad 0)), (1, .int v1)] := hl
  unfold fX9_isRight at h
  have w136 : ∀ (v2 : Int32) (v3 : Int32) (v4 : Int32) (H : Heap) (locs : List Loc) (ls : Array Slot), fI D 31 ad (cfM ad cy cz) z s H locs → lv_has ls 6 [(0, .ref (ad 0)), (2, .int v2), (3, .int v3), (4, .int v4)] → jX9_isRight_136   z v2 v3 v4 = some r → W p l e rmX9_isRight s m args below meth c H locs 0 0 Q (F0 m 136 ls []) := by
    intro v2 v3 v4 H locs ls hI hl h
    unfold jX9_isRight_136 at h
    refine lv_aload_n hx hb dX9_isRight_136 rfl (lv_at hl 0 rfl) ?_
    refine gX9_sayA hC hI tw_859 dX9_isRight_137 ?_
    refine lv_iload hx hb dX9_isRight_140 (lv_at hl 3 rfl) ?_
    have g142 := (gd_at h).1
    replace h := (gd_at h).2
    refine r_iald hC hI aM_5 g142 dX9_isRight_142 ?_
    refine lv_iload_n hx hb dX9_isRight_143 rfl (lv_at hl 2 rfl) ?_
    refine lv_icmp_ne (tgt := 162) hx hb dX9_isRight_144 (by decide) (fun c144 => ?_) (fun c144 => ?_)
    · replace h := if_f h c144
      refine lv_iconst (v := 0) hx hb dX9_isRight_162 (by decide) ?_
      exact hret (ret_p _ h) (by decide) dX9_isRight_163 hI
    · replace h := if_t h c144
      refine lv_aload_n hx hb dX9_isRight_147 rfl (lv_at hl 0 rfl) ?_
      refine gX9_sayB hC hI tw_860 dX9_isRight_148 ?_
      refine lv_iload hx hb dX9_isRight_151 (lv_at hl 3 rfl) ?_
      have g153 := (gd_at h).1
      replace h := (gd_at h).2
      refine r_iald hC hI aM_6 g153 dX9_isRight_153 ?_
      refine lv_iload_n hx hb dX9_isRight_154 rfl (lv_at hl 1 rfl) ?_
      refine lv_icmp_ne (tgt := 162) hx hb dX9_isRight_155 (by decide) (fun c155 => ?_) (fun c155 => ?_)
      · replace h := if_f h c155
        refine lv_iconst (v := 0) hx hb dX9_isRight_162 (by decide) ?_
        exact hret (ret_p _ h) (by decide) dX9_isRight_163 hI
      · replace h := if_t h c155
        refine lv_iconst (v := 1) hx hb dX9_isRight_158 (by decide) ?_
        refine lv_goto (tgt := 163) hx hb dX9_isRight_159 (by decide) ?_
        exact hret (ret_p _ h) (by decide) dX9_isRight_163 hI
  refine lv_aload_n hx hb dX9_isRight_0 rfl (lv_at hl 0 rfl) ?_
  refine gX9_stepA hC hI tw_870 dX9_isRight_1 ?_
  refine lv_iload_n hx hb dX9_isRight_4 rfl (lv_at hl 1 rfl) ?_
  have g5 := (gd_at h).1
  replace h := (gd_at h).2
  refine r_iald hC hI aM_13 g5 dX9_isRight_5 ?_
  refine lv_topi (fun x6 e6 => ?_)
  replace h := bnd_at h e6
  refine lv_istore_n (lv' := [(2, .int x6), (0, .ref (ad 0)), (1, .int v1)]) hx hb dX9_isRight_6 rfl hl (by decide) rfl (fun ls hl => ?_)
  refine lv_aload_n hx hb dX9_isRight_7 rfl (lv_at hl 1 rfl) ?_
  refine gX9_stepB hC hI tw_871 dX9_isRight_8 ?_
  refine lv_iload_n hx hb dX9_isRight_11 rfl (lv_at hl 2 rfl) ?_
  have g12 := (gd_at h).1
  replace h := (gd_at h).2
  refine r_iald hC hI aM_14 g12 dX9_isRight_12 ?_
  refine lv_topi (fun x13 e13 => ?_)
  replace h := bnd_at h e13
  refine lv_istore_n (lv' := [(3, .int x13), (2, .int x6), (0, .ref (ad 0)), (1, .int v1)]) hx hb dX9_isRight_13 rfl hl (by decide) rfl (fun ls hl => ?_)
  refine lv_aload_n hx hb dX9_isRight_14 rfl (lv_at hl 2 rfl) ?_
  refine gX9_stepI hC hI tw_872 dX9_isRight_15 ?_
  refine lv_iload_n hx hb dX9_isRight_18 rfl (lv_at hl 3 rfl) ?_
  have g19 := (gd_at h).1
  replace h := (gd_at h).2
  refine r_iald hC hI aM_15 g19 dX9_isRight_19 ?_
  refine lv_topi (fun x20 e20 => ?_)
  replace h := bnd_at h e20
  refine lv_istore (lv' := [(4, .int x20), (3, .int x13), (2, .int x6), (0, .ref (ad 0)), (1, .int v1)]) hx hb dX9_isRight_20 hl (by decide) rfl (fun ls hl => ?_)
  refine lv_aload_n hx hb dX9_isRight_22 rfl (lv_at hl 3 rfl) ?_
  refine gX9_stepJ hC hI tw_873 dX9_isRight_23 ?_
  refine lv_iload_n hx hb dX9_isRight_26 rfl (lv_at hl 4 rfl) ?_
  have g27 := (gd_at h).1
  replace h := (gd_at h).2
  refine r_iald hC hI aM_16 g27 dX9_isRight_27 ?_
  refine lv_topi (fun x28 e28 => ?_)
  replace h := bnd_at h e28
  refine lv_istore (lv' := [(5, .int x28), (4, .int x20), (3, .int x13), (2, .int x6), (0, .ref (ad 0)), (1, .int v1)]) hx hb dX9_isRight_28 hl (by decide) rfl (fun ls hl => ?_)
  refine lv_aload_n hx hb dX9_isRight_30 rfl (lv_at hl 4 rfl) ?_
  refine gX9_reasonOf hC hI tw_869 dX9_isRight_31 ?_
  refine lv_iload_n hx hb dX9_isRight_34 rfl (lv_at hl 5 rfl) ?_
  have g35 := (gd_at h).1
  replace h := (gd_at h).2
  refine r_iald hC hI aM_12 g35 dX9_isRight_35 ?_
  refine lv_topi (fun y36 e36 => ?_)
  by_cases b36_0 : y36 = (0 : Int32)
  · replace h := if_t h (e36.symm.trans b36_0)
    refine lv_tableIn (tgt := 80) hx hb dX9_isRight_36 (by rw [b36_0]; decide) (by rw [b36_0]; decide) (by rw [b36_0]; rfl) (by decide) ?_
    refine lv_iload hx hb dX9_isRight_80 (lv_at hl 1 rfl) ?_
    refine lv_if_lt (tgt := 162) hx hb dX9_isRight_82 (by decide) (fun c82 => ?_) (fun c82 => ?_)
    · replace h := if_t h c82
      refine lv_iconst (v := 0) hx hb dX9_isRight_162 (by decide) ?_
      exact hret (ret_p _ h) (by decide) dX9_isRight_163 hI
    · replace h := if_f h c82
      refine lv_iload hx hb dX9_isRight_85 (lv_at hl 1 rfl) ?_
      refine lv_aload_n hx hb dX9_isRight_87 rfl (lv_at hl 4 rfl) ?_
      refine gX9_sayings hC hI tw_863 dX9_isRight_88 ?_
      refine lv_icmp_ge (tgt := 162) hx hb dX9_isRight_91 (by decide) (fun c91 => ?_) (fun c91 => ?_)
      · replace h := if_t h c91
        refine lv_iconst (v := 0) hx hb dX9_isRight_162 (by decide) ?_
        exact hret (ret_p _ h) (by decide) dX9_isRight_163 hI
      · replace h := if_f h c91
        refine lv_aload_n hx hb dX9_isRight_94 rfl (lv_at hl 4 rfl) ?_
        refine gX9_isTaken hC hI tw_862 dX9_isRight_95 ?_
        refine lv_iload hx hb dX9_isRight_98 (lv_at hl 1 rfl) ?_
        have g100 := (gd_at h).1
        replace h := (gd_at h).2
        refine r_zald hC hI aM_8 g100 dX9_isRight_100 ?_
        refine lv_if_eq (tgt := 162) hx hb dX9_isRight_101 (by decide) (fun c101 => ?_) (fun c101 => ?_)
        · replace h := if_t h c101
          refine lv_iconst (v := 0) hx hb dX9_isRight_162 (by decide) ?_
          exact hret (ret_p _ h) (by decide) dX9_isRight_163 hI
        · replace h := if_f h c101
          refine lv_aload_n hx hb dX9_isRight_104 rfl (lv_at hl 4 rfl) ?_
          refine gX9_isSame hC hI tw_861 dX9_isRight_105 ?_
          refine lv_iload hx hb dX9_isRight_108 (lv_at hl 1 rfl) ?_
          have g110 := (gd_at h).1
          replace h := (gd_at h).2
          refine r_zald hC hI aM_7 g110 dX9_isRight_110 ?_
          refine lv_if_eq (tgt := 162) hx hb dX9_isRight_111 (by decide) (fun c111 => ?_) (fun c111 => ?_)
          · replace h := if_t h c111
            refine lv_iconst (v := 0) hx hb dX9_isRight_162 (by decide) ?_
            exact hret (ret_p _ h) (by decide) dX9_isRight_163 hI
          · replace h := if_f h c111
            refine lv_aload_n hx hb dX9_isRight_114 rfl (lv_at hl 4 rfl) ?_
            refine gX9_sayA hC hI tw_859 dX9_isRight_115 ?_
            refine lv_iload hx hb dX9_isRight_118 (lv_at hl 1 rfl) ?_
            have g120 := (gd_at h).1
            replace h := (gd_at h).2
            refine r_iald hC hI aM_5 g120 dX9_isRight_120 ?_
            refine lv_iload_n hx hb dX9_isRight_121 rfl (lv_at hl 3 rfl) ?_
            refine lv_icmp_ne (tgt := 136) hx hb dX9_isRight_122 (by decide) (fun c122 => ?_) (fun c122 => ?_)
            · replace h := if_f h c122
              exact w136 x6 x13 x20 _ _ _ hI (lv_sub hl [4, 3, 2, 1] rfl) h
            · replace h := if_t h c122
              refine lv_aload_n hx hb dX9_isRight_125 rfl (lv_at hl 4 rfl) ?_
              refine gX9_sayB hC hI tw_860 dX9_isRight_126 ?_
              refine lv_iload hx hb dX9_isRight_129 (lv_at hl 1 rfl) ?_
              have g131 := (gd_at h).1
              replace h := (gd_at h).2
              refine r_iald hC hI aM_6 g131 dX9_isRight_131 ?_
              refine lv_iload_n hx hb dX9_isRight_132 rfl (lv_at hl 2 rfl) ?_
              refine lv_icmp_eq (tgt := 158) hx hb dX9_isRight_133 (by decide) (fun c133 => ?_) (fun c133 => ?_)
              · replace h := if_t h c133
                refine lv_iconst (v := 1) hx hb dX9_isRight_158 (by decide) ?_
                refine lv_goto (tgt := 163) hx hb dX9_isRight_159 (by decide) ?_
                exact hret (ret_p _ h) (by decide) dX9_isRight_163 hI
              · replace h := if_f h c133
                exact w136 x6 x13 x20 _ _ _ hI (lv_sub hl [4, 3, 2, 1] rfl) h
  replace h := if_f h (fun q => b36_0 (e36.trans q))
  by_cases b36_1 : y36 = (1 : Int32)
  · replace h := if_t h (e36.symm.trans b36_1)
    refine lv_tableIn (tgt := 164) hx hb dX9_isRight_36 (by rw [b36_1]; decide) (by rw [b36_1]; decide) (by rw [b36_1]; rfl) (by decide) ?_
    refine lv_iload_n hx hb dX9_isRight_164 rfl (lv_at hl 3 rfl) ?_
    refine lv_iload_n hx hb dX9_isRight_165 rfl (lv_at hl 2 rfl) ?_
    refine lv_icmp_ne (tgt := 173) hx hb dX9_isRight_166 (by decide) (fun c166 => ?_) (fun c166 => ?_)
    · replace h := if_f h c166
      refine lv_iconst (v := 0) hx hb dX9_isRight_173 (by decide) ?_
      exact hret (ret_p _ h) (by decide) dX9_isRight_174 hI
    · replace h := if_t h c166
      refine lv_iconst (v := 1) hx hb dX9_isRight_169 (by decide) ?_
      refine lv_goto (tgt := 174) hx hb dX9_isRight_170 (by decide) ?_
      exact hret (ret_p _ h) (by decide) dX9_isRight_174 hI
  replace h := if_f h (fun q => b36_1 (e36.trans q))
  by_cases b36_2 : y36 = (2 : Int32)
  · replace h := if_t h (e36.symm.trans b36_2)
    refine lv_tableIn (tgt := 175) hx hb dX9_isRight_36 (by rw [b36_2]; decide) (by rw [b36_2]; decide) (by rw [b36_2]; rfl) (by decide) ?_
    refine lv_aload_n hx hb dX9_isRight_175 rfl (lv_at hl 4 rfl) ?_
    refine lv_iload hx hb dX9_isRight_176 (lv_at hl 1 rfl) ?_
    refine lv_iload_n hx hb dX9_isRight_178 rfl (lv_at hl 5 rfl) ?_
    replace h := bp_at h
    obtain ⟨r179, e179, h⟩ := h
    refine r_calli (rest := []) hC hI oM_0 (C := "EqualCourtModel") rfl ywX9_isStep tw_1251 (cX9_isStep_ok  e179) ⟨Nat.le_of_ble_eq_true rfl, Nat.le_of_ble_eq_true rfl⟩ ⟨rfl, rfl⟩ rfl hl.1 rfl (Nat.le_of_ble_eq_true rfl) dX9_isRight_179 (fun H locs hI => ?_)
    refine lv_if_eq (tgt := 211) hx hb dX9_isRight_182 (by decide) (fun c182 => ?_) (fun c182 => ?_)
    · replace h := if_t h c182
      refine lv_iconst (v := 0) hx hb dX9_isRight_211 (by decide) ?_
      exact hret (ret_p _ h) (by decide) dX9_isRight_212 hI
    · replace h := if_f h c182
      refine lv_aload_n hx hb dX9_isRight_185 rfl (lv_at hl 4 rfl) ?_
      refine gX9_stepA hC hI tw_870 dX9_isRight_186 ?_
      refine lv_iload hx hb dX9_isRight_189 (lv_at hl 1 rfl) ?_
      have g191 := (gd_at h).1
      replace h := (gd_at h).2
      refine r_iald hC hI aM_13 g191 dX9_isRight_191 ?_
      refine lv_iload_n hx hb dX9_isRight_192 rfl (lv_at hl 2 rfl) ?_
      refine lv_icmp_ne (tgt := 211) hx hb dX9_isRight_193 (by decide) (fun c193 => ?_) (fun c193 => ?_)
      · replace h := if_f h c193
        refine lv_iconst (v := 0) hx hb dX9_isRight_211 (by decide) ?_
        exact hret (ret_p _ h) (by decide) dX9_isRight_212 hI
      · replace h := if_t h c193
        refine lv_aload_n hx hb dX9_isRight_196 rfl (lv_at hl 4 rfl) ?_
        refine gX9_stepB hC hI tw_871 dX9_isRight_197 ?_
        refine lv_iload hx hb dX9_isRight_200 (lv_at hl 1 rfl) ?_
        have g202 := (gd_at h).1
        replace h := (gd_at h).2
        refine r_iald hC hI aM_14 g202 dX9_isRight_202 ?_
        refine lv_iload_n hx hb dX9_isRight_203 rfl (lv_at hl 3 rfl) ?_
        refine lv_icmp_ne (tgt := 211) hx hb dX9_isRight_204 (by decide) (fun c204 => ?_) (fun c204 => ?_)
        · replace h := if_f h c204
          refine lv_iconst (v := 0) hx hb dX9_isRight_211 (by decide) ?_
          exact hret (ret_p _ h) (by decide) dX9_isRight_212 hI
        · replace h := if_t h c204
          refine lv_iconst (v := 1) hx hb dX9_isRight_207 (by decide) ?_
          refine lv_goto (tgt := 212) hx hb dX9_isRight_208 (by decide) ?_
          exact hret (ret_p _ h) (by decide) dX9_isRight_212 hI
  replace h := if_f h (fun q => b36_2 (e36.trans q))
  by_cases b36_3 : y36 = (3 : Int32)
  · replace h := if_t h (e36.symm.trans b36_3)
    refine lv_tableIn (tgt := 213) hx hb dX9_isRight_36 (by rw [b36_3]; decide) (by rw [b36_3]; decide) (by rw [b36_3]; rfl) (by decide) ?_
    refine lv_aload_n hx hb dX9_isRight_213 rfl (lv_at hl 4 rfl) ?_
    refine lv_iload hx hb dX9_isRight_214 (lv_at hl 1 rfl) ?_
    refine lv_iload_n hx hb dX9_isRight_216 rfl (lv_at hl 5 rfl) ?_
    replace h := bp_at h
    obtain ⟨r217, e217, h⟩ := h
    refine r_calli (rest := []) hC hI oM_0 (C := "EqualCourtModel") rfl ywX9_isStep tw_1251 (cX9_isStep_ok  e217) ⟨Nat.le_of_ble_eq_true rfl, Nat.le_of_ble_eq_true rfl⟩ ⟨rfl, rfl⟩ rfl hl.1 rfl (Nat.le_of_ble_eq_true rfl) dX9_isRight_217 (fun H locs hI => ?_)
    refine lv_if_eq (tgt := 276) hx hb dX9_isRight_220 (by decide) (fun c220 => ?_) (fun c220 => ?_)
    · replace h := if_t h c220
      refine lv_iconst (v := 0) hx hb dX9_isRight_276 (by decide) ?_
      exact hret (ret_p _ h) (by decide) dX9_isRight_277 hI
    · replace h := if_f h c220
      refine lv_aload_n hx hb dX9_isRight_223 rfl (lv_at hl 4 rfl) ?_
      refine lv_iload hx hb dX9_isRight_224 (lv_at hl 0 rfl) ?_
      refine lv_iload_n hx hb dX9_isRight_226 rfl (lv_at hl 5 rfl) ?_
      replace h := bp_at h
      obtain ⟨r227, e227, h⟩ := h
      refine r_calli (rest := []) hC hI oM_0 (C := "EqualCourtModel") rfl ywX9_isStep tw_1251 (cX9_isStep_ok  e227) ⟨Nat.le_of_ble_eq_true rfl, Nat.le_of_ble_eq_true rfl⟩ ⟨rfl, rfl⟩ rfl hl.1 rfl (Nat.le_of_ble_eq_true rfl) dX9_isRight_227 (fun H locs hI => ?_)
      refine lv_if_eq (tgt := 276) hx hb dX9_isRight_230 (by decide) (fun c230 => ?_) (fun c230 => ?_)
      · replace h := if_t h c230
        refine lv_iconst (v := 0) hx hb dX9_isRight_276 (by decide) ?_
        exact hret (ret_p _ h) (by decide) dX9_isRight_277 hI
      · replace h := if_f h c230
        refine lv_aload_n hx hb dX9_isRight_233 rfl (lv_at hl 4 rfl) ?_
        refine gX9_stepA hC hI tw_870 dX9_isRight_234 ?_
        refine lv_iload hx hb dX9_isRight_237 (lv_at hl 1 rfl) ?_
        have g239 := (gd_at h).1
        replace h := (gd_at h).2
        refine r_iald hC hI aM_13 g239 dX9_isRight_239 ?_
        refine lv_iload_n hx hb dX9_isRight_240 rfl (lv_at hl 3 rfl) ?_
        refine lv_icmp_ne (tgt := 276) hx hb dX9_isRight_241 (by decide) (fun c241 => ?_) (fun c241 => ?_)
        · replace h := if_f h c241
          refine lv_iconst (v := 0) hx hb dX9_isRight_276 (by decide) ?_
          exact hret (ret_p _ h) (by decide) dX9_isRight_277 hI
        · replace h := if_t h c241
          refine lv_aload_n hx hb dX9_isRight_244 rfl (lv_at hl 4 rfl) ?_
          refine gX9_stepB hC hI tw_871 dX9_isRight_245 ?_
          refine lv_iload hx hb dX9_isRight_248 (lv_at hl 1 rfl) ?_
          have g250 := (gd_at h).1
          replace h := (gd_at h).2
          refine r_iald hC hI aM_14 g250 dX9_isRight_250 ?_
          refine lv_aload_n hx hb dX9_isRight_251 rfl (lv_at hl 4 rfl) ?_
          refine gX9_stepA hC hI tw_870 dX9_isRight_252 ?_
          refine lv_iload hx hb dX9_isRight_255 (lv_at hl 0 rfl) ?_
          have g257 := (gd_at h).1
          replace h := (gd_at h).2
          refine r_iald hC hI aM_13 g257 dX9_isRight_257 ?_
          refine lv_icmp_ne (tgt := 276) hx hb dX9_isRight_258 (by decide) (fun c258 => ?_) (fun c258 => ?_)
          · replace h := if_f h c258
            refine lv_iconst (v := 0) hx hb dX9_isRight_276 (by decide) ?_
            exact hret (ret_p _ h) (by decide) dX9_isRight_277 hI
          · replace h := if_t h c258
            refine lv_aload_n hx hb dX9_isRight_261 rfl (lv_at hl 4 rfl) ?_
            refine gX9_stepB hC hI tw_871 dX9_isRight_262 ?_
            refine lv_iload hx hb dX9_isRight_265 (lv_at hl 0 rfl) ?_
            have g267 := (gd_at h).1
            replace h := (gd_at h).2
            refine r_iald hC hI aM_14 g267 dX9_isRight_267 ?_
            refine lv_iload_n hx hb dX9_isRight_268 rfl (lv_at hl 2 rfl) ?_
            refine lv_icmp_ne (tgt := 276) hx hb dX9_isRight_269 (by decide) (fun c269 => ?_) (fun c269 => ?_)
            · replace h := if_f h c269
              refine lv_iconst (v := 0) hx hb dX9_isRight_276 (by decide) ?_
              exact hret (ret_p _ h) (by decide) dX9_isRight_277 hI
            · replace h := if_t h c269
              refine lv_iconst (v := 1) hx hb dX9_isRight_272 (by decide) ?_
              refine lv_goto (tgt := 277) hx hb dX9_isRight_273 (by decide) ?_
              exact hret (ret_p _ h) (by decide) dX9_isRight_277 hI
  replace h := if_f h (fun q => b36_3 (e36.trans q))
  by_cases b36_4 : y36 = (4 : Int32)
  · replace h := if_t h (e36.symm.trans b36_4)
    refine lv_tableIn (tgt := 278) hx hb dX9_isRight_36 (by rw [b36_4]; decide) (by rw [b36_4]; decide) (by rw [b36_4]; rfl) (by decide) ?_
    refine lv_aload_n hx hb dX9_isRight_278 rfl (lv_at hl 4 rfl) ?_
    refine lv_iload_n hx hb dX9_isRight_279 rfl (lv_at hl 5 rfl) ?_
    replace h := bp_at h
    obtain ⟨r280, e280, h⟩ := h
    refine r_calli (rest := []) hC hI oM_0 (C := "EqualCourtModel") rfl ywX9_isRightByParts tw_1255 (cX9_isRightByParts_ok  e280) ⟨Nat.le_of_ble_eq_true rfl, Nat.le_of_ble_eq_true rfl⟩ ⟨rfl, rfl⟩ rfl hl.1 rfl (Nat.le_of_ble_eq_true rfl) dX9_isRight_280 (fun H locs hI => ?_)
    have g283 := (gd_at h).1
    replace h := (gd_at h).2
    exact hret (ret_p _ h) g283 dX9_isRight_283 hI
  replace h := if_f h (fun q => b36_4 (e36.trans q))
  by_cases b36_5 : y36 = (5 : Int32)
  · replace h := if_t h (e36.symm.trans b36_5)
    refine lv_tableIn (tgt := 284) hx hb dX9_isRight_36 (by rw [b36_5]; decide) (by rw [b36_5]; decide) (by rw [b36_5]; rfl) (by decide) ?_
    refine lv_aload_n hx hb dX9_isRight_284 rfl (lv_at hl 4 rfl) ?_
    refine lv_iload hx hb dX9_isRight_285 (lv_at hl 1 rfl) ?_
    refine lv_iload_n hx hb dX9_isRight_287 rfl (lv_at hl 5 rfl) ?_
    replace h := bp_at h
    obtain ⟨r288, e288, h⟩ := h
    refine r_calli (rest := []) hC hI oM_0 (C := "EqualCourtModel") rfl ywX9_isStep tw_1251 (cX9_isStep_ok  e288) ⟨Nat.le_of_ble_eq_true rfl, Nat.le_of_ble_eq_true rfl⟩ ⟨rfl, rfl⟩ rfl hl.1 rfl (Nat.le_of_ble_eq_true rfl) dX9_isRight_288 (fun H locs hI => ?_)
    refine lv_if_eq (tgt := 317) hx hb dX9_isRight_291 (by decide) (fun c291 => ?_) (fun c291 => ?_)
    · replace h := if_t h c291
      refine lv_iconst (v := 0) hx hb dX9_isRight_317 (by decide) ?_
      exact hret (ret_p _ h) (by decide) dX9_isRight_318 hI
    · replace h := if_f h c291
      refine lv_aload_n hx hb dX9_isRight_294 rfl (lv_at hl 4 rfl) ?_
      refine lv_iload hx hb dX9_isRight_295 (lv_at hl 1 rfl) ?_
      refine lv_iload_n hx hb dX9_isRight_297 rfl (lv_at hl 3 rfl) ?_
      refine lv_iload_n hx hb dX9_isRight_298 rfl (lv_at hl 2 rfl) ?_
      refine lv_aload_n hx hb dX9_isRight_299 rfl (lv_at hl 4 rfl) ?_
      refine gX9_reasonOf hC hI tw_869 dX9_isRight_300 ?_
      refine lv_iload_n hx hb dX9_isRight_303 rfl (lv_at hl 5 rfl) ?_
      have g304 := (gd_at h).1
      replace h := (gd_at h).2
      refine r_iald hC hI aM_12 g304 dX9_isRight_304 ?_
      refine lv_iconst (v := 5) hx hb dX9_isRight_305 (by decide) ?_
      refine lv_isub hx hb dX9_isRight_306 ?_
      replace h := bp_at h
      obtain ⟨r307, e307, h⟩ := h
      refine r_calli (rest := []) hC hI oM_0 (C := "EqualCourtModel") rfl ywX9_isOfRows tw_1263 (cX9_isOfRows_ok  e307) ⟨Nat.le_of_ble_eq_true rfl, Nat.le_of_ble_eq_true rfl⟩ ⟨rfl, rfl⟩ rfl hl.1 rfl (Nat.le_of_ble_eq_true rfl) dX9_isRight_307 (fun H locs hI => ?_)
      refine lv_if_eq (tgt := 317) hx hb dX9_isRight_310 (by decide) (fun c310 => ?_) (fun c310 => ?_)
      · replace h := if_t h c310
        refine lv_iconst (v := 0) hx hb dX9_isRight_317 (by decide) ?_
        exact hret (ret_p _ h) (by decide) dX9_isRight_318 hI
      · replace h := if_f h c310
        refine lv_iconst (v := 1) hx hb dX9_isRight_313 (by decide) ?_
        refine lv_goto (tgt := 318) hx hb dX9_isRight_314 (by decide) ?_
        exact hret (ret_p _ h) (by decide) dX9_isRight_318 hI
  replace h := if_f h (fun q => b36_5 (e36.trans q))
  by_cases b36_6 : y36 = (6 : Int32)
  · replace h := if_t h (e36.symm.trans b36_6)
    refine lv_tableIn (tgt := 284) hx hb dX9_isRight_36 (by rw [b36_6]; decide) (by rw [b36_6]; decide) (by rw [b36_6]; rfl) (by decide) ?_
    refine lv_aload_n hx hb dX9_isRight_284 rfl (lv_at hl 4 rfl) ?_
    refine lv_iload hx hb dX9_isRight_285 (lv_at hl 1 rfl) ?_
    refine lv_iload_n hx hb dX9_isRight_287 rfl (lv_at hl 5 rfl) ?_
    replace h := bp_at h
    obtain ⟨r288, e288, h⟩ := h
    refine r_calli (rest := []) hC hI oM_0 (C := "EqualCourtModel") rfl ywX9_isStep tw_1251 (cX9_isStep_ok  e288) ⟨Nat.le_of_ble_eq_true rfl, Nat.le_of_ble_eq_true rfl⟩ ⟨rfl, rfl⟩ rfl hl.1 rfl (Nat.le_of_ble_eq_true rfl) dX9_isRight_288 (fun H locs hI => ?_)
    refine lv_if_eq (tgt := 317) hx hb dX9_isRight_291 (by decide) (fun c291 => ?_) (fun c291 => ?_)
    · replace h := if_t h c291
      refine lv_iconst (v := 0) hx hb dX9_isRight_317 (by decide) ?_
      exact hret (ret_p _ h) (by decide) dX9_isRight_318 hI
    · replace h := if_f h c291
      refine lv_aload_n hx hb dX9_isRight_294 rfl (lv_at hl 4 rfl) ?_
      refine lv_iload hx hb dX9_isRight_295 (lv_at hl 1 rfl) ?_
      refine lv_iload_n hx hb dX9_isRight_297 rfl (lv_at hl 3 rfl) ?_
      refine lv_iload_n hx hb dX9_isRight_298 rfl (lv_at hl 2 rfl) ?_
      refine lv_aload_n hx hb dX9_isRight_299 rfl (lv_at hl 4 rfl) ?_
      refine gX9_reasonOf hC hI tw_869 dX9_isRight_300 ?_
      refine lv_iload_n hx hb dX9_isRight_303 rfl (lv_at hl 5 rfl) ?_
      have g304 := (gd_at h).1
      replace h := (gd_at h).2
      refine r_iald hC hI aM_12 g304 dX9_isRight_304 ?_
      refine lv_iconst (v := 5) hx hb dX9_isRight_305 (by decide) ?_
      refine lv_isub hx hb dX9_isRight_306 ?_
      replace h := bp_at h
      obtain ⟨r307, e307, h⟩ := h
      refine r_calli (rest := []) hC hI oM_0 (C := "EqualCourtModel") rfl ywX9_isOfRows tw_1263 (cX9_isOfRows_ok  e307) ⟨Nat.le_of_ble_eq_true rfl, Nat.le_of_ble_eq_true rfl⟩ ⟨rfl, rfl⟩ rfl hl.1 rfl (Nat.le_of_ble_eq_true rfl) dX9_isRight_307 (fun H locs hI => ?_)
      refine lv_if_eq (tgt := 317) hx hb dX9_isRight_310 (by decide) (fun c310 => ?_) (fun c310 => ?_)
      · replace h := if_t h c310
        refine lv_iconst (v := 0) hx hb dX9_isRight_317 (by decide) ?_
        exact hret (ret_p _ h) (by decide) dX9_isRight_318 hI
      · replace h := if_f h c310
        refine lv_iconst (v := 1) hx hb dX9_isRight_313 (by decide) ?_
        refine lv_goto (tgt := 318) hx hb dX9_isRight_314 (by decide) ?_
        exact hret (ret_p _ h) (by decide) dX9_isRight_318 hI
  replace h := if_f h (fun q => b36_6 (e36.trans q))
  refine lv_tableOut (tgt := 319) hx hb dX9_isRight_36 (by have q0 := lv_neT b36_0 (a := 0) (by decide); have q1 := lv_neT b36_1 (a := 1) (by decide); have q2 := lv_neT b36_2 (a := 2) (by decide); have q3 := lv_neT b36_3 (a := 3) (by decide); have q4 := lv_neT b36_4 (a := 4) (by decide); have q5 := lv_neT b36_5 (a := 5) (by decide); have q6 := lv_neT b36_6 (a := 6) (by decide); omega) (by decide) ?_
  refine lv_iconst (v := 0) hx hb dX9_isRight_319 (by decide) ?_
  exact hret (ret_p _ h) (by decide) dX9_isRight_320 hI
theorem dX9_check_0 : decode cX9_check 0 = .ok (.iconst 0, 1) := by decide +kernel
theorem dX9_check_1 : decode cX9_check 1 = .ok (.istore_n 3, 1) := by decide +kernel
theorem dX9_check_2 : decode cX9_check 2 = .ok (.iload_n 3, 1) := by decide +kernel
theorem dX9_check_3 : decode cX9_check 3 = .ok (.aload_n 0, 1) := by decide +kernel
theorem dX9_check_4 : decode cX9_check 4 = .ok (.getfield 176, 3) := by decide +kernel
theorem dX9_check_7 : decode cX9_check 7 = .ok (.if_icmp .ge 19, 3) := by decide +kernel
theorem dX9_check_10 : decode cX9_check 10 = .ok (.aload_n 0, 1) := by decide +kernel
theorem dX9_check_11 : decode cX9_check 11 = .ok (.iload_n 3, 1) := by decide +kernel
theorem dX9_check_12 : decode cX9_check 12 = .ok (.invokevirtual 275, 3) := by decide +kernel
theorem dX9_check_15 : decode cX9_check 15 = .ok (.ifCond .ne 5, 3) := by decide +kernel
theorem dX9_check_18 : decode cX9_check 18 = .ok (.iload_n 3, 1) := by decide +kernel
theorem dX9_check_19 : decode cX9_check 19 = .ok (.ireturn, 1) := by decide +kernel
theorem dX9_check_20 : decode cX9_check 20 = .ok (.iinc 3 1, 3) := by decide +kernel
theorem dX9_check_23 : decode cX9_check 23 = .ok (.goto (-21), 3) := by decide +kernel
theorem dX9_check_26 : decode cX9_check 26 = .ok (.aload_n 0, 1) := by decide +kernel
theorem dX9_check_27 : decode cX9_check 27 = .ok (.getfield 176, 3) := by decide +kernel
theorem dX9_check_30 : decode cX9_check 30 = .ok (.ifCond .le 37, 3) := by decide +kernel
theorem dX9_check_33 : decode cX9_check 33 = .ok (.aload_n 0, 1) := by decide +kernel
theorem dX9_check_34 : decode cX9_check 34 = .ok (.getfield 47, 3) := by decide +kernel
theorem dX9_check_37 : decode cX9_check 37 = .ok (.aload_n 0, 1) := by decide +kernel
theorem dX9_check_38 : decode cX9_check 38 = .ok (.getfield 176, 3) := by decide +kernel
theorem dX9_check_41 : decode cX9_check 41 = .ok (.iconst 1, 1) := by decide +kernel
theorem dX9_check_42 : decode cX9_check 42 = .ok (.isub, 1) := by decide +kernel
theorem dX9_check_43 : decode cX9_check 43 = .ok (.iaload, 1) := by decide +kernel
theorem dX9_check_44 : decode cX9_check 44 = .ok (.iload_n 1, 1) := by decide +kernel
theorem dX9_check_45 : decode cX9_check 45 = .ok (.if_icmp .ne 22, 3) := by decide +kernel
theorem dX9_check_48 : decode cX9_check 48 = .ok (.aload_n 0, 1) := by decide +kernel
theorem dX9_check_49 : decode cX9_check 49 = .ok (.getfield 50, 3) := by decide +kernel
theorem dX9_check_52 : decode cX9_check 52 = .ok (.aload_n 0, 1) := by decide +kernel
theorem dX9_check_53 : decode cX9_check 53 = .ok (.getfield 176, 3) := by decide +kernel
theorem dX9_check_56 : decode cX9_check 56 = .ok (.iconst 1, 1) := by decide +kernel
theorem dX9_check_57 : decode cX9_check 57 = .ok (.isub, 1) := by decide +kernel
theorem dX9_check_58 : decode cX9_check 58 = .ok (.iaload, 1) := by decide +kernel
theorem dX9_check_59 : decode cX9_check 59 = .ok (.iload_n 2, 1) := by decide +kernel
theorem dX9_check_60 : decode cX9_check 60 = .ok (.if_icmp .ne 7, 3) := by decide +kernel
theorem dX9_check_63 : decode cX9_check 63 = .ok (.iconst (-1), 1) := by decide +kernel
theorem dX9_check_64 : decode cX9_check 64 = .ok (.goto 7, 3) := by decide +kernel
theorem dX9_check_67 : decode cX9_check 67 = .ok (.aload_n 0, 1) := by decide +kernel
theorem dX9_check_68 : decode cX9_check 68 = .ok (.getfield 176, 3) := by decide +kernel
theorem dX9_check_71 : decode cX9_check 71 = .ok (.ireturn, 1) := by decide +kernel
abbrev rmX9_check : Room := { frames := 3, cells := 0, slots := 0, locals := 76 }
theorem ywX9_check : fY yX9_check "EqualCourtModel" cX9_check 4 (some .int) 2 := ⟨tw_1244, tw_1245, tw_11, tw_1246, by decide +kernel⟩
set_option maxHeartbeats 4000000 in
set_option maxRecDepth 100000 in
theorem cX9_check_ok {D : va_G} {ad : Nat → Nat} {cy cz : ClassId} {l : Launch} {z : fS} {v1 : Int32} {v2 : Int32} {r : Int32} (h : fX9_check z v1 v2 = some r) : fMi D 31 ad (cfM ad cy cz) cy cz l yX9_check cX9_check 4 (some .int) rmX9_check [.ref (ad 0), .int v1, .int v2] z r z := by
  refine f_bodyi (by decide) (Nat.le_of_ble_eq_true rfl) (fun p e s m args below meth c Q hC hret ls hl hI => ?_)
  have hx := hC.1
  have hb := hC.2.1
  have hl : lv_has ls 4 [(0, .ref (ad 0)), (1, .int v1), (2, .int v2)] := hl
  unfold fX9_check at h
  have w26 : ∀ (v1 : Int32) (v2 : Int32) (H : Heap) (locs : List Loc) (ls : Array Slot), fI D 31 ad (cfM ad cy cz) z s H locs → lv_has ls 4 [(0, .ref (ad 0)), (1, .int v1), (2, .int v2)] → jX9_check_26   z v1 v2 = some r → W p l e rmX9_check s m args below meth c H locs 0 0 Q (F0 m 26 ls []) := by
    intro v1 v2 H locs ls hI hl h
    unfold jX9_check_26 at h
    refine lv_aload_n hx hb dX9_check_26 rfl (lv_at hl 0 rfl) ?_
    refine gX9_steps hC hI tw_874 dX9_check_27 ?_
    refine lv_if_le (tgt := 67) hx hb dX9_check_30 (by decide) (fun c30 => ?_) (fun c30 => ?_)
    · replace h := if_t h c30
      refine lv_aload_n hx hb dX9_check_67 rfl (lv_at hl 0 rfl) ?_
      refine gX9_steps hC hI tw_874 dX9_check_68 ?_
      exact hret (ret_p _ h) dX9_check_71 hI
    · replace h := if_f h c30
      refine lv_aload_n hx hb dX9_check_33 rfl (lv_at hl 0 rfl) ?_
      refine gX9_stepA hC hI tw_870 dX9_check_34 ?_
      refine lv_aload_n hx hb dX9_check_37 rfl (lv_at hl 0 rfl) ?_
      refine gX9_steps hC hI tw_874 dX9_check_38 ?_
      refine lv_iconst (v := 1) hx hb dX9_check_41 (by decide) ?_
      refine lv_isub hx hb dX9_check_42 ?_
      have g43 := (gd_at h).1
      replace h := (gd_at h).2
      refine r_iald hC hI aM_13 g43 dX9_check_43 ?_
      refine lv_iload_n hx hb dX9_check_44 rfl (lv_at hl 1 rfl) ?_
      refine lv_icmp_ne (tgt := 67) hx hb dX9_check_45 (by decide) (fun c45 => ?_) (fun c45 => ?_)
      · replace h := if_f h c45
        refine lv_aload_n hx hb dX9_check_67 rfl (lv_at hl 0 rfl) ?_
        refine gX9_steps hC hI tw_874 dX9_check_68 ?_
        exact hret (ret_p _ h) dX9_check_71 hI
      · replace h := if_t h c45
        refine lv_aload_n hx hb dX9_check_48 rfl (lv_at hl 0 rfl) ?_
        refine gX9_stepB hC hI tw_871 dX9_check_49 ?_
        refine lv_aload_n hx hb dX9_check_52 rfl (lv_at hl 0 rfl) ?_
        refine gX9_steps hC hI tw_874 dX9_check_53 ?_
        refine lv_iconst (v := 1) hx hb dX9_check_56 (by decide) ?_
        refine lv_isub hx hb dX9_check_57 ?_
        have g58 := (gd_at h).1
        replace h := (gd_at h).2
        refine r_iald hC hI aM_14 g58 dX9_check_58 ?_
        refine lv_iload_n hx hb dX9_check_59 rfl (lv_at hl 2 rfl) ?_
        refine lv_icmp_ne (tgt := 67) hx hb dX9_check_60 (by decide) (fun c60 => ?_) (fun c60 => ?_)
        · replace h := if_f h c60
          refine lv_aload_n hx hb dX9_check_67 rfl (lv_at hl 0 rfl) ?_
          refine gX9_steps hC hI tw_874 dX9_check_68 ?_
          exact hret (ret_p _ h) dX9_check_71 hI
        · replace h := if_t h c60
          refine lv_iconst (v := -1) hx hb dX9_check_63 (by decide) ?_
          refine lv_goto (tgt := 71) hx hb dX9_check_64 (by decide) ?_
          exact hret (ret_p _ h) dX9_check_71 hI
  refine lv_iconst (v := 0) hx hb dX9_check_0 (by decide) ?_
  refine lv_istore_n (lv' := [(3, .int (0 : Int32)), (0, .ref (ad 0)), (1, .int v1), (2, .int v2)]) hx hb dX9_check_1 rfl hl (by decide) rfl (fun ls hl => ?_)
  have w2 : ∀ (N2 : Nat) (v1 : Int32) (v2 : Int32) (v3 : Int32) (H : Heap) (locs : List Loc) (ls : Array Slot), fI D 31 ad (cfM ad cy cz) z s H locs → lv_has ls 4 [(0, .ref (ad 0)), (1, .int v1), (2, .int v2), (3, .int v3)] → lX9_check_2  (jX9_check_26   z v1 v2) z v1 v2 N2 v3 = some r → W p l e rmX9_check s m args below meth c H locs 0 0 Q (F0 m 2 ls []) := by
    intro N2
    induction N2 with
    | zero =>
      intro v1 v2 v3 H locs ls hI hl h
      exact none_no h
    | succ N2 ih2 =>
      intro v1 v2 v3 H locs ls hI hl h
      rw [lX9_check_2.eq_2] at h
      refine lv_iload_n hx hb dX9_check_2 rfl (lv_at hl 3 rfl) ?_
      refine lv_aload_n hx hb dX9_check_3 rfl (lv_at hl 0 rfl) ?_
      refine gX9_steps hC hI tw_874 dX9_check_4 ?_
      refine lv_icmp_ge (tgt := 26) hx hb dX9_check_7 (by decide) (fun c7 => ?_) (fun c7 => ?_)
      · replace h := if_t h c7
        exact w26 v1 v2 _ _ _ hI (lv_sub hl [0, 1, 2] rfl) h
      · replace h := if_f h c7
        refine lv_aload_n hx hb dX9_check_10 rfl (lv_at hl 0 rfl) ?_
        refine lv_iload_n hx hb dX9_check_11 rfl (lv_at hl 3 rfl) ?_
        replace h := bp_at h
        obtain ⟨r12, e12, h⟩ := h
        refine r_calli (rest := []) hC hI oM_0 (C := "EqualCourtModel") rfl ywX9_isRight tw_1247 (cX9_isRight_ok  e12) ⟨Nat.le_of_ble_eq_true rfl, Nat.le_of_ble_eq_true rfl⟩ ⟨rfl, rfl⟩ rfl hl.1 rfl (Nat.le_of_ble_eq_true rfl) dX9_check_12 (fun H locs hI => ?_)
        refine lv_if_ne (tgt := 20) hx hb dX9_check_15 (by decide) (fun c15 => ?_) (fun c15 => ?_)
        · replace h := if_f h c15
          obtain ⟨x20, e20⟩ : ∃ y : Int32, y = (v3 + (1 : Int32)) := ⟨_, rfl⟩
          replace h := bnd_at h e20
          refine lv_iinc (v := x20) (lv' := [(3, .int x20), (0, .ref (ad 0)), (1, .int v1), (2, .int v2)]) hx hb dX9_check_20 hl (k := 3) rfl (by rw [e20]; rfl) (by decide) rfl (fun ls hl => ?_)
          refine lv_goto (tgt := 2) hx hb dX9_check_23 (by decide) ?_
          exact ih2 v1 v2 x20 _ _ _ hI (lv_sub hl [1, 2, 3, 0] rfl) h
        · replace h := if_t h c15
          refine lv_iload_n hx hb dX9_check_18 rfl (lv_at hl 3 rfl) ?_
          exact hret (ret_p _ h) dX9_check_19 hI
  exact w2 FU v1 v2 (0 : Int32) _ _ _ hI (lv_sub hl [1, 2, 3, 0] rfl) h
theorem dX9_status_0 : decode cX9_status 0 = .ok (.aload_n 0, 1) := by decide +kernel
theorem dX9_status_1 : decode cX9_status 1 = .ok (.getfield 105, 3) := by decide +kernel
theorem dX9_status_4 : decode cX9_status 4 = .ok (.ireturn, 1) := by decide +kernel
abbrev rmX9_status : Room := { frames := 0, cells := 0, slots := 0, locals := 0 }
theorem ywX9_status : fY yX9_status "EqualCourtModel" cX9_status 1 (some .int) 0 := ⟨tw_1268, tw_1269, tw_11, tw_1270, by decide +kernel⟩
set_option maxHeartbeats 4000000 in
set_option maxRecDepth 100000 in
theorem cX9_status_ok {D : va_G} {ad : Nat → Nat} {cy cz : ClassId} {l : Launch} {z : fS}  {r : Int32} (h : fX9_status z = some r) : fMi D 31 ad (cfM ad cy cz) cy cz l yX9_status cX9_status 1 (some .int) rmX9_status [.ref (ad 0)] z r z := by
  refine f_bodyi (by decide) (Nat.le_of_ble_eq_true rfl) (fun p e s m args below meth c Q hC hret ls hl hI => ?_)
  have hx := hC.1
  have hb := hC.2.1
  have hl : lv_has ls 1 [(0, .ref (ad 0))] := hl
  unfold fX9_status at h
  refine lv_aload_n hx hb dX9_status_0 rfl (lv_at hl 0 rfl) ?_
  refine gX9_finding hC hI tw_880 dX9_status_1 ?_
  exact hret (ret_p _ h) dX9_status_4 hI
