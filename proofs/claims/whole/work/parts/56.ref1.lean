theorem dX9_refuse_0 : decode cX9_refuse 0 = .ok (.aload_n 0, 1) := by decide +kernel
theorem dX9_refuse_1 : decode cX9_refuse 1 = .ok (.iload_n 1, 1) := by decide +kernel
theorem dX9_refuse_2 : decode cX9_refuse 2 = .ok (.putfield 105, 3) := by decide +kernel
theorem dX9_refuse_5 : decode cX9_refuse 5 = .ok (.iconst (-1), 1) := by decide +kernel
theorem dX9_refuse_6 : decode cX9_refuse 6 = .ok (.ireturn, 1) := by decide +kernel
abbrev rmX9_refuse : Room := { frames := 0, cells := 0, slots := 0, locals := 0 }
theorem ywX9_refuse : fY yX9_refuse "EqualCourtModel" cX9_refuse 2 (some .int) 1 := ⟨tw_987, tp_27, tw_11, tw_988, by decide +kernel⟩
set_option maxHeartbeats 4000000 in
set_option maxRecDepth 100000 in
theorem cX9_refuse_ok {D : va_G} {ad : Nat → Nat} {cy cz : ClassId} {l : Launch} {z : fS} {v1 : Int32} {r : Int32} {τ : fS} (h : fX9_refuse z v1 = some (r, τ)) : fMi D 31 ad (cfM ad cy cz) cy cz l yX9_refuse cX9_refuse 2 (some .int) rmX9_refuse [.ref (ad 0), .int v1] z r τ := by
  refine f_bodyi (by decide) (Nat.le_of_ble_eq_true rfl) (fun p e s m args below meth c Q hC hret ls hl hI => ?_)
  have hx := hC.1
  have hb := hC.2.1
  have hl : lv_has ls 2 [(0, .ref (ad 0)), (1, .int v1)] := hl
  unfold fX9_refuse at h
  refine lv_aload_n hx hb dX9_refuse_0 rfl (lv_at hl 0 rfl) ?_
  refine lv_iload_n hx hb dX9_refuse_1 rfl (lv_at hl 1 rfl) ?_
  refine pX9_finding hC hI tw_880 dX9_refuse_2 (fun z2 H locs e2 hI => ?_)
  replace h := bnd_at h e2
  refine lv_iconst (v := -1) hx hb dX9_refuse_5 (by decide) ?_
  exact hret h dX9_refuse_6 hI
theorem dX9_done_0 : decode cX9_done 0 = .ok (.aload_n 0, 1) := by decide +kernel
theorem dX9_done_1 : decode cX9_done 1 = .ok (.iconst 0, 1) := by decide +kernel
theorem dX9_done_2 : decode cX9_done 2 = .ok (.putfield 105, 3) := by decide +kernel
theorem dX9_done_5 : decode cX9_done 5 = .ok (.iload_n 1, 1) := by decide +kernel
theorem dX9_done_6 : decode cX9_done 6 = .ok (.ireturn, 1) := by decide +kernel
abbrev rmX9_done : Room := { frames := 0, cells := 0, slots := 0, locals := 0 }
theorem ywX9_done : fY yX9_done "EqualCourtModel" cX9_done 2 (some .int) 1 := ⟨tw_1003, tp_31, tw_11, tw_1004, by decide +kernel⟩
set_option maxHeartbeats 4000000 in
set_option maxRecDepth 100000 in
theorem cX9_done_ok {D : va_G} {ad : Nat → Nat} {cy cz : ClassId} {l : Launch} {z : fS} {v1 : Int32} {r : Int32} {τ : fS} (h : fX9_done z v1 = some (r, τ)) : fMi D 31 ad (cfM ad cy cz) cy cz l yX9_done cX9_done 2 (some .int) rmX9_done [.ref (ad 0), .int v1] z r τ := by
  refine f_bodyi (by decide) (Nat.le_of_ble_eq_true rfl) (fun p e s m args below meth c Q hC hret ls hl hI => ?_)
  have hx := hC.1
  have hb := hC.2.1
  have hl : lv_has ls 2 [(0, .ref (ad 0)), (1, .int v1)] := hl
  unfold fX9_done at h
  refine lv_aload_n hx hb dX9_done_0 rfl (lv_at hl 0 rfl) ?_
  refine lv_iconst (v := 0) hx hb dX9_done_1 (by decide) ?_
  refine pX9_finding hC hI tw_880 dX9_done_2 (fun z2 H locs e2 hI => ?_)
  replace h := bnd_at h e2
  refine lv_iload_n hx hb dX9_done_5 rfl (lv_at hl 1 rfl) ?_
  exact hret h dX9_done_6 hI
theorem dX9_isTerm_0 : decode cX9_isTerm 0 = .ok (.iload_n 1, 1) := by decide +kernel
theorem dX9_isTerm_1 : decode cX9_isTerm 1 = .ok (.ifCond .lt 15, 3) := by decide +kernel
theorem dX9_isTerm_4 : decode cX9_isTerm 4 = .ok (.iload_n 1, 1) := by decide +kernel
theorem dX9_isTerm_5 : decode cX9_isTerm 5 = .ok (.aload_n 0, 1) := by decide +kernel
theorem dX9_isTerm_6 : decode cX9_isTerm 6 = .ok (.getfield 108, 3) := by decide +kernel
theorem dX9_isTerm_9 : decode cX9_isTerm 9 = .ok (.if_icmp .ge 7, 3) := by decide +kernel
theorem dX9_isTerm_12 : decode cX9_isTerm 12 = .ok (.iconst 1, 1) := by decide +kernel
theorem dX9_isTerm_13 : decode cX9_isTerm 13 = .ok (.goto 4, 3) := by decide +kernel
theorem dX9_isTerm_16 : decode cX9_isTerm 16 = .ok (.iconst 0, 1) := by decide +kernel
theorem dX9_isTerm_17 : decode cX9_isTerm 17 = .ok (.ireturn, 1) := by decide +kernel
abbrev rmX9_isTerm : Room := { frames := 0, cells := 0, slots := 0, locals := 0 }
theorem ywX9_isTerm : fY yX9_isTerm "EqualCourtModel" cX9_isTerm 2 (some .boolean) 1 := ⟨tw_1015, tp_32, tw_11, tw_1016, by decide +kernel⟩
set_option maxHeartbeats 4000000 in
set_option maxRecDepth 100000 in
theorem cX9_isTerm_ok {D : va_G} {ad : Nat → Nat} {cy cz : ClassId} {l : Launch} {z : fS} {v1 : Int32} {r : Int32} (h : fX9_isTerm z v1 = some r) : fMi D 31 ad (cfM ad cy cz) cy cz l yX9_isTerm cX9_isTerm 2 (some .boolean) rmX9_isTerm [.ref (ad 0), .int v1] z r z := by
  refine f_bodyz (by decide) (Nat.le_of_ble_eq_true rfl) (fun p e s m args below meth c Q hC hret ls hl hI => ?_)
  have hx := hC.1
  have hb := hC.2.1
  have hl : lv_has ls 2 [(0, .ref (ad 0)), (1, .int v1)] := hl
  unfold fX9_isTerm at h
  refine lv_iload_n hx hb dX9_isTerm_0 rfl (lv_at hl 1 rfl) ?_
  refine lv_if_lt (tgt := 16) hx hb dX9_isTerm_1 (by decide) (fun c1 => ?_) (fun c1 => ?_)
  · replace h := if_t h c1
    refine lv_iconst (v := 0) hx hb dX9_isTerm_16 (by decide) ?_
    exact hret (ret_p _ h) (by decide) dX9_isTerm_17 hI
  · replace h := if_f h c1
    refine lv_iload_n hx hb dX9_isTerm_4 rfl (lv_at hl 1 rfl) ?_
    refine lv_aload_n hx hb dX9_isTerm_5 rfl (lv_at hl 0 rfl) ?_
    refine gX9_terms hC hI tw_858 dX9_isTerm_6 ?_
    refine lv_icmp_ge (tgt := 16) hx hb dX9_isTerm_9 (by decide) (fun c9 => ?_) (fun c9 => ?_)
    · replace h := if_t h c9
      refine lv_iconst (v := 0) hx hb dX9_isTerm_16 (by decide) ?_
      exact hret (ret_p _ h) (by decide) dX9_isTerm_17 hI
    · replace h := if_f h c9
      refine lv_iconst (v := 1) hx hb dX9_isTerm_12 (by decide) ?_
      refine lv_goto (tgt := 17) hx hb dX9_isTerm_13 (by decide) ?_
      exact hret (ret_p _ h) (by decide) dX9_isTerm_17 hI
theorem dX9_findTerm_0 : decode cX9_findTerm 0 = .ok (.iconst (-1), 1) := by decide +kernel
theorem dX9_findTerm_1 : decode cX9_findTerm 1 = .ok (.istore 4, 2) := by decide +kernel
theorem dX9_findTerm_3 : decode cX9_findTerm 3 = .ok (.iconst 0, 1) := by decide +kernel
theorem dX9_findTerm_4 : decode cX9_findTerm 4 = .ok (.istore 5, 2) := by decide +kernel
theorem dX9_findTerm_6 : decode cX9_findTerm 6 = .ok (.iload 5, 2) := by decide +kernel
theorem dX9_findTerm_8 : decode cX9_findTerm 8 = .ok (.aload_n 0, 1) := by decide +kernel
theorem dX9_findTerm_9 : decode cX9_findTerm 9 = .ok (.getfield 108, 3) := by decide +kernel
theorem dX9_findTerm_12 : decode cX9_findTerm 12 = .ok (.if_icmp .ge 116, 3) := by decide +kernel
theorem dX9_findTerm_15 : decode cX9_findTerm 15 = .ok (.iload 4, 2) := by decide +kernel
theorem dX9_findTerm_17 : decode cX9_findTerm 17 = .ok (.ifCond .ge 111, 3) := by decide +kernel
theorem dX9_findTerm_20 : decode cX9_findTerm 20 = .ok (.aload_n 0, 1) := by decide +kernel
theorem dX9_findTerm_21 : decode cX9_findTerm 21 = .ok (.getfield 7, 3) := by decide +kernel
theorem dX9_findTerm_24 : decode cX9_findTerm 24 = .ok (.iload 5, 2) := by decide +kernel
theorem dX9_findTerm_26 : decode cX9_findTerm 26 = .ok (.iaload, 1) := by decide +kernel
theorem dX9_findTerm_27 : decode cX9_findTerm 27 = .ok (.iload_n 1, 1) := by decide +kernel
theorem dX9_findTerm_28 : decode cX9_findTerm 28 = .ok (.if_icmp .ne 29, 3) := by decide +kernel
theorem dX9_findTerm_31 : decode cX9_findTerm 31 = .ok (.aload_n 0, 1) := by decide +kernel
theorem dX9_findTerm_32 : decode cX9_findTerm 32 = .ok (.getfield 13, 3) := by decide +kernel
theorem dX9_findTerm_35 : decode cX9_findTerm 35 = .ok (.iload 5, 2) := by decide +kernel
theorem dX9_findTerm_37 : decode cX9_findTerm 37 = .ok (.iaload, 1) := by decide +kernel
theorem dX9_findTerm_38 : decode cX9_findTerm 38 = .ok (.iload_n 2, 1) := by decide +kernel
theorem dX9_findTerm_39 : decode cX9_findTerm 39 = .ok (.if_icmp .ne 18, 3) := by decide +kernel
theorem dX9_findTerm_42 : decode cX9_findTerm 42 = .ok (.aload_n 0, 1) := by decide +kernel
theorem dX9_findTerm_43 : decode cX9_findTerm 43 = .ok (.getfield 16, 3) := by decide +kernel
theorem dX9_findTerm_46 : decode cX9_findTerm 46 = .ok (.iload 5, 2) := by decide +kernel
theorem dX9_findTerm_48 : decode cX9_findTerm 48 = .ok (.iaload, 1) := by decide +kernel
theorem dX9_findTerm_49 : decode cX9_findTerm 49 = .ok (.iload_n 3, 1) := by decide +kernel
theorem dX9_findTerm_50 : decode cX9_findTerm 50 = .ok (.if_icmp .ne 7, 3) := by decide +kernel
theorem dX9_findTerm_53 : decode cX9_findTerm 53 = .ok (.iconst 1, 1) := by decide +kernel
theorem dX9_findTerm_54 : decode cX9_findTerm 54 = .ok (.goto 4, 3) := by decide +kernel
theorem dX9_findTerm_57 : decode cX9_findTerm 57 = .ok (.iconst 0, 1) := by decide +kernel
theorem dX9_findTerm_58 : decode cX9_findTerm 58 = .ok (.istore 6, 2) := by decide +kernel
theorem dX9_findTerm_60 : decode cX9_findTerm 60 = .ok (.iconst 0, 1) := by decide +kernel
theorem dX9_findTerm_61 : decode cX9_findTerm 61 = .ok (.istore 7, 2) := by decide +kernel
theorem dX9_findTerm_63 : decode cX9_findTerm 63 = .ok (.iload 7, 2) := by decide +kernel
theorem dX9_findTerm_65 : decode cX9_findTerm 65 = .ok (.iload_n 3, 1) := by decide +kernel
theorem dX9_findTerm_66 : decode cX9_findTerm 66 = .ok (.if_icmp .ge 43, 3) := by decide +kernel
theorem dX9_findTerm_69 : decode cX9_findTerm 69 = .ok (.iload 6, 2) := by decide +kernel
theorem dX9_findTerm_71 : decode cX9_findTerm 71 = .ok (.ifCond .eq 38, 3) := by decide +kernel
theorem dX9_findTerm_74 : decode cX9_findTerm 74 = .ok (.aload_n 0, 1) := by decide +kernel
theorem dX9_findTerm_75 : decode cX9_findTerm 75 = .ok (.getfield 19, 3) := by decide +kernel
theorem dX9_findTerm_78 : decode cX9_findTerm 78 = .ok (.iconst 3, 1) := by decide +kernel
theorem dX9_findTerm_79 : decode cX9_findTerm 79 = .ok (.iload 5, 2) := by decide +kernel
theorem dX9_findTerm_81 : decode cX9_findTerm 81 = .ok (.imul, 1) := by decide +kernel
theorem dX9_findTerm_82 : decode cX9_findTerm 82 = .ok (.iload 7, 2) := by decide +kernel
theorem dX9_findTerm_84 : decode cX9_findTerm 84 = .ok (.iadd, 1) := by decide +kernel
theorem dX9_findTerm_85 : decode cX9_findTerm 85 = .ok (.iaload, 1) := by decide +kernel
theorem dX9_findTerm_86 : decode cX9_findTerm 86 = .ok (.aload_n 0, 1) := by decide +kernel
theorem dX9_findTerm_87 : decode cX9_findTerm 87 = .ok (.getfield 69, 3) := by decide +kernel
theorem dX9_findTerm_90 : decode cX9_findTerm 90 = .ok (.iload 7, 2) := by decide +kernel
theorem dX9_findTerm_92 : decode cX9_findTerm 92 = .ok (.iaload, 1) := by decide +kernel
theorem dX9_findTerm_93 : decode cX9_findTerm 93 = .ok (.if_icmp .ne 7, 3) := by decide +kernel
theorem dX9_findTerm_96 : decode cX9_findTerm 96 = .ok (.iconst 1, 1) := by decide +kernel
theorem dX9_findTerm_97 : decode cX9_findTerm 97 = .ok (.goto 4, 3) := by decide +kernel
theorem dX9_findTerm_100 : decode cX9_findTerm 100 = .ok (.iconst 0, 1) := by decide +kernel
theorem dX9_findTerm_101 : decode cX9_findTerm 101 = .ok (.istore 6, 2) := by decide +kernel
theorem dX9_findTerm_103 : decode cX9_findTerm 103 = .ok (.iinc 7 1, 3) := by decide +kernel
theorem dX9_findTerm_106 : decode cX9_findTerm 106 = .ok (.goto (-43), 3) := by decide +kernel
theorem dX9_findTerm_109 : decode cX9_findTerm 109 = .ok (.iload 6, 2) := by decide +kernel
theorem dX9_findTerm_111 : decode cX9_findTerm 111 = .ok (.ifCond .eq 8, 3) := by decide +kernel
theorem dX9_findTerm_114 : decode cX9_findTerm 114 = .ok (.iload 5, 2) := by decide +kernel
theorem dX9_findTerm_116 : decode cX9_findTerm 116 = .ok (.goto 4, 3) := by decide +kernel
theorem dX9_findTerm_119 : decode cX9_findTerm 119 = .ok (.iconst (-1), 1) := by decide +kernel
theorem dX9_findTerm_120 : decode cX9_findTerm 120 = .ok (.istore 4, 2) := by decide +kernel
theorem dX9_findTerm_122 : decode cX9_findTerm 122 = .ok (.iinc 5 1, 3) := by decide +kernel
theorem dX9_findTerm_125 : decode cX9_findTerm 125 = .ok (.goto (-119), 3) := by decide +kernel
theorem dX9_findTerm_128 : decode cX9_findTerm 128 = .ok (.iload 4, 2) := by decide +kernel
theorem dX9_findTerm_130 : decode cX9_findTerm 130 = .ok (.ireturn, 1) := by decide +kernel
abbrev rmX9_findTerm : Room := { frames := 0, cells := 0, slots := 0, locals := 0 }
theorem ywX9_findTerm : fY yX9_findTerm "EqualCourtModel" cX9_findTerm 8 (some .int) 3 := ⟨tw_995, tp_29, tw_11, tw_996, by decide +kernel⟩
set_option maxHeartbeats 4000000 in
set_option maxRecDepth 100000 in
theorem cX9_findTerm_ok {D : va_G} {ad : Nat → Nat} {cy cz : ClassId} {l : Launch} {z : fS} {v1 : Int32} {v2 : Int32} {v3 : Int32} {r : Int32} (h : fX9_findTerm z v1 v2 v3 = some r) : fMi D 31 ad (cfM ad cy cz) cy cz l yX9_findTerm cX9_findTerm 8 (some .int) rmX9_findTerm [.ref (ad 0), .int v1, .int v2, .int v3] z r z := by
  refine f_bodyi (by decide) (Nat.le_of_ble_eq_true rfl) (fun p e s m args below meth c Q hC hret ls hl hI => ?_)
  have hx := hC.1
  have hb := hC.2.1
  have hl : lv_has ls 8 [(0, .ref (ad 0)), (1, .int v1), (2, .int v2), (3, .int v3)] := hl
  unfold fX9_findTerm at h
  refine lv_iconst (v := -1) hx hb dX9_findTerm_0 (by decide) ?_
  refine lv_istore (lv' := [(4, .int (-1 : Int32)), (0, .ref (ad 0)), (1, .int v1), (2, .int v2), (3, .int v3)]) hx hb dX9_findTerm_1 hl (by decide) rfl (fun ls hl => ?_)
  refine lv_iconst (v := 0) hx hb dX9_findTerm_3 (by decide) ?_
  refine lv_istore (lv' := [(5, .int (0 : Int32)), (4, .int (-1 : Int32)), (0, .ref (ad 0)), (1, .int v1), (2, .int v2), (3, .int v3)]) hx hb dX9_findTerm_4 hl (by decide) rfl (fun ls hl => ?_)
  have w6 : ∀ (N6 : Nat) (v1 : Int32) (v2 : Int32) (v3 : Int32) (v4 : Int32) (v5 : Int32) (H : Heap) (locs : List Loc) (ls : Array Slot), fI D 31 ad (cfM ad cy cz) z s H locs → lv_has ls 8 [(0, .ref (ad 0)), (1, .int v1), (2, .int v2), (3, .int v3), (4, .int v4), (5, .int v5)] → lX9_findTerm_6   z v1 v2 v3 N6 v4 v5 = some r → W p l e rmX9_findTerm s m args below meth c H locs 0 0 Q (F0 m 6 ls []) := by
    intro N6
    induction N6 with
    | zero =>
      intro v1 v2 v3 v4 v5 H locs ls hI hl h
      exact none_no h
    | succ N6 ih6 =>
      have w109 : ∀ (v1 : Int32) (v2 : Int32) (v3 : Int32) (v5 : Int32) (v6 : Int32) (H : Heap) (locs : List Loc) (ls : Array Slot), fI D 31 ad (cfM ad cy cz) z s H locs → lv_has ls 8 [(0, .ref (ad 0)), (1, .int v1), (2, .int v2), (3, .int v3), (5, .int v5), (6, .int v6)] → jX9_findTerm_109  (lX9_findTerm_6   z v1 v2 v3 N6) z v1 v2 v3 v5 v6 = some r → W p l e rmX9_findTerm s m args below meth c H locs 0 0 Q (F0 m 109 ls []) := by
        intro v1 v2 v3 v5 v6 H locs ls hI hl h
        unfold jX9_findTerm_109 at h
        refine lv_iload hx hb dX9_findTerm_109 (lv_at hl 5 rfl) ?_
        refine lv_if_eq (tgt := 119) hx hb dX9_findTerm_111 (by decide) (fun c111 => ?_) (fun c111 => ?_)
        · replace h := if_t h c111
          refine lv_iconst (v := -1) hx hb dX9_findTerm_119 (by decide) ?_
          refine lv_istore (lv' := [(4, .int (-1 : Int32)), (0, .ref (ad 0)), (1, .int v1), (2, .int v2), (3, .int v3), (5, .int v5), (6, .int v6)]) hx hb dX9_findTerm_120 hl (by decide) rfl (fun ls hl => ?_)
          obtain ⟨x122, e122⟩ : ∃ y : Int32, y = (v5 + (1 : Int32)) := ⟨_, rfl⟩
          replace h := bnd_at h e122
          refine lv_iinc (v := x122) (lv' := [(5, .int x122), (4, .int (-1 : Int32)), (0, .ref (ad 0)), (1, .int v1), (2, .int v2), (3, .int v3), (6, .int v6)]) hx hb dX9_findTerm_122 hl (k := 5) rfl (by rw [e122]; rfl) (by decide) rfl (fun ls hl => ?_)
          refine lv_goto (tgt := 6) hx hb dX9_findTerm_125 (by decide) ?_
          exact ih6 v1 v2 v3 (-1 : Int32) x122 _ _ _ hI (lv_sub hl [2, 3, 4, 5, 1, 0] rfl) h
        · replace h := if_f h c111
          refine lv_iload hx hb dX9_findTerm_114 (lv_at hl 4 rfl) ?_
          refine lv_goto (tgt := 120) hx hb dX9_findTerm_116 (by decide) ?_
          refine lv_istore (lv' := [(4, .int v5), (0, .ref (ad 0)), (1, .int v1), (2, .int v2), (3, .int v3), (5, .int v5), (6, .int v6)]) hx hb dX9_findTerm_120 hl (by decide) rfl (fun ls hl => ?_)
          obtain ⟨x122, e122⟩ : ∃ y : Int32, y = (v5 + (1 : Int32)) := ⟨_, rfl⟩
          replace h := bnd_at h e122
          refine lv_iinc (v := x122) (lv' := [(5, .int x122), (4, .int v5), (0, .ref (ad 0)), (1, .int v1), (2, .int v2), (3, .int v3), (6, .int v6)]) hx hb dX9_findTerm_122 hl (k := 5) rfl (by rw [e122]; rfl) (by decide) rfl (fun ls hl => ?_)
          refine lv_goto (tgt := 6) hx hb dX9_findTerm_125 (by decide) ?_
          exact ih6 v1 v2 v3 v5 x122 _ _ _ hI (lv_sub hl [2, 3, 4, 5, 1, 0] rfl) h
      have w58 : ∀ (v1 : Int32) (v2 : Int32) (v3 : Int32) (v5 : Int32) (y0 : Int32) (H : Heap) (locs : List Loc) (ls : Array Slot), fI D 31 ad (cfM ad cy cz) z s H locs → lv_has ls 8 [(0, .ref (ad 0)), (1, .int v1), (2, .int v2), (3, .int v3), (5, .int v5)] → jX9_findTerm_58  (lX9_findTerm_6   z v1 v2 v3 N6) z v1 v2 v3 v5 y0 = some r → W p l e rmX9_findTerm s m args below meth c H locs 0 0 Q (F0 m 58 ls [.int y0]) := by
        intro v1 v2 v3 v5 y0 H locs ls hI hl h
        unfold jX9_findTerm_58 at h
        refine lv_istore (lv' := [(6, .int y0), (0, .ref (ad 0)), (1, .int v1), (2, .int v2), (3, .int v3), (5, .int v5)]) hx hb dX9_findTerm_58 hl (by decide) rfl (fun ls hl => ?_)
        refine lv_iconst (v := 0) hx hb dX9_findTerm_60 (by decide) ?_
        refine lv_istore (lv' := [(7, .int (0 : Int32)), (6, .int y0), (0, .ref (ad 0)), (1, .int v1), (2, .int v2), (3, .int v3), (5, .int v5)]) hx hb dX9_findTerm_61 hl (by decide) rfl (fun ls hl => ?_)
        have w63 : ∀ (N63 : Nat) (v1 : Int32) (v2 : Int32) (v3 : Int32) (v5 : Int32) (v6 : Int32) (v7 : Int32) (H : Heap) (locs : List Loc) (ls : Array Slot), fI D 31 ad (cfM ad cy cz) z s H locs → lv_has ls 8 [(0, .ref (ad 0)), (1, .int v1), (2, .int v2), (3, .int v3), (5, .int v5), (6, .int v6), (7, .int v7)] → lX9_findTerm_63  (jX9_findTerm_109  (lX9_findTerm_6   z v1 v2 v3 N6) z v1 v2 v3 v5) z v1 v2 v3 v5 N63 v6 v7 = some r → W p l e rmX9_findTerm s m args below meth c H locs 0 0 Q (F0 m 63 ls []) := by
          intro N63
          induction N63 with
          | zero =>
            intro v1 v2 v3 v5 v6 v7 H locs ls hI hl h
            exact none_no h
          | succ N63 ih63 =>
            intro v1 v2 v3 v5 v6 v7 H locs ls hI hl h
            rw [lX9_findTerm_63.eq_2] at h
            refine lv_iload hx hb dX9_findTerm_63 (lv_at hl 6 rfl) ?_
            refine lv_iload_n hx hb dX9_findTerm_65 rfl (lv_at hl 3 rfl) ?_
            refine lv_icmp_ge (tgt := 109) hx hb dX9_findTerm_66 (by decide) (fun c66 => ?_) (fun c66 => ?_)
            · replace h := if_t h c66
              exact w109 v1 v2 v3 v5 v6 _ _ _ hI (lv_sub hl [0, 1, 2, 3, 4, 5] rfl) h
            · replace h := if_f h c66
              refine lv_iload hx hb dX9_findTerm_69 (lv_at hl 5 rfl) ?_
              refine lv_if_eq (tgt := 109) hx hb dX9_findTerm_71 (by decide) (fun c71 => ?_) (fun c71 => ?_)
              · replace h := if_t h c71
                exact w109 v1 v2 v3 v5 v6 _ _ _ hI (lv_sub hl [0, 1, 2, 3, 4, 5] rfl) h
              · replace h := if_f h c71
                refine lv_aload_n hx hb dX9_findTerm_74 rfl (lv_at hl 0 rfl) ?_
                refine gX9_partOf hC hI tw_857 dX9_findTerm_75 ?_
                refine lv_iconst (v := 3) hx hb dX9_findTerm_78 (by decide) ?_
                refine lv_iload hx hb dX9_findTerm_79 (lv_at hl 4 rfl) ?_
                refine lv_imul hx hb dX9_findTerm_81 ?_
                refine lv_iload hx hb dX9_findTerm_82 (lv_at hl 6 rfl) ?_
                refine lv_iadd hx hb dX9_findTerm_84 ?_
                have g85 := (gd_at h).1
                replace h := (gd_at h).2
                refine r_iald hC hI aM_4 g85 dX9_findTerm_85 ?_
                refine lv_aload_n hx hb dX9_findTerm_86 rfl (lv_at hl 0 rfl) ?_
                refine gX9_asked hC hI tw_881 dX9_findTerm_87 ?_
                refine lv_iload hx hb dX9_findTerm_90 (lv_at hl 6 rfl) ?_
                have g92 := (gd_at h).1
                replace h := (gd_at h).2
                refine r_iald hC hI aM_19 g92 dX9_findTerm_92 ?_
                refine lv_icmp_ne (tgt := 100) hx hb dX9_findTerm_93 (by decide) (fun c93 => ?_) (fun c93 => ?_)
                · replace h := if_f h c93
                  refine lv_iconst (v := 0) hx hb dX9_findTerm_100 (by decide) ?_
                  refine lv_istore (lv' := [(6, .int (0 : Int32)), (0, .ref (ad 0)), (1, .int v1), (2, .int v2), (3, .int v3), (5, .int v5), (7, .int v7)]) hx hb dX9_findTerm_101 hl (by decide) rfl (fun ls hl => ?_)
                  obtain ⟨x103, e103⟩ : ∃ y : Int32, y = (v7 + (1 : Int32)) := ⟨_, rfl⟩
                  replace h := bnd_at h e103
                  refine lv_iinc (v := x103) (lv' := [(7, .int x103), (6, .int (0 : Int32)), (0, .ref (ad 0)), (1, .int v1), (2, .int v2), (3, .int v3), (5, .int v5)]) hx hb dX9_findTerm_103 hl (k := 6) rfl (by rw [e103]; rfl) (by decide) rfl (fun ls hl => ?_)
                  refine lv_goto (tgt := 63) hx hb dX9_findTerm_106 (by decide) ?_
                  exact ih63 v1 v2 v3 v5 (0 : Int32) x103 _ _ _ hI (lv_sub hl [2, 3, 4, 5, 6, 1, 0] rfl) h
                · replace h := if_t h c93
                  refine lv_iconst (v := 1) hx hb dX9_findTerm_96 (by decide) ?_
                  refine lv_goto (tgt := 101) hx hb dX9_findTerm_97 (by decide) ?_
                  refine lv_istore (lv' := [(6, .int (1 : Int32)), (0, .ref (ad 0)), (1, .int v1), (2, .int v2), (3, .int v3), (5, .int v5), (7, .int v7)]) hx hb dX9_findTerm_101 hl (by decide) rfl (fun ls hl => ?_)
                  obtain ⟨x103, e103⟩ : ∃ y : Int32, y = (v7 + (1 : Int32)) := ⟨_, rfl⟩
                  replace h := bnd_at h e103
                  refine lv_iinc (v := x103) (lv' := [(7, .int x103), (6, .int (1 : Int32)), (0, .ref (ad 0)), (1, .int v1), (2, .int v2), (3, .int v3), (5, .int v5)]) hx hb dX9_findTerm_103 hl (k := 6) rfl (by rw [e103]; rfl) (by decide) rfl (fun ls hl => ?_)
                  refine lv_goto (tgt := 63) hx hb dX9_findTerm_106 (by decide) ?_
                  exact ih63 v1 v2 v3 v5 (1 : Int32) x103 _ _ _ hI (lv_sub hl [2, 3, 4, 5, 6, 1, 0] rfl) h
        exact w63 FU v1 v2 v3 v5 y0 (0 : Int32) _ _ _ hI (lv_sub hl [2, 3, 4, 5, 6, 1, 0] rfl) h
      intro v1 v2 v3 v4 v5 H locs ls hI hl h
      rw [lX9_findTerm_6.eq_2] at h
      refine lv_iload hx hb dX9_findTerm_6 (lv_at hl 5 rfl) ?_
      refine lv_aload_n hx hb dX9_findTerm_8 rfl (lv_at hl 0 rfl) ?_
      refine gX9_terms hC hI tw_858 dX9_findTerm_9 ?_
      refine lv_icmp_ge (tgt := 128) hx hb dX9_findTerm_12 (by decide) (fun c12 => ?_) (fun c12 => ?_)
      · replace h := if_t h c12
        refine lv_iload hx hb dX9_findTerm_128 (lv_at hl 4 rfl) ?_
        exact hret (ret_p _ h) dX9_findTerm_130 hI
      · replace h := if_f h c12
        refine lv_iload hx hb dX9_findTerm_15 (lv_at hl 4 rfl) ?_
        refine lv_if_ge (tgt := 128) hx hb dX9_findTerm_17 (by decide) (fun c17 => ?_) (fun c17 => ?_)
        · replace h := if_t h c17
          refine lv_iload hx hb dX9_findTerm_128 (lv_at hl 4 rfl) ?_
          exact hret (ret_p _ h) dX9_findTerm_130 hI
        · replace h := if_f h c17
          refine lv_aload_n hx hb dX9_findTerm_20 rfl (lv_at hl 0 rfl) ?_
          refine gX9_kindOf hC hI tw_854 dX9_findTerm_21 ?_
          refine lv_iload hx hb dX9_findTerm_24 (lv_at hl 5 rfl) ?_
          have g26 := (gd_at h).1
          replace h := (gd_at h).2
          refine r_iald hC hI aM_1 g26 dX9_findTerm_26 ?_
          refine lv_iload_n hx hb dX9_findTerm_27 rfl (lv_at hl 1 rfl) ?_
          refine lv_icmp_ne (tgt := 57) hx hb dX9_findTerm_28 (by decide) (fun c28 => ?_) (fun c28 => ?_)
          · replace h := if_f h c28
            refine lv_iconst (v := 0) hx hb dX9_findTerm_57 (by decide) ?_
            exact w58 v1 v2 v3 v5 (0 : Int32) _ _ _ hI (lv_sub hl [0, 1, 2, 3, 5] rfl) h
          · replace h := if_t h c28
            refine lv_aload_n hx hb dX9_findTerm_31 rfl (lv_at hl 0 rfl) ?_
            refine gX9_shown hC hI tw_855 dX9_findTerm_32 ?_
            refine lv_iload hx hb dX9_findTerm_35 (lv_at hl 5 rfl) ?_
            have g37 := (gd_at h).1
            replace h := (gd_at h).2
            refine r_iald hC hI aM_2 g37 dX9_findTerm_37 ?_
            refine lv_iload_n hx hb dX9_findTerm_38 rfl (lv_at hl 2 rfl) ?_
            refine lv_icmp_ne (tgt := 57) hx hb dX9_findTerm_39 (by decide) (fun c39 => ?_) (fun c39 => ?_)
            · replace h := if_f h c39
              refine lv_iconst (v := 0) hx hb dX9_findTerm_57 (by decide) ?_
              exact w58 v1 v2 v3 v5 (0 : Int32) _ _ _ hI (lv_sub hl [0, 1, 2, 3, 5] rfl) h
            · replace h := if_t h c39
              refine lv_aload_n hx hb dX9_findTerm_42 rfl (lv_at hl 0 rfl) ?_
              refine gX9_partMany hC hI tw_856 dX9_findTerm_43 ?_
              refine lv_iload hx hb dX9_findTerm_46 (lv_at hl 5 rfl) ?_
              have g48 := (gd_at h).1
              replace h := (gd_at h).2
              refine r_iald hC hI aM_3 g48 dX9_findTerm_48 ?_
              refine lv_iload_n hx hb dX9_findTerm_49 rfl (lv_at hl 3 rfl) ?_
              refine lv_icmp_ne (tgt := 57) hx hb dX9_findTerm_50 (by decide) (fun c50 => ?_) (fun c50 => ?_)
              · replace h := if_f h c50
                refine lv_iconst (v := 0) hx hb dX9_findTerm_57 (by decide) ?_
                exact w58 v1 v2 v3 v5 (0 : Int32) _ _ _ hI (lv_sub hl [0, 1, 2, 3, 5] rfl) h
              · replace h := if_t h c50
                refine lv_iconst (v := 1) hx hb dX9_findTerm_53 (by decide) ?_
                refine lv_goto (tgt := 58) hx hb dX9_findTerm_54 (by decide) ?_
                exact w58 v1 v2 v3 v5 (1 : Int32) _ _ _ hI (lv_sub hl [0, 1, 2, 3, 5] rfl) h
  exact w6 FU v1 v2 v3 (-1 : Int32) (0 : Int32) _ _ _ hI (lv_sub hl [2, 3, 4, 5, 1, 0] rfl) h
theorem dX9_made_0 : decode cX9_made 0 = .ok (.aload_n 0, 1) := by decide +kernel
theorem dX9_made_1 : decode cX9_made 1 = .ok (.iload_n 1, 1) := by decide +kernel
theorem dX9_made_2 : decode cX9_made 2 = .ok (.iload_n 2, 1) := by decide +kernel
theorem dX9_made_3 : decode cX9_made 3 = .ok (.iload_n 3, 1) := by decide +kernel
theorem dX9_made_4 : decode cX9_made 4 = .ok (.invokevirtual 111, 3) := by decide +kernel
theorem dX9_made_7 : decode cX9_made 7 = .ok (.istore 4, 2) := by decide +kernel
theorem dX9_made_9 : decode cX9_made 9 = .ok (.iload 4, 2) := by decide +kernel
theorem dX9_made_11 : decode cX9_made 11 = .ok (.ifCond .ge 12, 3) := by decide +kernel
theorem dX9_made_14 : decode cX9_made 14 = .ok (.aload_n 0, 1) := by decide +kernel
theorem dX9_made_15 : decode cX9_made 15 = .ok (.getfield 108, 3) := by decide +kernel
theorem dX9_made_18 : decode cX9_made 18 = .ok (.bipush 120, 2) := by decide +kernel
theorem dX9_made_20 : decode cX9_made 20 = .ok (.if_icmp .ne 6, 3) := by decide +kernel
theorem dX9_made_23 : decode cX9_made 23 = .ok (.iload 4, 2) := by decide +kernel
theorem dX9_made_25 : decode cX9_made 25 = .ok (.ireturn, 1) := by decide +kernel
theorem dX9_made_26 : decode cX9_made 26 = .ok (.aload_n 0, 1) := by decide +kernel
theorem dX9_made_27 : decode cX9_made 27 = .ok (.getfield 7, 3) := by decide +kernel
theorem dX9_made_30 : decode cX9_made 30 = .ok (.aload_n 0, 1) := by decide +kernel
theorem dX9_made_31 : decode cX9_made 31 = .ok (.getfield 108, 3) := by decide +kernel
theorem dX9_made_34 : decode cX9_made 34 = .ok (.iload_n 1, 1) := by decide +kernel
theorem dX9_made_35 : decode cX9_made 35 = .ok (.iastore, 1) := by decide +kernel
theorem dX9_made_36 : decode cX9_made 36 = .ok (.aload_n 0, 1) := by decide +kernel
theorem dX9_made_37 : decode cX9_made 37 = .ok (.getfield 13, 3) := by decide +kernel
theorem dX9_made_40 : decode cX9_made 40 = .ok (.aload_n 0, 1) := by decide +kernel
theorem dX9_made_41 : decode cX9_made 41 = .ok (.getfield 108, 3) := by decide +kernel
theorem dX9_made_44 : decode cX9_made 44 = .ok (.iload_n 2, 1) := by decide +kernel
theorem dX9_made_45 : decode cX9_made 45 = .ok (.iastore, 1) := by decide +kernel
theorem dX9_made_46 : decode cX9_made 46 = .ok (.aload_n 0, 1) := by decide +kernel
theorem dX9_made_47 : decode cX9_made 47 = .ok (.getfield 16, 3) := by decide +kernel
theorem dX9_made_50 : decode cX9_made 50 = .ok (.aload_n 0, 1) := by decide +kernel
theorem dX9_made_51 : decode cX9_made 51 = .ok (.getfield 108, 3) := by decide +kernel
theorem dX9_made_54 : decode cX9_made 54 = .ok (.iload_n 3, 1) := by decide +kernel
theorem dX9_made_55 : decode cX9_made 55 = .ok (.iastore, 1) := by decide +kernel
theorem dX9_made_56 : decode cX9_made 56 = .ok (.iconst 0, 1) := by decide +kernel
theorem dX9_made_57 : decode cX9_made 57 = .ok (.istore 5, 2) := by decide +kernel
theorem dX9_made_59 : decode cX9_made 59 = .ok (.iload 5, 2) := by decide +kernel
theorem dX9_made_61 : decode cX9_made 61 = .ok (.iload_n 3, 1) := by decide +kernel
theorem dX9_made_62 : decode cX9_made 62 = .ok (.if_icmp .ge 30, 3) := by decide +kernel
theorem dX9_made_65 : decode cX9_made 65 = .ok (.aload_n 0, 1) := by decide +kernel
theorem dX9_made_66 : decode cX9_made 66 = .ok (.getfield 19, 3) := by decide +kernel
theorem dX9_made_69 : decode cX9_made 69 = .ok (.iconst 3, 1) := by decide +kernel
theorem dX9_made_70 : decode cX9_made 70 = .ok (.aload_n 0, 1) := by decide +kernel
theorem dX9_made_71 : decode cX9_made 71 = .ok (.getfield 108, 3) := by decide +kernel
theorem dX9_made_74 : decode cX9_made 74 = .ok (.imul, 1) := by decide +kernel
theorem dX9_made_75 : decode cX9_made 75 = .ok (.iload 5, 2) := by decide +kernel
theorem dX9_made_77 : decode cX9_made 77 = .ok (.iadd, 1) := by decide +kernel
theorem dX9_made_78 : decode cX9_made 78 = .ok (.aload_n 0, 1) := by decide +kernel
theorem dX9_made_79 : decode cX9_made 79 = .ok (.getfield 69, 3) := by decide +kernel
theorem dX9_made_82 : decode cX9_made 82 = .ok (.iload 5, 2) := by decide +kernel
theorem dX9_made_84 : decode cX9_made 84 = .ok (.iaload, 1) := by decide +kernel
theorem dX9_made_85 : decode cX9_made 85 = .ok (.iastore, 1) := by decide +kernel
theorem dX9_made_86 : decode cX9_made 86 = .ok (.iinc 5 1, 3) := by decide +kernel
theorem dX9_made_89 : decode cX9_made 89 = .ok (.goto (-30), 3) := by decide +kernel
theorem dX9_made_92 : decode cX9_made 92 = .ok (.aload_n 0, 1) := by decide +kernel
theorem dX9_made_93 : decode cX9_made 93 = .ok (.dup, 1) := by decide +kernel
theorem dX9_made_94 : decode cX9_made 94 = .ok (.getfield 108, 3) := by decide +kernel
theorem dX9_made_97 : decode cX9_made 97 = .ok (.iconst 1, 1) := by decide +kernel
theorem dX9_made_98 : decode cX9_made 98 = .ok (.iadd, 1) := by decide +kernel
theorem dX9_made_99 : decode cX9_made 99 = .ok (.putfield 108, 3) := by decide +kernel
theorem dX9_made_102 : decode cX9_made 102 = .ok (.aload_n 0, 1) := by decide +kernel
theorem dX9_made_103 : decode cX9_made 103 = .ok (.iconst 0, 1) := by decide +kernel
theorem dX9_made_104 : decode cX9_made 104 = .ok (.putfield 115, 3) := by decide +kernel
theorem dX9_made_107 : decode cX9_made 107 = .ok (.aload_n 0, 1) := by decide +kernel
theorem dX9_made_108 : decode cX9_made 108 = .ok (.getfield 108, 3) := by decide +kernel
theorem dX9_made_111 : decode cX9_made 111 = .ok (.iconst 1, 1) := by decide +kernel
theorem dX9_made_112 : decode cX9_made 112 = .ok (.isub, 1) := by decide +kernel
theorem dX9_made_113 : decode cX9_made 113 = .ok (.ireturn, 1) := by decide +kernel
abbrev rmX9_made : Room := { frames := 1, cells := 0, slots := 0, locals := 27 }
theorem ywX9_made : fY yX9_made "EqualCourtModel" cX9_made 6 (some .int) 3 := ⟨tw_991, tp_28, tw_11, tw_992, by decide +kernel⟩
set_option maxHeartbeats 4000000 in
set_option maxRecDepth 100000 in
theorem cX9_made_ok {D : va_G} {ad : Nat → Nat} {cy cz : ClassId} {l : Launch} {z : fS} {v1 : Int32} {v2 : Int32} {v3 : Int32} {r : Int32} {τ : fS} (h : fX9_made z v1 v2 v3 = some (r, τ)) : fMi D 31 ad (cfM ad cy cz) cy cz l yX9_made cX9_made 6 (some .int) rmX9_made [.ref (ad 0), .int v1, .int v2, .int v3] z r τ := by
  refine f_bodyi (by decide) (Nat.le_of_ble_eq_true rfl) (fun p e s m args below meth c Q hC hret ls hl hI => ?_)
  have hx := hC.1
  have hb := hC.2.1
  have hl : lv_has ls 6 [(0, .ref (ad 0)), (1, .int v1), (2, .int v2), (3, .int v3)] := hl
  unfold fX9_made at h
  have w92 : ∀ (z : fS) (H : Heap) (locs : List Loc) (ls : Array Slot), fI D 31 ad (cfM ad cy cz) z s H locs → lv_has ls 6 [(0, .ref (ad 0))] → jX9_made_92   z = some (r, τ) → W p l e rmX9_made s m args below meth c H locs 0 0 Q (F0 m 92 ls []) := by
    intro z H locs ls hI hl h
    unfold jX9_made_92 at h
    refine lv_aload_n hx hb dX9_made_92 rfl (lv_at hl 0 rfl) ?_
    refine lv_dup hx hb dX9_made_93 rfl ?_
    refine gX9_terms hC hI tw_858 dX9_made_94 ?_
    refine lv_iconst (v := 1) hx hb dX9_made_97 (by decide) ?_
    refine lv_iadd hx hb dX9_made_98 ?_
    refine pX9_terms hC hI tw_858 dX9_made_99 (fun z99 H locs e99 hI => ?_)
    replace h := bnd_at h e99
    refine lv_aload_n hx hb dX9_made_102 rfl (lv_at hl 0 rfl) ?_
    refine lv_iconst (v := 0) hx hb dX9_made_103 (by decide) ?_
    refine pX9_isFresh hC hI tw_884 (by decide) dX9_made_104 (fun z104 H locs e104 hI => ?_)
    replace h := bnd_at h e104
    refine lv_aload_n hx hb dX9_made_107 rfl (lv_at hl 0 rfl) ?_
    refine gX9_terms hC hI tw_858 dX9_made_108 ?_
    refine lv_iconst (v := 1) hx hb dX9_made_111 (by decide) ?_
    refine lv_isub hx hb dX9_made_112 ?_
    exact hret h dX9_made_113 hI
  refine lv_aload_n hx hb dX9_made_0 rfl (lv_at hl 0 rfl) ?_
  refine lv_iload_n hx hb dX9_made_1 rfl (lv_at hl 1 rfl) ?_
  refine lv_iload_n hx hb dX9_made_2 rfl (lv_at hl 2 rfl) ?_
  refine lv_iload_n hx hb dX9_made_3 rfl (lv_at hl 3 rfl) ?_
  replace h := bp_at h
  obtain ⟨r4, e4, h⟩ := h
  refine r_calli (rest := []) hC hI oM_0 (C := "EqualCourtModel") rfl ywX9_findTerm tw_993 (cX9_findTerm_ok  e4) ⟨Nat.le_of_ble_eq_true rfl, Nat.le_of_ble_eq_true rfl⟩ ⟨rfl, rfl⟩ rfl hl.1 rfl (Nat.le_of_ble_eq_true rfl) dX9_made_4 (fun H locs hI => ?_)
  refine lv_istore (lv' := [(4, .int r4), (0, .ref (ad 0)), (1, .int v1), (2, .int v2), (3, .int v3)]) hx hb dX9_made_7 hl (by decide) rfl (fun ls hl => ?_)
  refine lv_iload hx hb dX9_made_9 (lv_at hl 0 rfl) ?_
  refine lv_if_ge (tgt := 23) hx hb dX9_made_11 (by decide) (fun c11 => ?_) (fun c11 => ?_)
  · replace h := if_t h c11
    refine lv_iload hx hb dX9_made_23 (lv_at hl 0 rfl) ?_
    exact hret h dX9_made_25 hI
  · replace h := if_f h c11
    refine lv_aload_n hx hb dX9_made_14 rfl (lv_at hl 1 rfl) ?_
    refine gX9_terms hC hI tw_858 dX9_made_15 ?_
    refine lv_bipush (v := 120) hx hb dX9_made_18 (by decide) ?_
    refine lv_icmp_ne (tgt := 26) hx hb dX9_made_20 (by decide) (fun c20 => ?_) (fun c20 => ?_)
    · replace h := if_f h c20
      refine lv_aload_n hx hb dX9_made_26 rfl (lv_at hl 1 rfl) ?_
      refine gX9_kindOf hC hI tw_854 dX9_made_27 ?_
      refine lv_aload_n hx hb dX9_made_30 rfl (lv_at hl 1 rfl) ?_
      refine gX9_terms hC hI tw_858 dX9_made_31 ?_
      refine lv_iload_n hx hb dX9_made_34 rfl (lv_at hl 2 rfl) ?_
      have g35 := (gd_at h).1
      replace h := (gd_at h).2
      refine r_iast hC hI aM_1 g35 dX9_made_35 (fun z35 H locs e35 hI => ?_)
      replace h := bnd_at h e35
      refine lv_aload_n hx hb dX9_made_36 rfl (lv_at hl 1 rfl) ?_
      refine gX9_shown hC hI tw_855 dX9_made_37 ?_
      refine lv_aload_n hx hb dX9_made_40 rfl (lv_at hl 1 rfl) ?_
      refine gX9_terms hC hI tw_858 dX9_made_41 ?_
      refine lv_iload_n hx hb dX9_made_44 rfl (lv_at hl 3 rfl) ?_
      have g45 := (gd_at h).1
      replace h := (gd_at h).2
      refine r_iast hC hI aM_2 g45 dX9_made_45 (fun z45 H locs e45 hI => ?_)
      replace h := bnd_at h e45
      refine lv_aload_n hx hb dX9_made_46 rfl (lv_at hl 1 rfl) ?_
      refine gX9_partMany hC hI tw_856 dX9_made_47 ?_
      refine lv_aload_n hx hb dX9_made_50 rfl (lv_at hl 1 rfl) ?_
      refine gX9_terms hC hI tw_858 dX9_made_51 ?_
      refine lv_iload_n hx hb dX9_made_54 rfl (lv_at hl 4 rfl) ?_
      have g55 := (gd_at h).1
      replace h := (gd_at h).2
      refine r_iast hC hI aM_3 g55 dX9_made_55 (fun z55 H locs e55 hI => ?_)
      replace h := bnd_at h e55
      refine lv_iconst (v := 0) hx hb dX9_made_56 (by decide) ?_
      refine lv_istore (lv' := [(5, .int (0 : Int32)), (4, .int r4), (0, .ref (ad 0)), (1, .int v1), (2, .int v2), (3, .int v3)]) hx hb dX9_made_57 hl (by decide) rfl (fun ls hl => ?_)
      have w59 : ∀ (N59 : Nat) (v3 : Int32) (v5 : Int32) (z : fS) (H : Heap) (locs : List Loc) (ls : Array Slot), fI D 31 ad (cfM ad cy cz) z s H locs → lv_has ls 6 [(0, .ref (ad 0)), (3, .int v3), (5, .int v5)] → lX9_made_59  (jX9_made_92   ) v3 N59 v5 z = some (r, τ) → W p l e rmX9_made s m args below meth c H locs 0 0 Q (F0 m 59 ls []) := by
        intro N59
        induction N59 with
        | zero =>
          intro v3 v5 z H locs ls hI hl h
          exact none_no h
        | succ N59 ih59 =>
          intro v3 v5 z H locs ls hI hl h
          rw [lX9_made_59.eq_2] at h
          refine lv_iload hx hb dX9_made_59 (lv_at hl 2 rfl) ?_
          refine lv_iload_n hx hb dX9_made_61 rfl (lv_at hl 1 rfl) ?_
          refine lv_icmp_ge (tgt := 92) hx hb dX9_made_62 (by decide) (fun c62 => ?_) (fun c62 => ?_)
          · replace h := if_t h c62
            exact w92 z _ _ _ hI (lv_sub hl [0] rfl) h
          · replace h := if_f h c62
            refine lv_aload_n hx hb dX9_made_65 rfl (lv_at hl 0 rfl) ?_
            refine gX9_partOf hC hI tw_857 dX9_made_66 ?_
            refine lv_iconst (v := 3) hx hb dX9_made_69 (by decide) ?_
            refine lv_aload_n hx hb dX9_made_70 rfl (lv_at hl 0 rfl) ?_
            refine gX9_terms hC hI tw_858 dX9_made_71 ?_
            refine lv_imul hx hb dX9_made_74 ?_
            refine lv_iload hx hb dX9_made_75 (lv_at hl 2 rfl) ?_
            refine lv_iadd hx hb dX9_made_77 ?_
            refine lv_aload_n hx hb dX9_made_78 rfl (lv_at hl 0 rfl) ?_
            refine gX9_asked hC hI tw_881 dX9_made_79 ?_
            refine lv_iload hx hb dX9_made_82 (lv_at hl 2 rfl) ?_
            have g84 := (gd_at h).1
            replace h := (gd_at h).2
            refine r_iald hC hI aM_19 g84 dX9_made_84 ?_
            have g85 := (gd_at h).1
            replace h := (gd_at h).2
            refine r_iast hC hI aM_4 g85 dX9_made_85 (fun z85 H locs e85 hI => ?_)
            replace h := bnd_at h e85
            obtain ⟨x86, e86⟩ : ∃ y : Int32, y = (v5 + (1 : Int32)) := ⟨_, rfl⟩
            replace h := bnd_at h e86
            refine lv_iinc (v := x86) (lv' := [(5, .int x86), (0, .ref (ad 0)), (3, .int v3)]) hx hb dX9_made_86 hl (k := 2) rfl (by rw [e86]; rfl) (by decide) rfl (fun ls hl => ?_)
            refine lv_goto (tgt := 59) hx hb dX9_made_89 (by decide) ?_
            exact ih59 v3 x86 z85 _ _ _ hI (lv_sub hl [1, 2, 0] rfl) h
      exact w59 FU v3 (0 : Int32) z55 _ _ _ hI (lv_sub hl [2, 5, 0] rfl) h
    · replace h := if_t h c20
      refine lv_iload hx hb dX9_made_23 (lv_at hl 0 rfl) ?_
      exact hret h dX9_made_25 hI
theorem dX9_answer_0 : decode cX9_answer 0 = .ok (.iload_n 1, 1) := by decide +kernel
theorem dX9_answer_1 : decode cX9_answer 1 = .ok (.ifCond .ge 11, 3) := by decide +kernel
theorem dX9_answer_4 : decode cX9_answer 4 = .ok (.aload_n 0, 1) := by decide +kernel
theorem dX9_answer_5 : decode cX9_answer 5 = .ok (.iconst 3, 1) := by decide +kernel
theorem dX9_answer_6 : decode cX9_answer 6 = .ok (.invokevirtual 119, 3) := by decide +kernel
theorem dX9_answer_9 : decode cX9_answer 9 = .ok (.goto 8, 3) := by decide +kernel
theorem dX9_answer_12 : decode cX9_answer 12 = .ok (.aload_n 0, 1) := by decide +kernel
theorem dX9_answer_13 : decode cX9_answer 13 = .ok (.iload_n 1, 1) := by decide +kernel
theorem dX9_answer_14 : decode cX9_answer 14 = .ok (.invokevirtual 123, 3) := by decide +kernel
theorem dX9_answer_17 : decode cX9_answer 17 = .ok (.ireturn, 1) := by decide +kernel
abbrev rmX9_answer : Room := { frames := 1, cells := 0, slots := 0, locals := 21 }
theorem ywX9_answer : fY yX9_answer "EqualCourtModel" cX9_answer 2 (some .int) 1 := ⟨tw_999, tp_30, tw_11, tw_1000, by decide +kernel⟩
set_option maxHeartbeats 4000000 in
set_option maxRecDepth 100000 in
theorem cX9_answer_ok {D : va_G} {ad : Nat → Nat} {cy cz : ClassId} {l : Launch} {z : fS} {v1 : Int32} {r : Int32} {τ : fS} (h : fX9_answer z v1 = some (r, τ)) : fMi D 31 ad (cfM ad cy cz) cy cz l yX9_answer cX9_answer 2 (some .int) rmX9_answer [.ref (ad 0), .int v1] z r τ := by
  refine f_bodyi (by decide) (Nat.le_of_ble_eq_true rfl) (fun p e s m args below meth c Q hC hret ls hl hI => ?_)
  have hx := hC.1
  have hb := hC.2.1
  have hl : lv_has ls 2 [(0, .ref (ad 0)), (1, .int v1)] := hl
  unfold fX9_answer at h
  refine lv_iload_n hx hb dX9_answer_0 rfl (lv_at hl 1 rfl) ?_
  refine lv_if_ge (tgt := 12) hx hb dX9_answer_1 (by decide) (fun c1 => ?_) (fun c1 => ?_)
  · replace h := if_t h c1
    refine lv_aload_n hx hb dX9_answer_12 rfl (lv_at hl 0 rfl) ?_
    refine lv_iload_n hx hb dX9_answer_13 rfl (lv_at hl 1 rfl) ?_
    replace h := bd_at h
    obtain ⟨r14, z14, e14, h⟩ := h
    refine r_calli (rest := []) hC hI oM_0 (C := "EqualCourtModel") rfl ywX9_done tw_1001 (cX9_done_ok  e14) ⟨Nat.le_of_ble_eq_true rfl, Nat.le_of_ble_eq_true rfl⟩ ⟨rfl, rfl⟩ rfl hl.1 rfl (Nat.le_of_ble_eq_true rfl) dX9_answer_14 (fun H locs hI => ?_)
    exact hret h dX9_answer_17 hI
  · replace h := if_f h c1
    refine lv_aload_n hx hb dX9_answer_4 rfl (lv_at hl 0 rfl) ?_
    refine lv_iconst (v := 3) hx hb dX9_answer_5 (by decide) ?_
    replace h := bd_at h
    obtain ⟨r6, z6, e6, h⟩ := h
    refine r_calli (rest := []) hC hI oM_0 (C := "EqualCourtModel") rfl ywX9_refuse tw_985 (cX9_refuse_ok  e6) ⟨Nat.le_of_ble_eq_true rfl, Nat.le_of_ble_eq_true rfl⟩ ⟨rfl, rfl⟩ rfl hl.1 rfl (Nat.le_of_ble_eq_true rfl) dX9_answer_6 (fun H locs hI => ?_)
    refine lv_goto (tgt := 17) hx hb dX9_answer_9 (by decide) ?_
    exact hret h dX9_answer_17 hI
theorem dX9_name_0 : decode cX9_name 0 = .ok (.iload_n 1, 1) := by decide +kernel
theorem dX9_name_1 : decode cX9_name 1 = .ok (.ifCond .lt 9, 3) := by decide +kernel
theorem dX9_name_4 : decode cX9_name 4 = .ok (.iload_n 1, 1) := by decide +kernel
theorem dX9_name_5 : decode cX9_name 5 = .ok (.bipush 99, 2) := by decide +kernel
theorem dX9_name_7 : decode cX9_name 7 = .ok (.if_icmp .le 11, 3) := by decide +kernel
theorem dX9_name_10 : decode cX9_name 10 = .ok (.aload_n 0, 1) := by decide +kernel
theorem dX9_name_11 : decode cX9_name 11 = .ok (.iconst 1, 1) := by decide +kernel
theorem dX9_name_12 : decode cX9_name 12 = .ok (.invokevirtual 119, 3) := by decide +kernel
theorem dX9_name_15 : decode cX9_name 15 = .ok (.goto 14, 3) := by decide +kernel
theorem dX9_name_18 : decode cX9_name 18 = .ok (.aload_n 0, 1) := by decide +kernel
theorem dX9_name_19 : decode cX9_name 19 = .ok (.aload_n 0, 1) := by decide +kernel
theorem dX9_name_20 : decode cX9_name 20 = .ok (.iconst 0, 1) := by decide +kernel
theorem dX9_name_21 : decode cX9_name 21 = .ok (.iload_n 1, 1) := by decide +kernel
theorem dX9_name_22 : decode cX9_name 22 = .ok (.iconst 0, 1) := by decide +kernel
theorem dX9_name_23 : decode cX9_name 23 = .ok (.invokevirtual 126, 3) := by decide +kernel
theorem dX9_name_26 : decode cX9_name 26 = .ok (.invokevirtual 129, 3) := by decide +kernel
theorem dX9_name_29 : decode cX9_name 29 = .ok (.ireturn, 1) := by decide +kernel
abbrev rmX9_name : Room := { frames := 2, cells := 0, slots := 0, locals := 52 }
theorem ywX9_name : fY yX9_name "EqualCourtModel" cX9_name 2 (some .int) 1 := ⟨tw_982, tw_983, tw_11, tw_984, by decide +kernel⟩
set_option maxHeartbeats 4000000 in
set_option maxRecDepth 100000 in
theorem cX9_name_ok {D : va_G} {ad : Nat → Nat} {cy cz : ClassId} {l : Launch} {z : fS} {v1 : Int32} {r : Int32} {τ : fS} (h : fX9_name z v1 = some (r, τ)) : fMi D 31 ad (cfM ad cy cz) cy cz l yX9_name cX9_name 2 (some .int) rmX9_name [.ref (ad 0), .int v1] z r τ := by
  refine f_bodyi (by decide) (Nat.le_of_ble_eq_true rfl) (fun p e s m args below meth c Q hC hret ls hl hI => ?_)
  have hx := hC.1
  have hb := hC.2.1
  have hl : lv_has ls 2 [(0, .ref (ad 0)), (1, .int v1)] := hl
  unfold fX9_name at h
  refine lv_iload_n hx hb dX9_name_0 rfl (lv_at hl 1 rfl) ?_
  refine lv_if_lt (tgt := 10) hx hb dX9_name_1 (by decide) (fun c1 => ?_) (fun c1 => ?_)
  · replace h := if_t h c1
    refine lv_aload_n hx hb dX9_name_10 rfl (lv_at hl 0 rfl) ?_
    refine lv_iconst (v := 1) hx hb dX9_name_11 (by decide) ?_
    replace h := bd_at h
    obtain ⟨r12, z12, e12, h⟩ := h
    refine r_calli (rest := []) hC hI oM_0 (C := "EqualCourtModel") rfl ywX9_refuse tw_985 (cX9_refuse_ok  e12) ⟨Nat.le_of_ble_eq_true rfl, Nat.le_of_ble_eq_true rfl⟩ ⟨rfl, rfl⟩ rfl hl.1 rfl (Nat.le_of_ble_eq_true rfl) dX9_name_12 (fun H locs hI => ?_)
    refine lv_goto (tgt := 29) hx hb dX9_name_15 (by decide) ?_
    exact hret h dX9_name_29 hI
  · replace h := if_f h c1
    refine lv_iload_n hx hb dX9_name_4 rfl (lv_at hl 1 rfl) ?_
    refine lv_bipush (v := 99) hx hb dX9_name_5 (by decide) ?_
    refine lv_icmp_le (tgt := 18) hx hb dX9_name_7 (by decide) (fun c7 => ?_) (fun c7 => ?_)
    · replace h := if_t h c7
      refine lv_aload_n hx hb dX9_name_18 rfl (lv_at hl 0 rfl) ?_
      refine lv_aload_n hx hb dX9_name_19 rfl (lv_at hl 0 rfl) ?_
      refine lv_iconst (v := 0) hx hb dX9_name_20 (by decide) ?_
      refine lv_iload_n hx hb dX9_name_21 rfl (lv_at hl 1 rfl) ?_
      refine lv_iconst (v := 0) hx hb dX9_name_22 (by decide) ?_
      replace h := bd_at h
      obtain ⟨r23, z23, e23, h⟩ := h
      refine r_calli (rest := [.ref (ad 0)]) hC hI oM_0 (C := "EqualCourtModel") rfl ywX9_made tw_989 (cX9_made_ok  e23) ⟨Nat.le_of_ble_eq_true rfl, Nat.le_of_ble_eq_true rfl⟩ ⟨rfl, rfl⟩ rfl hl.1 rfl (Nat.le_of_ble_eq_true rfl) dX9_name_23 (fun H locs hI => ?_)
      replace h := bd_at h
      obtain ⟨r26, z26, e26, h⟩ := h
      refine r_calli (rest := []) hC hI oM_0 (C := "EqualCourtModel") rfl ywX9_answer tw_997 (cX9_answer_ok  e26) ⟨Nat.le_of_ble_eq_true rfl, Nat.le_of_ble_eq_true rfl⟩ ⟨rfl, rfl⟩ rfl hl.1 rfl (Nat.le_of_ble_eq_true rfl) dX9_name_26 (fun H locs hI => ?_)
      exact hret h dX9_name_29 hI
    · replace h := if_f h c7
      refine lv_aload_n hx hb dX9_name_10 rfl (lv_at hl 0 rfl) ?_
      refine lv_iconst (v := 1) hx hb dX9_name_11 (by decide) ?_
      replace h := bd_at h
      obtain ⟨r12, z12, e12, h⟩ := h
      refine r_calli (rest := []) hC hI oM_0 (C := "EqualCourtModel") rfl ywX9_refuse tw_985 (cX9_refuse_ok  e12) ⟨Nat.le_of_ble_eq_true rfl, Nat.le_of_ble_eq_true rfl⟩ ⟨rfl, rfl⟩ rfl hl.1 rfl (Nat.le_of_ble_eq_true rfl) dX9_name_12 (fun H locs hI => ?_)
      refine lv_goto (tgt := 29) hx hb dX9_name_15 (by decide) ?_
      exact hret h dX9_name_29 hI
theorem dX9_number_0 : decode cX9_number 0 = .ok (.aload_n 0, 1) := by decide +kernel
theorem dX9_number_1 : decode cX9_number 1 = .ok (.aload_n 0, 1) := by decide +kernel
theorem dX9_number_2 : decode cX9_number 2 = .ok (.iconst 1, 1) := by decide +kernel
theorem dX9_number_3 : decode cX9_number 3 = .ok (.iload_n 1, 1) := by decide +kernel
theorem dX9_number_4 : decode cX9_number 4 = .ok (.iconst 0, 1) := by decide +kernel
theorem dX9_number_5 : decode cX9_number 5 = .ok (.invokevirtual 126, 3) := by decide +kernel
theorem dX9_number_8 : decode cX9_number 8 = .ok (.invokevirtual 129, 3) := by decide +kernel
theorem dX9_number_11 : decode cX9_number 11 = .ok (.ireturn, 1) := by decide +kernel
abbrev rmX9_number : Room := { frames := 2, cells := 0, slots := 0, locals := 52 }
theorem ywX9_number : fY yX9_number "EqualCourtModel" cX9_number 2 (some .int) 1 := ⟨tw_1006, tw_1007, tw_11, tw_1008, by decide +kernel⟩
set_option maxHeartbeats 4000000 in
set_option maxRecDepth 100000 in
theorem cX9_number_ok {D : va_G} {ad : Nat → Nat} {cy cz : ClassId} {l : Launch} {z : fS} {v1 : Int32} {r : Int32} {τ : fS} (h : fX9_number z v1 = some (r, τ)) : fMi D 31 ad (cfM ad cy cz) cy cz l yX9_number cX9_number 2 (some .int) rmX9_number [.ref (ad 0), .int v1] z r τ := by
  refine f_bodyi (by decide) (Nat.le_of_ble_eq_true rfl) (fun p e s m args below meth c Q hC hret ls hl hI => ?_)
  have hx := hC.1
  have hb := hC.2.1
  have hl : lv_has ls 2 [(0, .ref (ad 0)), (1, .int v1)] := hl
  unfold fX9_number at h
  refine lv_aload_n hx hb dX9_number_0 rfl (lv_at hl 0 rfl) ?_
  refine lv_aload_n hx hb dX9_number_1 rfl (lv_at hl 0 rfl) ?_
  refine lv_iconst (v := 1) hx hb dX9_number_2 (by decide) ?_
  refine lv_iload_n hx hb dX9_number_3 rfl (lv_at hl 1 rfl) ?_
  refine lv_iconst (v := 0) hx hb dX9_number_4 (by decide) ?_
  replace h := bd_at h
  obtain ⟨r5, z5, e5, h⟩ := h
  refine r_calli (rest := [.ref (ad 0)]) hC hI oM_0 (C := "EqualCourtModel") rfl ywX9_made tw_989 (cX9_made_ok  e5) ⟨Nat.le_of_ble_eq_true rfl, Nat.le_of_ble_eq_true rfl⟩ ⟨rfl, rfl⟩ rfl hl.1 rfl (Nat.le_of_ble_eq_true rfl) dX9_number_5 (fun H locs hI => ?_)
  replace h := bd_at h
  obtain ⟨r8, z8, e8, h⟩ := h
  refine r_calli (rest := []) hC hI oM_0 (C := "EqualCourtModel") rfl ywX9_answer tw_997 (cX9_answer_ok  e8) ⟨Nat.le_of_ble_eq_true rfl, Nat.le_of_ble_eq_true rfl⟩ ⟨rfl, rfl⟩ rfl hl.1 rfl (Nat.le_of_ble_eq_true rfl) dX9_number_8 (fun H locs hI => ?_)
  exact hret h dX9_number_11 hI
theorem dX9_built_0 : decode cX9_built 0 = .ok (.iload_n 1, 1) := by decide +kernel
theorem dX9_built_1 : decode cX9_built 1 = .ok (.ifCond .lt 9, 3) := by decide +kernel
theorem dX9_built_4 : decode cX9_built 4 = .ok (.iload_n 1, 1) := by decide +kernel
theorem dX9_built_5 : decode cX9_built 5 = .ok (.bipush 19, 2) := by decide +kernel
theorem dX9_built_7 : decode cX9_built 7 = .ok (.if_icmp .le 9, 3) := by decide +kernel
theorem dX9_built_10 : decode cX9_built 10 = .ok (.aload_n 0, 1) := by decide +kernel
theorem dX9_built_11 : decode cX9_built 11 = .ok (.iconst 1, 1) := by decide +kernel
theorem dX9_built_12 : decode cX9_built 12 = .ok (.invokevirtual 119, 3) := by decide +kernel
theorem dX9_built_15 : decode cX9_built 15 = .ok (.ireturn, 1) := by decide +kernel
theorem dX9_built_16 : decode cX9_built 16 = .ok (.iload_n 2, 1) := by decide +kernel
theorem dX9_built_17 : decode cX9_built 17 = .ok (.ifCond .ge 10, 3) := by decide +kernel
theorem dX9_built_20 : decode cX9_built 20 = .ok (.aload_n 0, 1) := by decide +kernel
theorem dX9_built_21 : decode cX9_built 21 = .ok (.bipush 8, 2) := by decide +kernel
theorem dX9_built_23 : decode cX9_built 23 = .ok (.invokevirtual 119, 3) := by decide +kernel
theorem dX9_built_26 : decode cX9_built 26 = .ok (.ireturn, 1) := by decide +kernel
theorem dX9_built_27 : decode cX9_built 27 = .ok (.iload_n 2, 1) := by decide +kernel
theorem dX9_built_28 : decode cX9_built 28 = .ok (.iconst 1, 1) := by decide +kernel
theorem dX9_built_29 : decode cX9_built 29 = .ok (.if_icmp .lt 44, 3) := by decide +kernel
theorem dX9_built_32 : decode cX9_built 32 = .ok (.iload_n 2, 1) := by decide +kernel
theorem dX9_built_33 : decode cX9_built 33 = .ok (.iconst 3, 1) := by decide +kernel
theorem dX9_built_34 : decode cX9_built 34 = .ok (.if_icmp .gt 39, 3) := by decide +kernel
theorem dX9_built_37 : decode cX9_built 37 = .ok (.aload_n 0, 1) := by decide +kernel
theorem dX9_built_38 : decode cX9_built 38 = .ok (.iload_n 3, 1) := by decide +kernel
theorem dX9_built_39 : decode cX9_built 39 = .ok (.invokevirtual 132, 3) := by decide +kernel
theorem dX9_built_42 : decode cX9_built 42 = .ok (.ifCond .eq 31, 3) := by decide +kernel
theorem dX9_built_45 : decode cX9_built 45 = .ok (.iload_n 2, 1) := by decide +kernel
theorem dX9_built_46 : decode cX9_built 46 = .ok (.iconst 1, 1) := by decide +kernel
theorem dX9_built_47 : decode cX9_built 47 = .ok (.if_icmp .le 12, 3) := by decide +kernel
theorem dX9_built_50 : decode cX9_built 50 = .ok (.aload_n 0, 1) := by decide +kernel
theorem dX9_built_51 : decode cX9_built 51 = .ok (.iload 4, 2) := by decide +kernel
theorem dX9_built_53 : decode cX9_built 53 = .ok (.invokevirtual 132, 3) := by decide +kernel
theorem dX9_built_56 : decode cX9_built 56 = .ok (.ifCond .eq 17, 3) := by decide +kernel
theorem dX9_built_59 : decode cX9_built 59 = .ok (.iload_n 2, 1) := by decide +kernel
theorem dX9_built_60 : decode cX9_built 60 = .ok (.iconst 2, 1) := by decide +kernel
theorem dX9_built_61 : decode cX9_built 61 = .ok (.if_icmp .le 18, 3) := by decide +kernel
theorem dX9_built_64 : decode cX9_built 64 = .ok (.aload_n 0, 1) := by decide +kernel
theorem dX9_built_65 : decode cX9_built 65 = .ok (.iload 5, 2) := by decide +kernel
theorem dX9_built_67 : decode cX9_built 67 = .ok (.invokevirtual 132, 3) := by decide +kernel
theorem dX9_built_70 : decode cX9_built 70 = .ok (.ifCond .ne 9, 3) := by decide +kernel
theorem dX9_built_73 : decode cX9_built 73 = .ok (.aload_n 0, 1) := by decide +kernel
theorem dX9_built_74 : decode cX9_built 74 = .ok (.iconst 1, 1) := by decide +kernel
theorem dX9_built_75 : decode cX9_built 75 = .ok (.invokevirtual 119, 3) := by decide +kernel
theorem dX9_built_78 : decode cX9_built 78 = .ok (.ireturn, 1) := by decide +kernel
theorem dX9_built_79 : decode cX9_built 79 = .ok (.aload_n 0, 1) := by decide +kernel
theorem dX9_built_80 : decode cX9_built 80 = .ok (.getfield 69, 3) := by decide +kernel
theorem dX9_built_83 : decode cX9_built 83 = .ok (.iconst 0, 1) := by decide +kernel
theorem dX9_built_84 : decode cX9_built 84 = .ok (.iload_n 3, 1) := by decide +kernel
theorem dX9_built_85 : decode cX9_built 85 = .ok (.iastore, 1) := by decide +kernel
theorem dX9_built_86 : decode cX9_built 86 = .ok (.aload_n 0, 1) := by decide +kernel
theorem dX9_built_87 : decode cX9_built 87 = .ok (.getfield 69, 3) := by decide +kernel
theorem dX9_built_90 : decode cX9_built 90 = .ok (.iconst 1, 1) := by decide +kernel
theorem dX9_built_91 : decode cX9_built 91 = .ok (.iload 4, 2) := by decide +kernel
theorem dX9_built_93 : decode cX9_built 93 = .ok (.iastore, 1) := by decide +kernel
theorem dX9_built_94 : decode cX9_built 94 = .ok (.aload_n 0, 1) := by decide +kernel
theorem dX9_built_95 : decode cX9_built 95 = .ok (.getfield 69, 3) := by decide +kernel
theorem dX9_built_98 : decode cX9_built 98 = .ok (.iconst 2, 1) := by decide +kernel
theorem dX9_built_99 : decode cX9_built 99 = .ok (.iload 5, 2) := by decide +kernel
theorem dX9_built_101 : decode cX9_built 101 = .ok (.iastore, 1) := by decide +kernel
theorem dX9_built_102 : decode cX9_built 102 = .ok (.aload_n 0, 1) := by decide +kernel
theorem dX9_built_103 : decode cX9_built 103 = .ok (.aload_n 0, 1) := by decide +kernel
theorem dX9_built_104 : decode cX9_built 104 = .ok (.iconst 2, 1) := by decide +kernel
theorem dX9_built_105 : decode cX9_built 105 = .ok (.iload_n 1, 1) := by decide +kernel
theorem dX9_built_106 : decode cX9_built 106 = .ok (.iload_n 2, 1) := by decide +kernel
theorem dX9_built_107 : decode cX9_built 107 = .ok (.invokevirtual 126, 3) := by decide +kernel
theorem dX9_built_110 : decode cX9_built 110 = .ok (.invokevirtual 129, 3) := by decide +kernel
theorem dX9_built_113 : decode cX9_built 113 = .ok (.ireturn, 1) := by decide +kernel
abbrev rmX9_built : Room := { frames := 2, cells := 0, slots := 0, locals := 52 }
theorem ywX9_built : fY yX9_built "EqualCourtModel" cX9_built 6 (some .int) 5 := ⟨tw_1010, tw_1011, tw_11, tw_1012, by decide +kernel⟩
set_option maxHeartbeats 4000000 in
set_option maxRecDepth 100000 in
theorem cX9_built_ok {D : va_G} {ad : Nat → Nat} {cy cz : ClassId} {l : Launch} {z : fS} {v1 : Int32} {v2 : Int32} {v3 : Int32} {v4 : Int32} {v5 : Int32} {r : Int32} {τ : fS} (h : fX9_built z v1 v2 v3 v4 v5 = some (r, τ)) : fMi D 31 ad (cfM ad cy cz) cy cz l yX9_built cX9_built 6 (some .int) rmX9_built [.ref (ad 0), .int v1, .int v2, .int v3, .int v4, .int v5] z r τ := by
  refine f_bodyi (by decide) (Nat.le_of_ble_eq_true rfl) (fun p e s m args below meth c Q hC hret ls hl hI => ?_)
  have hx := hC.1
  have hb := hC.2.1
  have hl : lv_has ls 6 [(0, .ref (ad 0)), (1, .int v1), (2, .int v2), (3, .int v3), (4, .int v4), (5, .int v5)] := hl
  unfold fX9_built at h
  have w79 : ∀ (v1 : Int32) (v2 : Int32) (v3 : Int32) (v4 : Int32) (v5 : Int32) (z : fS) (H : Heap) (locs : List Loc) (ls : Array Slot), fI D 31 ad (cfM ad cy cz) z s H locs → lv_has ls 6 [(0, .ref (ad 0)), (1, .int v1), (2, .int v2), (3, .int v3), (4, .int v4), (5, .int v5)] → jX9_built_79   v1 v2 v3 v4 v5 z = some (r, τ) → W p l e rmX9_built s m args below meth c H locs 0 0 Q (F0 m 79 ls []) := by
    intro v1 v2 v3 v4 v5 z H locs ls hI hl h
    unfold jX9_built_79 at h
    refine lv_aload_n hx hb dX9_built_79 rfl (lv_at hl 0 rfl) ?_
    refine gX9_asked hC hI tw_881 dX9_built_80 ?_
    refine lv_iconst (v := 0) hx hb dX9_built_83 (by decide) ?_
    refine lv_iload_n hx hb dX9_built_84 rfl (lv_at hl 3 rfl) ?_
    have g85 := (gd_at h).1
    replace h := (gd_at h).2
    refine r_iast hC hI aM_19 g85 dX9_built_85 (fun z85 H locs e85 hI => ?_)
    replace h := bnd_at h e85
    refine lv_aload_n hx hb dX9_built_86 rfl (lv_at hl 0 rfl) ?_
    refine gX9_asked hC hI tw_881 dX9_built_87 ?_
    refine lv_iconst (v := 1) hx hb dX9_built_90 (by decide) ?_
    refine lv_iload hx hb dX9_built_91 (lv_at hl 4 rfl) ?_
    have g93 := (gd_at h).1
    replace h := (gd_at h).2
    refine r_iast hC hI aM_19 g93 dX9_built_93 (fun z93 H locs e93 hI => ?_)
    replace h := bnd_at h e93
    refine lv_aload_n hx hb dX9_built_94 rfl (lv_at hl 0 rfl) ?_
    refine gX9_asked hC hI tw_881 dX9_built_95 ?_
    refine lv_iconst (v := 2) hx hb dX9_built_98 (by decide) ?_
    refine lv_iload hx hb dX9_built_99 (lv_at hl 5 rfl) ?_
    have g101 := (gd_at h).1
    replace h := (gd_at h).2
    refine r_iast hC hI aM_19 g101 dX9_built_101 (fun z101 H locs e101 hI => ?_)
    replace h := bnd_at h e101
    refine lv_aload_n hx hb dX9_built_102 rfl (lv_at hl 0 rfl) ?_
    refine lv_aload_n hx hb dX9_built_103 rfl (lv_at hl 0 rfl) ?_
    refine lv_iconst (v := 2) hx hb dX9_built_104 (by decide) ?_
    refine lv_iload_n hx hb dX9_built_105 rfl (lv_at hl 1 rfl) ?_
    refine lv_iload_n hx hb dX9_built_106 rfl (lv_at hl 2 rfl) ?_
    replace h := bd_at h
    obtain ⟨r107, z107, e107, h⟩ := h
    refine r_calli (rest := [.ref (ad 0)]) hC hI oM_0 (C := "EqualCourtModel") rfl ywX9_made tw_989 (cX9_made_ok  e107) ⟨Nat.le_of_ble_eq_true rfl, Nat.le_of_ble_eq_true rfl⟩ ⟨rfl, rfl⟩ rfl hl.1 rfl (Nat.le_of_ble_eq_true rfl) dX9_built_107 (fun H locs hI => ?_)
    replace h := bd_at h
    obtain ⟨r110, z110, e110, h⟩ := h
    refine r_calli (rest := []) hC hI oM_0 (C := "EqualCourtModel") rfl ywX9_answer tw_997 (cX9_answer_ok  e110) ⟨Nat.le_of_ble_eq_true rfl, Nat.le_of_ble_eq_true rfl⟩ ⟨rfl, rfl⟩ rfl hl.1 rfl (Nat.le_of_ble_eq_true rfl) dX9_built_110 (fun H locs hI => ?_)
    exact hret h dX9_built_113 hI
  have w59 : ∀ (v1 : Int32) (v2 : Int32) (v3 : Int32) (v4 : Int32) (v5 : Int32) (z : fS) (H : Heap) (locs : List Loc) (ls : Array Slot), fI D 31 ad (cfM ad cy cz) z s H locs → lv_has ls 6 [(0, .ref (ad 0)), (1, .int v1), (2, .int v2), (3, .int v3), (4, .int v4), (5, .int v5)] → jX9_built_59   v1 v2 v3 v4 v5 z = some (r, τ) → W p l e rmX9_built s m args below meth c H locs 0 0 Q (F0 m 59 ls []) := by
    intro v1 v2 v3 v4 v5 z H locs ls hI hl h
    unfold jX9_built_59 at h
    refine lv_iload_n hx hb dX9_built_59 rfl (lv_at hl 2 rfl) ?_
    refine lv_iconst (v := 2) hx hb dX9_built_60 (by decide) ?_
    refine lv_icmp_le (tgt := 79) hx hb dX9_built_61 (by decide) (fun c61 => ?_) (fun c61 => ?_)
    · replace h := if_t h c61
      exact w79 v1 v2 v3 v4 v5 z _ _ _ hI hl h
    · replace h := if_f h c61
      refine lv_aload_n hx hb dX9_built_64 rfl (lv_at hl 0 rfl) ?_
      refine lv_iload hx hb dX9_built_65 (lv_at hl 5 rfl) ?_
      replace h := bp_at h
      obtain ⟨r67, e67, h⟩ := h
      refine r_calli (rest := []) hC hI oM_0 (C := "EqualCourtModel") rfl ywX9_isTerm tw_1013 (cX9_isTerm_ok  e67) ⟨Nat.le_of_ble_eq_true rfl, Nat.le_of_ble_eq_true rfl⟩ ⟨rfl, rfl⟩ rfl hl.1 rfl (Nat.le_of_ble_eq_true rfl) dX9_built_67 (fun H locs hI => ?_)
      refine lv_if_ne (tgt := 79) hx hb dX9_built_70 (by decide) (fun c70 => ?_) (fun c70 => ?_)
      · replace h := if_f h c70
        exact w79 v1 v2 v3 v4 v5 z _ _ _ hI hl h
      · replace h := if_t h c70
        refine lv_aload_n hx hb dX9_built_73 rfl (lv_at hl 0 rfl) ?_
        refine lv_iconst (v := 1) hx hb dX9_built_74 (by decide) ?_
        replace h := bd_at h
        obtain ⟨r75, z75, e75, h⟩ := h
        refine r_calli (rest := []) hC hI oM_0 (C := "EqualCourtModel") rfl ywX9_refuse tw_985 (cX9_refuse_ok  e75) ⟨Nat.le_of_ble_eq_true rfl, Nat.le_of_ble_eq_true rfl⟩ ⟨rfl, rfl⟩ rfl hl.1 rfl (Nat.le_of_ble_eq_true rfl) dX9_built_75 (fun H locs hI => ?_)
        exact hret h dX9_built_78 hI
  refine lv_iload_n hx hb dX9_built_0 rfl (lv_at hl 1 rfl) ?_
  refine lv_if_lt (tgt := 10) hx hb dX9_built_1 (by decide) (fun c1 => ?_) (fun c1 => ?_)
  · replace h := if_t h c1
    refine lv_aload_n hx hb dX9_built_10 rfl (lv_at hl 0 rfl) ?_
    refine lv_iconst (v := 1) hx hb dX9_built_11 (by decide) ?_
    replace h := bd_at h
    obtain ⟨r12, z12, e12, h⟩ := h
    refine r_calli (rest := []) hC hI oM_0 (C := "EqualCourtModel") rfl ywX9_refuse tw_985 (cX9_refuse_ok  e12) ⟨Nat.le_of_ble_eq_true rfl, Nat.le_of_ble_eq_true rfl⟩ ⟨rfl, rfl⟩ rfl hl.1 rfl (Nat.le_of_ble_eq_true rfl) dX9_built_12 (fun H locs hI => ?_)
    exact hret h dX9_built_15 hI
  · replace h := if_f h c1
    refine lv_iload_n hx hb dX9_built_4 rfl (lv_at hl 1 rfl) ?_
    refine lv_bipush (v := 19) hx hb dX9_built_5 (by decide) ?_
    refine lv_icmp_le (tgt := 16) hx hb dX9_built_7 (by decide) (fun c7 => ?_) (fun c7 => ?_)
    · replace h := if_t h c7
      refine lv_iload_n hx hb dX9_built_16 rfl (lv_at hl 2 rfl) ?_
      refine lv_if_ge (tgt := 27) hx hb dX9_built_17 (by decide) (fun c17 => ?_) (fun c17 => ?_)
      · replace h := if_t h c17
        refine lv_iload_n hx hb dX9_built_27 rfl (lv_at hl 2 rfl) ?_
        refine lv_iconst (v := 1) hx hb dX9_built_28 (by decide) ?_
        refine lv_icmp_lt (tgt := 73) hx hb dX9_built_29 (by decide) (fun c29 => ?_) (fun c29 => ?_)
        · replace h := if_t h c29
          refine lv_aload_n hx hb dX9_built_73 rfl (lv_at hl 0 rfl) ?_
          refine lv_iconst (v := 1) hx hb dX9_built_74 (by decide) ?_
          replace h := bd_at h
          obtain ⟨r75, z75, e75, h⟩ := h
          refine r_calli (rest := []) hC hI oM_0 (C := "EqualCourtModel") rfl ywX9_refuse tw_985 (cX9_refuse_ok  e75) ⟨Nat.le_of_ble_eq_true rfl, Nat.le_of_ble_eq_true rfl⟩ ⟨rfl, rfl⟩ rfl hl.1 rfl (Nat.le_of_ble_eq_true rfl) dX9_built_75 (fun H locs hI => ?_)
          exact hret h dX9_built_78 hI
        · replace h := if_f h c29
          refine lv_iload_n hx hb dX9_built_32 rfl (lv_at hl 2 rfl) ?_
          refine lv_iconst (v := 3) hx hb dX9_built_33 (by decide) ?_
          refine lv_icmp_gt (tgt := 73) hx hb dX9_built_34 (by decide) (fun c34 => ?_) (fun c34 => ?_)
          · replace h := if_t h c34
            refine lv_aload_n hx hb dX9_built_73 rfl (lv_at hl 0 rfl) ?_
            refine lv_iconst (v := 1) hx hb dX9_built_74 (by decide) ?_
            replace h := bd_at h
            obtain ⟨r75, z75, e75, h⟩ := h
            refine r_calli (rest := []) hC hI oM_0 (C := "EqualCourtModel") rfl ywX9_refuse tw_985 (cX9_refuse_ok  e75) ⟨Nat.le_of_ble_eq_true rfl, Nat.le_of_ble_eq_true rfl⟩ ⟨rfl, rfl⟩ rfl hl.1 rfl (Nat.le_of_ble_eq_true rfl) dX9_built_75 (fun H locs hI => ?_)
            exact hret h dX9_built_78 hI
          · replace h := if_f h c34
            refine lv_aload_n hx hb dX9_built_37 rfl (lv_at hl 0 rfl) ?_
            refine lv_iload_n hx hb dX9_built_38 rfl (lv_at hl 3 rfl) ?_
            replace h := bp_at h
            obtain ⟨r39, e39, h⟩ := h
            refine r_calli (rest := []) hC hI oM_0 (C := "EqualCourtModel") rfl ywX9_isTerm tw_1013 (cX9_isTerm_ok  e39) ⟨Nat.le_of_ble_eq_true rfl, Nat.le_of_ble_eq_true rfl⟩ ⟨rfl, rfl⟩ rfl hl.1 rfl (Nat.le_of_ble_eq_true rfl) dX9_built_39 (fun H locs hI => ?_)
            refine lv_if_eq (tgt := 73) hx hb dX9_built_42 (by decide) (fun c42 => ?_) (fun c42 => ?_)
            · replace h := if_t h c42
              refine lv_aload_n hx hb dX9_built_73 rfl (lv_at hl 0 rfl) ?_
              refine lv_iconst (v := 1) hx hb dX9_built_74 (by decide) ?_
              replace h := bd_at h
              obtain ⟨r75, z75, e75, h⟩ := h
              refine r_calli (rest := []) hC hI oM_0 (C := "EqualCourtModel") rfl ywX9_refuse tw_985 (cX9_refuse_ok  e75) ⟨Nat.le_of_ble_eq_true rfl, Nat.le_of_ble_eq_true rfl⟩ ⟨rfl, rfl⟩ rfl hl.1 rfl (Nat.le_of_ble_eq_true rfl) dX9_built_75 (fun H locs hI => ?_)
              exact hret h dX9_built_78 hI
            · replace h := if_f h c42
              refine lv_iload_n hx hb dX9_built_45 rfl (lv_at hl 2 rfl) ?_
              refine lv_iconst (v := 1) hx hb dX9_built_46 (by decide) ?_
              refine lv_icmp_le (tgt := 59) hx hb dX9_built_47 (by decide) (fun c47 => ?_) (fun c47 => ?_)
              · replace h := if_t h c47
                exact w59 v1 v2 v3 v4 v5 z _ _ _ hI hl h
              · replace h := if_f h c47
                refine lv_aload_n hx hb dX9_built_50 rfl (lv_at hl 0 rfl) ?_
                refine lv_iload hx hb dX9_built_51 (lv_at hl 4 rfl) ?_
                replace h := bp_at h
                obtain ⟨r53, e53, h⟩ := h
                refine r_calli (rest := []) hC hI oM_0 (C := "EqualCourtModel") rfl ywX9_isTerm tw_1013 (cX9_isTerm_ok  e53) ⟨Nat.le_of_ble_eq_true rfl, Nat.le_of_ble_eq_true rfl⟩ ⟨rfl, rfl⟩ rfl hl.1 rfl (Nat.le_of_ble_eq_true rfl) dX9_built_53 (fun H locs hI => ?_)
                refine lv_if_eq (tgt := 73) hx hb dX9_built_56 (by decide) (fun c56 => ?_) (fun c56 => ?_)
                · replace h := if_t h c56
                  refine lv_aload_n hx hb dX9_built_73 rfl (lv_at hl 0 rfl) ?_
                  refine lv_iconst (v := 1) hx hb dX9_built_74 (by decide) ?_
                  replace h := bd_at h
                  obtain ⟨r75, z75, e75, h⟩ := h
                  refine r_calli (rest := []) hC hI oM_0 (C := "EqualCourtModel") rfl ywX9_refuse tw_985 (cX9_refuse_ok  e75) ⟨Nat.le_of_ble_eq_true rfl, Nat.le_of_ble_eq_true rfl⟩ ⟨rfl, rfl⟩ rfl hl.1 rfl (Nat.le_of_ble_eq_true rfl) dX9_built_75 (fun H locs hI => ?_)
                  exact hret h dX9_built_78 hI
                · replace h := if_f h c56
                  exact w59 v1 v2 v3 v4 v5 z _ _ _ hI hl h
      · replace h := if_f h c17
        refine lv_aload_n hx hb dX9_built_20 rfl (lv_at hl 0 rfl) ?_
        refine lv_bipush (v := 8) hx hb dX9_built_21 (by decide) ?_
        replace h := bd_at h
        obtain ⟨r23, z23, e23, h⟩ := h
        refine r_calli (rest := []) hC hI oM_0 (C := "EqualCourtModel") rfl ywX9_refuse tw_985 (cX9_refuse_ok  e23) ⟨Nat.le_of_ble_eq_true rfl, Nat.le_of_ble_eq_true rfl⟩ ⟨rfl, rfl⟩ rfl hl.1 rfl (Nat.le_of_ble_eq_true rfl) dX9_built_23 (fun H locs hI => ?_)
        exact hret h dX9_built_26 hI
    · replace h := if_f h c7
      refine lv_aload_n hx hb dX9_built_10 rfl (lv_at hl 0 rfl) ?_
      refine lv_iconst (v := 1) hx hb dX9_built_11 (by decide) ?_
      replace h := bd_at h
      obtain ⟨r12, z12, e12, h⟩ := h
      refine r_calli (rest := []) hC hI oM_0 (C := "EqualCourtModel") rfl ywX9_refuse tw_985 (cX9_refuse_ok  e12) ⟨Nat.le_of_ble_eq_true rfl, Nat.le_of_ble_eq_true rfl⟩ ⟨rfl, rfl⟩ rfl hl.1 rfl (Nat.le_of_ble_eq_true rfl) dX9_built_12 (fun H locs hI => ?_)
      exact hret h dX9_built_15 hI
theorem dX9_row_0 : decode cX9_row 0 = .ok (.aload_n 0, 1) := by decide +kernel
theorem dX9_row_1 : decode cX9_row 1 = .ok (.iload_n 1, 1) := by decide +kernel
theorem dX9_row_2 : decode cX9_row 2 = .ok (.invokevirtual 132, 3) := by decide +kernel
theorem dX9_row_5 : decode cX9_row 5 = .ok (.ifCond .eq 11, 3) := by decide +kernel
theorem dX9_row_8 : decode cX9_row 8 = .ok (.aload_n 0, 1) := by decide +kernel
theorem dX9_row_9 : decode cX9_row 9 = .ok (.iload_n 2, 1) := by decide +kernel
theorem dX9_row_10 : decode cX9_row 10 = .ok (.invokevirtual 132, 3) := by decide +kernel
theorem dX9_row_13 : decode cX9_row 13 = .ok (.ifCond .ne 9, 3) := by decide +kernel
theorem dX9_row_16 : decode cX9_row 16 = .ok (.aload_n 0, 1) := by decide +kernel
theorem dX9_row_17 : decode cX9_row 17 = .ok (.iconst 1, 1) := by decide +kernel
theorem dX9_row_18 : decode cX9_row 18 = .ok (.invokevirtual 119, 3) := by decide +kernel
theorem dX9_row_21 : decode cX9_row 21 = .ok (.ireturn, 1) := by decide +kernel
theorem dX9_row_22 : decode cX9_row 22 = .ok (.aload_n 0, 1) := by decide +kernel
theorem dX9_row_23 : decode cX9_row 23 = .ok (.getfield 69, 3) := by decide +kernel
theorem dX9_row_26 : decode cX9_row 26 = .ok (.iconst 0, 1) := by decide +kernel
theorem dX9_row_27 : decode cX9_row 27 = .ok (.iload_n 1, 1) := by decide +kernel
theorem dX9_row_28 : decode cX9_row 28 = .ok (.iastore, 1) := by decide +kernel
theorem dX9_row_29 : decode cX9_row 29 = .ok (.aload_n 0, 1) := by decide +kernel
theorem dX9_row_30 : decode cX9_row 30 = .ok (.getfield 69, 3) := by decide +kernel
theorem dX9_row_33 : decode cX9_row 33 = .ok (.iconst 1, 1) := by decide +kernel
theorem dX9_row_34 : decode cX9_row 34 = .ok (.iload_n 2, 1) := by decide +kernel
theorem dX9_row_35 : decode cX9_row 35 = .ok (.iastore, 1) := by decide +kernel
theorem dX9_row_36 : decode cX9_row 36 = .ok (.aload_n 0, 1) := by decide +kernel
theorem dX9_row_37 : decode cX9_row 37 = .ok (.aload_n 0, 1) := by decide +kernel
theorem dX9_row_38 : decode cX9_row 38 = .ok (.iconst 3, 1) := by decide +kernel
theorem dX9_row_39 : decode cX9_row 39 = .ok (.iconst 0, 1) := by decide +kernel
theorem dX9_row_40 : decode cX9_row 40 = .ok (.iconst 2, 1) := by decide +kernel
theorem dX9_row_41 : decode cX9_row 41 = .ok (.invokevirtual 126, 3) := by decide +kernel
theorem dX9_row_44 : decode cX9_row 44 = .ok (.invokevirtual 129, 3) := by decide +kernel
theorem dX9_row_47 : decode cX9_row 47 = .ok (.ireturn, 1) := by decide +kernel
abbrev rmX9_row : Room := { frames := 2, cells := 0, slots := 0, locals := 52 }
theorem ywX9_row : fY yX9_row "EqualCourtModel" cX9_row 3 (some .int) 2 := ⟨tw_1018, tw_1019, tw_11, tw_1020, by decide +kernel⟩
set_option maxHeartbeats 4000000 in
set_option maxRecDepth 100000 in
theorem cX9_row_ok {D : va_G} {ad : Nat → Nat} {cy cz : ClassId} {l : Launch} {z : fS} {v1 : Int32} {v2 : Int32} {r : Int32} {τ : fS} (h : fX9_row z v1 v2 = some (r, τ)) : fMi D 31 ad (cfM ad cy cz) cy cz l yX9_row cX9_row 3 (some .int) rmX9_row [.ref (ad 0), .int v1, .int v2] z r τ := by
  refine f_bodyi (by decide) (Nat.le_of_ble_eq_true rfl) (fun p e s m args below meth c Q hC hret ls hl hI => ?_)
  have hx := hC.1
  have hb := hC.2.1
  have hl : lv_has ls 3 [(0, .ref (ad 0)), (1, .int v1), (2, .int v2)] := hl
  unfold fX9_row at h
  refine lv_aload_n hx hb dX9_row_0 rfl (lv_at hl 0 rfl) ?_
  refine lv_iload_n hx hb dX9_row_1 rfl (lv_at hl 1 rfl) ?_
  replace h := bp_at h
  obtain ⟨r2, e2, h⟩ := h
  refine r_calli (rest := []) hC hI oM_0 (C := "EqualCourtModel") rfl ywX9_isTerm tw_1013 (cX9_isTerm_ok  e2) ⟨Nat.le_of_ble_eq_true rfl, Nat.le_of_ble_eq_true rfl⟩ ⟨rfl, rfl⟩ rfl hl.1 rfl (Nat.le_of_ble_eq_true rfl) dX9_row_2 (fun H locs hI => ?_)
  refine lv_if_eq (tgt := 16) hx hb dX9_row_5 (by decide) (fun c5 => ?_) (fun c5 => ?_)
  · replace h := if_t h c5
    refine lv_aload_n hx hb dX9_row_16 rfl (lv_at hl 0 rfl) ?_
    refine lv_iconst (v := 1) hx hb dX9_row_17 (by decide) ?_
    replace h := bd_at h
    obtain ⟨r18, z18, e18, h⟩ := h
    refine r_calli (rest := []) hC hI oM_0 (C := "EqualCourtModel") rfl ywX9_refuse tw_985 (cX9_refuse_ok  e18) ⟨Nat.le_of_ble_eq_true rfl, Nat.le_of_ble_eq_true rfl⟩ ⟨rfl, rfl⟩ rfl hl.1 rfl (Nat.le_of_ble_eq_true rfl) dX9_row_18 (fun H locs hI => ?_)
    exact hret h dX9_row_21 hI
  · replace h := if_f h c5
    refine lv_aload_n hx hb dX9_row_8 rfl (lv_at hl 0 rfl) ?_
    refine lv_iload_n hx hb dX9_row_9 rfl (lv_at hl 2 rfl) ?_
    replace h := bp_at h
    obtain ⟨r10, e10, h⟩ := h
    refine r_calli (rest := []) hC hI oM_0 (C := "EqualCourtModel") rfl ywX9_isTerm tw_1013 (cX9_isTerm_ok  e10) ⟨Nat.le_of_ble_eq_true rfl, Nat.le_of_ble_eq_true rfl⟩ ⟨rfl, rfl⟩ rfl hl.1 rfl (Nat.le_of_ble_eq_true rfl) dX9_row_10 (fun H locs hI => ?_)
    refine lv_if_ne (tgt := 22) hx hb dX9_row_13 (by decide) (fun c13 => ?_) (fun c13 => ?_)
    · replace h := if_f h c13
      refine lv_aload_n hx hb dX9_row_22 rfl (lv_at hl 0 rfl) ?_
      refine gX9_asked hC hI tw_881 dX9_row_23 ?_
      refine lv_iconst (v := 0) hx hb dX9_row_26 (by decide) ?_
      refine lv_iload_n hx hb dX9_row_27 rfl (lv_at hl 1 rfl) ?_
      have g28 := (gd_at h).1
      replace h := (gd_at h).2
      refine r_iast hC hI aM_19 g28 dX9_row_28 (fun z28 H locs e28 hI => ?_)
      replace h := bnd_at h e28
      refine lv_aload_n hx hb dX9_row_29 rfl (lv_at hl 0 rfl) ?_
      refine gX9_asked hC hI tw_881 dX9_row_30 ?_
      refine lv_iconst (v := 1) hx hb dX9_row_33 (by decide) ?_
      refine lv_iload_n hx hb dX9_row_34 rfl (lv_at hl 2 rfl) ?_
      have g35 := (gd_at h).1
      replace h := (gd_at h).2
      refine r_iast hC hI aM_19 g35 dX9_row_35 (fun z35 H locs e35 hI => ?_)
      replace h := bnd_at h e35
      refine lv_aload_n hx hb dX9_row_36 rfl (lv_at hl 0 rfl) ?_
      refine lv_aload_n hx hb dX9_row_37 rfl (lv_at hl 0 rfl) ?_
      refine lv_iconst (v := 3) hx hb dX9_row_38 (by decide) ?_
      refine lv_iconst (v := 0) hx hb dX9_row_39 (by decide) ?_
      refine lv_iconst (v := 2) hx hb dX9_row_40 (by decide) ?_
      replace h := bd_at h
      obtain ⟨r41, z41, e41, h⟩ := h
      refine r_calli (rest := [.ref (ad 0)]) hC hI oM_0 (C := "EqualCourtModel") rfl ywX9_made tw_989 (cX9_made_ok  e41) ⟨Nat.le_of_ble_eq_true rfl, Nat.le_of_ble_eq_true rfl⟩ ⟨rfl, rfl⟩ rfl hl.1 rfl (Nat.le_of_ble_eq_true rfl) dX9_row_41 (fun H locs hI => ?_)
      replace h := bd_at h
      obtain ⟨r44, z44, e44, h⟩ := h
      refine r_calli (rest := []) hC hI oM_0 (C := "EqualCourtModel") rfl ywX9_answer tw_997 (cX9_answer_ok  e44) ⟨Nat.le_of_ble_eq_true rfl, Nat.le_of_ble_eq_true rfl⟩ ⟨rfl, rfl⟩ rfl hl.1 rfl (Nat.le_of_ble_eq_true rfl) dX9_row_44 (fun H locs hI => ?_)
      exact hret h dX9_row_47 hI
    · replace h := if_t h c13
      refine lv_aload_n hx hb dX9_row_16 rfl (lv_at hl 0 rfl) ?_
      refine lv_iconst (v := 1) hx hb dX9_row_17 (by decide) ?_
      replace h := bd_at h
      obtain ⟨r18, z18, e18, h⟩ := h
      refine r_calli (rest := []) hC hI oM_0 (C := "EqualCourtModel") rfl ywX9_refuse tw_985 (cX9_refuse_ok  e18) ⟨Nat.le_of_ble_eq_true rfl, Nat.le_of_ble_eq_true rfl⟩ ⟨rfl, rfl⟩ rfl hl.1 rfl (Nat.le_of_ble_eq_true rfl) dX9_row_18 (fun H locs hI => ?_)
      exact hret h dX9_row_21 hI
theorem dX9_even_0 : decode cX9_even 0 = .ok (.iload_n 1, 1) := by decide +kernel
theorem dX9_even_1 : decode cX9_even 1 = .ok (.ifCond .lt 25, 3) := by decide +kernel
theorem dX9_even_4 : decode cX9_even 4 = .ok (.iload_n 1, 1) := by decide +kernel
theorem dX9_even_5 : decode cX9_even 5 = .ok (.bipush 19, 2) := by decide +kernel
theorem dX9_even_7 : decode cX9_even 7 = .ok (.if_icmp .gt 19, 3) := by decide +kernel
theorem dX9_even_10 : decode cX9_even 10 = .ok (.aload_n 0, 1) := by decide +kernel
theorem dX9_even_11 : decode cX9_even 11 = .ok (.iload_n 2, 1) := by decide +kernel
theorem dX9_even_12 : decode cX9_even 12 = .ok (.invokevirtual 132, 3) := by decide +kernel
theorem dX9_even_15 : decode cX9_even 15 = .ok (.ifCond .eq 11, 3) := by decide +kernel
theorem dX9_even_18 : decode cX9_even 18 = .ok (.aload_n 0, 1) := by decide +kernel
theorem dX9_even_19 : decode cX9_even 19 = .ok (.iload_n 3, 1) := by decide +kernel
theorem dX9_even_20 : decode cX9_even 20 = .ok (.invokevirtual 132, 3) := by decide +kernel
theorem dX9_even_23 : decode cX9_even 23 = .ok (.ifCond .ne 9, 3) := by decide +kernel
theorem dX9_even_26 : decode cX9_even 26 = .ok (.aload_n 0, 1) := by decide +kernel
theorem dX9_even_27 : decode cX9_even 27 = .ok (.iconst 1, 1) := by decide +kernel
theorem dX9_even_28 : decode cX9_even 28 = .ok (.invokevirtual 119, 3) := by decide +kernel
theorem dX9_even_31 : decode cX9_even 31 = .ok (.ireturn, 1) := by decide +kernel
theorem dX9_even_32 : decode cX9_even 32 = .ok (.aload_n 0, 1) := by decide +kernel
theorem dX9_even_33 : decode cX9_even 33 = .ok (.getfield 69, 3) := by decide +kernel
theorem dX9_even_36 : decode cX9_even 36 = .ok (.iconst 0, 1) := by decide +kernel
theorem dX9_even_37 : decode cX9_even 37 = .ok (.iload_n 2, 1) := by decide +kernel
theorem dX9_even_38 : decode cX9_even 38 = .ok (.iastore, 1) := by decide +kernel
theorem dX9_even_39 : decode cX9_even 39 = .ok (.aload_n 0, 1) := by decide +kernel
theorem dX9_even_40 : decode cX9_even 40 = .ok (.getfield 69, 3) := by decide +kernel
theorem dX9_even_43 : decode cX9_even 43 = .ok (.iconst 1, 1) := by decide +kernel
theorem dX9_even_44 : decode cX9_even 44 = .ok (.iload_n 3, 1) := by decide +kernel
theorem dX9_even_45 : decode cX9_even 45 = .ok (.iastore, 1) := by decide +kernel
theorem dX9_even_46 : decode cX9_even 46 = .ok (.aload_n 0, 1) := by decide +kernel
theorem dX9_even_47 : decode cX9_even 47 = .ok (.aload_n 0, 1) := by decide +kernel
theorem dX9_even_48 : decode cX9_even 48 = .ok (.iconst 4, 1) := by decide +kernel
theorem dX9_even_49 : decode cX9_even 49 = .ok (.iload_n 1, 1) := by decide +kernel
theorem dX9_even_50 : decode cX9_even 50 = .ok (.iconst 2, 1) := by decide +kernel
theorem dX9_even_51 : decode cX9_even 51 = .ok (.invokevirtual 126, 3) := by decide +kernel
theorem dX9_even_54 : decode cX9_even 54 = .ok (.invokevirtual 129, 3) := by decide +kernel
theorem dX9_even_57 : decode cX9_even 57 = .ok (.ireturn, 1) := by decide +kernel
abbrev rmX9_even : Room := { frames := 2, cells := 0, slots := 0, locals := 52 }
theorem ywX9_even : fY yX9_even "EqualCourtModel" cX9_even 4 (some .int) 3 := ⟨tw_1022, tw_1023, tw_11, tw_1024, by decide +kernel⟩
set_option maxHeartbeats 4000000 in
set_option maxRecDepth 100000 in
theorem cX9_even_ok {D : va_G} {ad : Nat → Nat} {cy cz : ClassId} {l : Launch} {z : fS} {v1 : Int32} {v2 : Int32} {v3 : Int32} {r : Int32} {τ : fS} (h : fX9_even z v1 v2 v3 = some (r, τ)) : fMi D 31 ad (cfM ad cy cz) cy cz l yX9_even cX9_even 4 (some .int) rmX9_even [.ref (ad 0), .int v1, .int v2, .int v3] z r τ := by
  refine f_bodyi (by decide) (Nat.le_of_ble_eq_true rfl) (fun p e s m args below meth c Q hC hret ls hl hI => ?_)
  have hx := hC.1
  have hb := hC.2.1
  have hl : lv_has ls 4 [(0, .ref (ad 0)), (1, .int v1), (2, .int v2), (3, .int v3)] := hl
  unfold fX9_even at h
  refine lv_iload_n hx hb dX9_even_0 rfl (lv_at hl 1 rfl) ?_
  refine lv_if_lt (tgt := 26) hx hb dX9_even_1 (by decide) (fun c1 => ?_) (fun c1 => ?_)
  · replace h := if_t h c1
    refine lv_aload_n hx hb dX9_even_26 rfl (lv_at hl 0 rfl) ?_
    refine lv_iconst (v := 1) hx hb dX9_even_27 (by decide) ?_
    replace h := bd_at h
    obtain ⟨r28, z28, e28, h⟩ := h
    refine r_calli (rest := []) hC hI oM_0 (C := "EqualCourtModel") rfl ywX9_refuse tw_985 (cX9_refuse_ok  e28) ⟨Nat.le_of_ble_eq_true rfl, Nat.le_of_ble_eq_true rfl⟩ ⟨rfl, rfl⟩ rfl hl.1 rfl (Nat.le_of_ble_eq_true rfl) dX9_even_28 (fun H locs hI => ?_)
    exact hret h dX9_even_31 hI
  · replace h := if_f h c1
    refine lv_iload_n hx hb dX9_even_4 rfl (lv_at hl 1 rfl) ?_
    refine lv_bipush (v := 19) hx hb dX9_even_5 (by decide) ?_
    refine lv_icmp_gt (tgt := 26) hx hb dX9_even_7 (by decide) (fun c7 => ?_) (fun c7 => ?_)
    · replace h := if_t h c7
      refine lv_aload_n hx hb dX9_even_26 rfl (lv_at hl 0 rfl) ?_
      refine lv_iconst (v := 1) hx hb dX9_even_27 (by decide) ?_
      replace h := bd_at h
      obtain ⟨r28, z28, e28, h⟩ := h
      refine r_calli (rest := []) hC hI oM_0 (C := "EqualCourtModel") rfl ywX9_refuse tw_985 (cX9_refuse_ok  e28) ⟨Nat.le_of_ble_eq_true rfl, Nat.le_of_ble_eq_true rfl⟩ ⟨rfl, rfl⟩ rfl hl.1 rfl (Nat.le_of_ble_eq_true rfl) dX9_even_28 (fun H locs hI => ?_)
      exact hret h dX9_even_31 hI
    · replace h := if_f h c7
      refine lv_aload_n hx hb dX9_even_10 rfl (lv_at hl 0 rfl) ?_
      refine lv_iload_n hx hb dX9_even_11 rfl (lv_at hl 2 rfl) ?_
      replace h := bp_at h
      obtain ⟨r12, e12, h⟩ := h
      refine r_calli (rest := []) hC hI oM_0 (C := "EqualCourtModel") rfl ywX9_isTerm tw_1013 (cX9_isTerm_ok  e12) ⟨Nat.le_of_ble_eq_true rfl, Nat.le_of_ble_eq_true rfl⟩ ⟨rfl, rfl⟩ rfl hl.1 rfl (Nat.le_of_ble_eq_true rfl) dX9_even_12 (fun H locs hI => ?_)
      refine lv_if_eq (tgt := 26) hx hb dX9_even_15 (by decide) (fun c15 => ?_) (fun c15 => ?_)
      · replace h := if_t h c15
        refine lv_aload_n hx hb dX9_even_26 rfl (lv_at hl 0 rfl) ?_
        refine lv_iconst (v := 1) hx hb dX9_even_27 (by decide) ?_
        replace h := bd_at h
        obtain ⟨r28, z28, e28, h⟩ := h
        refine r_calli (rest := []) hC hI oM_0 (C := "EqualCourtModel") rfl ywX9_refuse tw_985 (cX9_refuse_ok  e28) ⟨Nat.le_of_ble_eq_true rfl, Nat.le_of_ble_eq_true rfl⟩ ⟨rfl, rfl⟩ rfl hl.1 rfl (Nat.le_of_ble_eq_true rfl) dX9_even_28 (fun H locs hI => ?_)
        exact hret h dX9_even_31 hI
      · replace h := if_f h c15
        refine lv_aload_n hx hb dX9_even_18 rfl (lv_at hl 0 rfl) ?_
        refine lv_iload_n hx hb dX9_even_19 rfl (lv_at hl 3 rfl) ?_
        replace h := bp_at h
        obtain ⟨r20, e20, h⟩ := h
        refine r_calli (rest := []) hC hI oM_0 (C := "EqualCourtModel") rfl ywX9_isTerm tw_1013 (cX9_isTerm_ok  e20) ⟨Nat.le_of_ble_eq_true rfl, Nat.le_of_ble_eq_true rfl⟩ ⟨rfl, rfl⟩ rfl hl.1 rfl (Nat.le_of_ble_eq_true rfl) dX9_even_20 (fun H locs hI => ?_)
        refine lv_if_ne (tgt := 32) hx hb dX9_even_23 (by decide) (fun c23 => ?_) (fun c23 => ?_)
        · replace h := if_f h c23
          refine lv_aload_n hx hb dX9_even_32 rfl (lv_at hl 0 rfl) ?_
          refine gX9_asked hC hI tw_881 dX9_even_33 ?_
          refine lv_iconst (v := 0) hx hb dX9_even_36 (by decide) ?_
          refine lv_iload_n hx hb dX9_even_37 rfl (lv_at hl 2 rfl) ?_
          have g38 := (gd_at h).1
          replace h := (gd_at h).2
          refine r_iast hC hI aM_19 g38 dX9_even_38 (fun z38 H locs e38 hI => ?_)
          replace h := bnd_at h e38
          refine lv_aload_n hx hb dX9_even_39 rfl (lv_at hl 0 rfl) ?_
          refine gX9_asked hC hI tw_881 dX9_even_40 ?_
          refine lv_iconst (v := 1) hx hb dX9_even_43 (by decide) ?_
          refine lv_iload_n hx hb dX9_even_44 rfl (lv_at hl 3 rfl) ?_
          have g45 := (gd_at h).1
          replace h := (gd_at h).2
          refine r_iast hC hI aM_19 g45 dX9_even_45 (fun z45 H locs e45 hI => ?_)
          replace h := bnd_at h e45
          refine lv_aload_n hx hb dX9_even_46 rfl (lv_at hl 0 rfl) ?_
          refine lv_aload_n hx hb dX9_even_47 rfl (lv_at hl 0 rfl) ?_
          refine lv_iconst (v := 4) hx hb dX9_even_48 (by decide) ?_
          refine lv_iload_n hx hb dX9_even_49 rfl (lv_at hl 1 rfl) ?_
          refine lv_iconst (v := 2) hx hb dX9_even_50 (by decide) ?_
          replace h := bd_at h
          obtain ⟨r51, z51, e51, h⟩ := h
          refine r_calli (rest := [.ref (ad 0)]) hC hI oM_0 (C := "EqualCourtModel") rfl ywX9_made tw_989 (cX9_made_ok  e51) ⟨Nat.le_of_ble_eq_true rfl, Nat.le_of_ble_eq_true rfl⟩ ⟨rfl, rfl⟩ rfl hl.1 rfl (Nat.le_of_ble_eq_true rfl) dX9_even_51 (fun H locs hI => ?_)
          replace h := bd_at h
          obtain ⟨r54, z54, e54, h⟩ := h
          refine r_calli (rest := []) hC hI oM_0 (C := "EqualCourtModel") rfl ywX9_answer tw_997 (cX9_answer_ok  e54) ⟨Nat.le_of_ble_eq_true rfl, Nat.le_of_ble_eq_true rfl⟩ ⟨rfl, rfl⟩ rfl hl.1 rfl (Nat.le_of_ble_eq_true rfl) dX9_even_54 (fun H locs hI => ?_)
          exact hret h dX9_even_57 hI
        · replace h := if_t h c23
          refine lv_aload_n hx hb dX9_even_26 rfl (lv_at hl 0 rfl) ?_
          refine lv_iconst (v := 1) hx hb dX9_even_27 (by decide) ?_
          replace h := bd_at h
          obtain ⟨r28, z28, e28, h⟩ := h
          refine r_calli (rest := []) hC hI oM_0 (C := "EqualCourtModel") rfl ywX9_refuse tw_985 (cX9_refuse_ok  e28) ⟨Nat.le_of_ble_eq_true rfl, Nat.le_of_ble_eq_true rfl⟩ ⟨rfl, rfl⟩ rfl hl.1 rfl (Nat.le_of_ble_eq_true rfl) dX9_even_28 (fun H locs hI => ?_)
          exact hret h dX9_even_31 hI
theorem dX9_kind_0 : decode cX9_kind 0 = .ok (.aload_n 0, 1) := by decide +kernel
theorem dX9_kind_1 : decode cX9_kind 1 = .ok (.iload_n 1, 1) := by decide +kernel
theorem dX9_kind_2 : decode cX9_kind 2 = .ok (.invokevirtual 132, 3) := by decide +kernel
theorem dX9_kind_5 : decode cX9_kind 5 = .ok (.ifCond .eq 12, 3) := by decide +kernel
theorem dX9_kind_8 : decode cX9_kind 8 = .ok (.aload_n 0, 1) := by decide +kernel
theorem dX9_kind_9 : decode cX9_kind 9 = .ok (.getfield 7, 3) := by decide +kernel
theorem dX9_kind_12 : decode cX9_kind 12 = .ok (.iload_n 1, 1) := by decide +kernel
theorem dX9_kind_13 : decode cX9_kind 13 = .ok (.iaload, 1) := by decide +kernel
theorem dX9_kind_14 : decode cX9_kind 14 = .ok (.goto 4, 3) := by decide +kernel
theorem dX9_kind_17 : decode cX9_kind 17 = .ok (.iconst (-1), 1) := by decide +kernel
theorem dX9_kind_18 : decode cX9_kind 18 = .ok (.ireturn, 1) := by decide +kernel
abbrev rmX9_kind : Room := { frames := 1, cells := 0, slots := 0, locals := 21 }
theorem ywX9_kind : fY yX9_kind "EqualCourtModel" cX9_kind 2 (some .int) 1 := ⟨tw_1026, tw_1027, tw_11, tw_1028, by decide +kernel⟩
set_option maxHeartbeats 4000000 in
set_option maxRecDepth 100000 in
theorem cX9_kind_ok {D : va_G} {ad : Nat → Nat} {cy cz : ClassId} {l : Launch} {z : fS} {v1 : Int32} {r : Int32} (h : fX9_kind z v1 = some r) : fMi D 31 ad (cfM ad cy cz) cy cz l yX9_kind cX9_kind 2 (some .int) rmX9_kind [.ref (ad 0), .int v1] z r z := by
  refine f_bodyi (by decide) (Nat.le_of_ble_eq_true rfl) (fun p e s m args below meth c Q hC hret ls hl hI => ?_)
  have hx := hC.1
  have hb := hC.2.1
  have hl : lv_has ls 2 [(0, .ref (ad 0)), (1, .int v1)] := hl
  unfold fX9_kind at h
  refine lv_aload_n hx hb dX9_kind_0 rfl (lv_at hl 0 rfl) ?_
  refine lv_iload_n hx hb dX9_kind_1 rfl (lv_at hl 1 rfl) ?_
  replace h := bp_at h
  obtain ⟨r2, e2, h⟩ := h
  refine r_calli (rest := []) hC hI oM_0 (C := "EqualCourtModel") rfl ywX9_isTerm tw_1013 (cX9_isTerm_ok  e2) ⟨Nat.le_of_ble_eq_true rfl, Nat.le_of_ble_eq_true rfl⟩ ⟨rfl, rfl⟩ rfl hl.1 rfl (Nat.le_of_ble_eq_true rfl) dX9_kind_2 (fun H locs hI => ?_)
  refine lv_if_eq (tgt := 17) hx hb dX9_kind_5 (by decide) (fun c5 => ?_) (fun c5 => ?_)
  · replace h := if_t h c5
    refine lv_iconst (v := -1) hx hb dX9_kind_17 (by decide) ?_
    exact hret (ret_p _ h) dX9_kind_18 hI
  · replace h := if_f h c5
    refine lv_aload_n hx hb dX9_kind_8 rfl (lv_at hl 0 rfl) ?_
    refine gX9_kindOf hC hI tw_854 dX9_kind_9 ?_
    refine lv_iload_n hx hb dX9_kind_12 rfl (lv_at hl 1 rfl) ?_
    have g13 := (gd_at h).1
    replace h := (gd_at h).2
    refine r_iald hC hI aM_1 g13 dX9_kind_13 ?_
    refine lv_goto (tgt := 18) hx hb dX9_kind_14 (by decide) ?_
    exact hret (ret_p _ h) dX9_kind_18 hI
theorem dX9_part_0 : decode cX9_part 0 = .ok (.aload_n 0, 1) := by decide +kernel
theorem dX9_part_1 : decode cX9_part 1 = .ok (.iload_n 1, 1) := by decide +kernel
theorem dX9_part_2 : decode cX9_part 2 = .ok (.invokevirtual 132, 3) := by decide +kernel
theorem dX9_part_5 : decode cX9_part 5 = .ok (.ifCond .ne 9, 3) := by decide +kernel
theorem dX9_part_8 : decode cX9_part 8 = .ok (.aload_n 0, 1) := by decide +kernel
theorem dX9_part_9 : decode cX9_part 9 = .ok (.iconst 1, 1) := by decide +kernel
theorem dX9_part_10 : decode cX9_part 10 = .ok (.invokevirtual 119, 3) := by decide +kernel
theorem dX9_part_13 : decode cX9_part 13 = .ok (.ireturn, 1) := by decide +kernel
theorem dX9_part_14 : decode cX9_part 14 = .ok (.aload_n 0, 1) := by decide +kernel
theorem dX9_part_15 : decode cX9_part 15 = .ok (.getfield 16, 3) := by decide +kernel
theorem dX9_part_18 : decode cX9_part 18 = .ok (.iload_n 1, 1) := by decide +kernel
theorem dX9_part_19 : decode cX9_part 19 = .ok (.iaload, 1) := by decide +kernel
theorem dX9_part_20 : decode cX9_part 20 = .ok (.ifCond .ne 9, 3) := by decide +kernel
theorem dX9_part_23 : decode cX9_part 23 = .ok (.aload_n 0, 1) := by decide +kernel
theorem dX9_part_24 : decode cX9_part 24 = .ok (.iconst 2, 1) := by decide +kernel
theorem dX9_part_25 : decode cX9_part 25 = .ok (.invokevirtual 119, 3) := by decide +kernel
theorem dX9_part_28 : decode cX9_part 28 = .ok (.ireturn, 1) := by decide +kernel
theorem dX9_part_29 : decode cX9_part 29 = .ok (.iload_n 2, 1) := by decide +kernel
theorem dX9_part_30 : decode cX9_part 30 = .ok (.ifCond .lt 13, 3) := by decide +kernel
theorem dX9_part_33 : decode cX9_part 33 = .ok (.iload_n 2, 1) := by decide +kernel
theorem dX9_part_34 : decode cX9_part 34 = .ok (.aload_n 0, 1) := by decide +kernel
theorem dX9_part_35 : decode cX9_part 35 = .ok (.getfield 16, 3) := by decide +kernel
theorem dX9_part_38 : decode cX9_part 38 = .ok (.iload_n 1, 1) := by decide +kernel
theorem dX9_part_39 : decode cX9_part 39 = .ok (.iaload, 1) := by decide +kernel
theorem dX9_part_40 : decode cX9_part 40 = .ok (.if_icmp .lt 11, 3) := by decide +kernel
theorem dX9_part_43 : decode cX9_part 43 = .ok (.aload_n 0, 1) := by decide +kernel
theorem dX9_part_44 : decode cX9_part 44 = .ok (.iconst 1, 1) := by decide +kernel
theorem dX9_part_45 : decode cX9_part 45 = .ok (.invokevirtual 119, 3) := by decide +kernel
theorem dX9_part_48 : decode cX9_part 48 = .ok (.goto 17, 3) := by decide +kernel
theorem dX9_part_51 : decode cX9_part 51 = .ok (.aload_n 0, 1) := by decide +kernel
theorem dX9_part_52 : decode cX9_part 52 = .ok (.aload_n 0, 1) := by decide +kernel
theorem dX9_part_53 : decode cX9_part 53 = .ok (.getfield 19, 3) := by decide +kernel
theorem dX9_part_56 : decode cX9_part 56 = .ok (.iconst 3, 1) := by decide +kernel
theorem dX9_part_57 : decode cX9_part 57 = .ok (.iload_n 1, 1) := by decide +kernel
theorem dX9_part_58 : decode cX9_part 58 = .ok (.imul, 1) := by decide +kernel
theorem dX9_part_59 : decode cX9_part 59 = .ok (.iload_n 2, 1) := by decide +kernel
theorem dX9_part_60 : decode cX9_part 60 = .ok (.iadd, 1) := by decide +kernel
theorem dX9_part_61 : decode cX9_part 61 = .ok (.iaload, 1) := by decide +kernel
theorem dX9_part_62 : decode cX9_part 62 = .ok (.invokevirtual 123, 3) := by decide +kernel
theorem dX9_part_65 : decode cX9_part 65 = .ok (.ireturn, 1) := by decide +kernel
abbrev rmX9_part : Room := { frames := 1, cells := 0, slots := 0, locals := 21 }
theorem ywX9_part : fY yX9_part "EqualCourtModel" cX9_part 3 (some .int) 2 := ⟨tw_1030, tw_1031, tw_11, tw_1032, by decide +kernel⟩
set_option maxHeartbeats 4000000 in
set_option maxRecDepth 100000 in
theorem cX9_part_ok {D : va_G} {ad : Nat → Nat} {cy cz : ClassId} {l : Launch} {z : fS} {v1 : Int32} {v2 : Int32} {r : Int32} {τ : fS} (h : fX9_part z v1 v2 = some (r, τ)) : fMi D 31 ad (cfM ad cy cz) cy cz l yX9_part cX9_part 3 (some .int) rmX9_part [.ref (ad 0), .int v1, .int v2] z r τ := by
  refine f_bodyi (by decide) (Nat.le_of_ble_eq_true rfl) (fun p e s m args below meth c Q hC hret ls hl hI => ?_)
  have hx := hC.1
  have hb := hC.2.1
  have hl : lv_has ls 3 [(0, .ref (ad 0)), (1, .int v1), (2, .int v2)] := hl
  unfold fX9_part at h
  refine lv_aload_n hx hb dX9_part_0 rfl (lv_at hl 0 rfl) ?_
  refine lv_iload_n hx hb dX9_part_1 rfl (lv_at hl 1 rfl) ?_
  replace h := bp_at h
  obtain ⟨r2, e2, h⟩ := h
  refine r_calli (rest := []) hC hI oM_0 (C := "EqualCourtModel") rfl ywX9_isTerm tw_1013 (cX9_isTerm_ok  e2) ⟨Nat.le_of_ble_eq_true rfl, Nat.le_of_ble_eq_true rfl⟩ ⟨rfl, rfl⟩ rfl hl.1 rfl (Nat.le_of_ble_eq_true rfl) dX9_part_2 (fun H locs hI => ?_)
  refine lv_if_ne (tgt := 14) hx hb dX9_part_5 (by decide) (fun c5 => ?_) (fun c5 => ?_)
  · replace h := if_f h c5
    refine lv_aload_n hx hb dX9_part_14 rfl (lv_at hl 0 rfl) ?_
    refine gX9_partMany hC hI tw_856 dX9_part_15 ?_
    refine lv_iload_n hx hb dX9_part_18 rfl (lv_at hl 1 rfl) ?_
    have g19 := (gd_at h).1
    replace h := (gd_at h).2
    refine r_iald hC hI aM_3 g19 dX9_part_19 ?_
    refine lv_if_ne (tgt := 29) hx hb dX9_part_20 (by decide) (fun c20 => ?_) (fun c20 => ?_)
    · replace h := if_f h c20
      refine lv_iload_n hx hb dX9_part_29 rfl (lv_at hl 2 rfl) ?_
      refine lv_if_lt (tgt := 43) hx hb dX9_part_30 (by decide) (fun c30 => ?_) (fun c30 => ?_)
      · replace h := if_t h c30
        refine lv_aload_n hx hb dX9_part_43 rfl (lv_at hl 0 rfl) ?_
        refine lv_iconst (v := 1) hx hb dX9_part_44 (by decide) ?_
        replace h := bd_at h
        obtain ⟨r45, z45, e45, h⟩ := h
        refine r_calli (rest := []) hC hI oM_0 (C := "EqualCourtModel") rfl ywX9_refuse tw_985 (cX9_refuse_ok  e45) ⟨Nat.le_of_ble_eq_true rfl, Nat.le_of_ble_eq_true rfl⟩ ⟨rfl, rfl⟩ rfl hl.1 rfl (Nat.le_of_ble_eq_true rfl) dX9_part_45 (fun H locs hI => ?_)
        refine lv_goto (tgt := 65) hx hb dX9_part_48 (by decide) ?_
        exact hret h dX9_part_65 hI
      · replace h := if_f h c30
        refine lv_iload_n hx hb dX9_part_33 rfl (lv_at hl 2 rfl) ?_
        refine lv_aload_n hx hb dX9_part_34 rfl (lv_at hl 0 rfl) ?_
        refine gX9_partMany hC hI tw_856 dX9_part_35 ?_
        refine lv_iload_n hx hb dX9_part_38 rfl (lv_at hl 1 rfl) ?_
        have g39 := (gd_at h).1
        replace h := (gd_at h).2
        refine r_iald hC hI aM_3 g39 dX9_part_39 ?_
        refine lv_icmp_lt (tgt := 51) hx hb dX9_part_40 (by decide) (fun c40 => ?_) (fun c40 => ?_)
        · replace h := if_t h c40
          refine lv_aload_n hx hb dX9_part_51 rfl (lv_at hl 0 rfl) ?_
          refine lv_aload_n hx hb dX9_part_52 rfl (lv_at hl 0 rfl) ?_
          refine gX9_partOf hC hI tw_857 dX9_part_53 ?_
          refine lv_iconst (v := 3) hx hb dX9_part_56 (by decide) ?_
          refine lv_iload_n hx hb dX9_part_57 rfl (lv_at hl 1 rfl) ?_
          refine lv_imul hx hb dX9_part_58 ?_
          refine lv_iload_n hx hb dX9_part_59 rfl (lv_at hl 2 rfl) ?_
          refine lv_iadd hx hb dX9_part_60 ?_
          have g61 := (gd_at h).1
          replace h := (gd_at h).2
          refine r_iald hC hI aM_4 g61 dX9_part_61 ?_
          replace h := bd_at h
          obtain ⟨r62, z62, e62, h⟩ := h
          refine r_calli (rest := []) hC hI oM_0 (C := "EqualCourtModel") rfl ywX9_done tw_1001 (cX9_done_ok  e62) ⟨Nat.le_of_ble_eq_true rfl, Nat.le_of_ble_eq_true rfl⟩ ⟨rfl, rfl⟩ rfl hl.1 rfl (Nat.le_of_ble_eq_true rfl) dX9_part_62 (fun H locs hI => ?_)
          exact hret h dX9_part_65 hI
        · replace h := if_f h c40
          refine lv_aload_n hx hb dX9_part_43 rfl (lv_at hl 0 rfl) ?_
          refine lv_iconst (v := 1) hx hb dX9_part_44 (by decide) ?_
          replace h := bd_at h
          obtain ⟨r45, z45, e45, h⟩ := h
          refine r_calli (rest := []) hC hI oM_0 (C := "EqualCourtModel") rfl ywX9_refuse tw_985 (cX9_refuse_ok  e45) ⟨Nat.le_of_ble_eq_true rfl, Nat.le_of_ble_eq_true rfl⟩ ⟨rfl, rfl⟩ rfl hl.1 rfl (Nat.le_of_ble_eq_true rfl) dX9_part_45 (fun H locs hI => ?_)
          refine lv_goto (tgt := 65) hx hb dX9_part_48 (by decide) ?_
          exact hret h dX9_part_65 hI
    · replace h := if_t h c20
      refine lv_aload_n hx hb dX9_part_23 rfl (lv_at hl 0 rfl) ?_
      refine lv_iconst (v := 2) hx hb dX9_part_24 (by decide) ?_
      replace h := bd_at h
      obtain ⟨r25, z25, e25, h⟩ := h
      refine r_calli (rest := []) hC hI oM_0 (C := "EqualCourtModel") rfl ywX9_refuse tw_985 (cX9_refuse_ok  e25) ⟨Nat.le_of_ble_eq_true rfl, Nat.le_of_ble_eq_true rfl⟩ ⟨rfl, rfl⟩ rfl hl.1 rfl (Nat.le_of_ble_eq_true rfl) dX9_part_25 (fun H locs hI => ?_)
      exact hret h dX9_part_28 hI
  · replace h := if_t h c5
    refine lv_aload_n hx hb dX9_part_8 rfl (lv_at hl 0 rfl) ?_
    refine lv_iconst (v := 1) hx hb dX9_part_9 (by decide) ?_
    replace h := bd_at h
    obtain ⟨r10, z10, e10, h⟩ := h
    refine r_calli (rest := []) hC hI oM_0 (C := "EqualCourtModel") rfl ywX9_refuse tw_985 (cX9_refuse_ok  e10) ⟨Nat.le_of_ble_eq_true rfl, Nat.le_of_ble_eq_true rfl⟩ ⟨rfl, rfl⟩ rfl hl.1 rfl (Nat.le_of_ble_eq_true rfl) dX9_part_10 (fun H locs hI => ?_)
    exact hret h dX9_part_13 hI
theorem dX9_shows_0 : decode cX9_shows 0 = .ok (.aload_n 0, 1) := by decide +kernel
theorem dX9_shows_1 : decode cX9_shows 1 = .ok (.iload_n 1, 1) := by decide +kernel
theorem dX9_shows_2 : decode cX9_shows 2 = .ok (.invokevirtual 132, 3) := by decide +kernel
theorem dX9_shows_5 : decode cX9_shows 5 = .ok (.ifCond .ne 9, 3) := by decide +kernel
theorem dX9_shows_8 : decode cX9_shows 8 = .ok (.aload_n 0, 1) := by decide +kernel
theorem dX9_shows_9 : decode cX9_shows 9 = .ok (.iconst 1, 1) := by decide +kernel
theorem dX9_shows_10 : decode cX9_shows 10 = .ok (.invokevirtual 119, 3) := by decide +kernel
theorem dX9_shows_13 : decode cX9_shows 13 = .ok (.ireturn, 1) := by decide +kernel
theorem dX9_shows_14 : decode cX9_shows 14 = .ok (.aload_n 0, 1) := by decide +kernel
theorem dX9_shows_15 : decode cX9_shows 15 = .ok (.getfield 7, 3) := by decide +kernel
theorem dX9_shows_18 : decode cX9_shows 18 = .ok (.iload_n 1, 1) := by decide +kernel
theorem dX9_shows_19 : decode cX9_shows 19 = .ok (.iaload, 1) := by decide +kernel
theorem dX9_shows_20 : decode cX9_shows 20 = .ok (.iconst 3, 1) := by decide +kernel
theorem dX9_shows_21 : decode cX9_shows 21 = .ok (.if_icmp .ne 11, 3) := by decide +kernel
theorem dX9_shows_24 : decode cX9_shows 24 = .ok (.aload_n 0, 1) := by decide +kernel
theorem dX9_shows_25 : decode cX9_shows 25 = .ok (.iconst 2, 1) := by decide +kernel
theorem dX9_shows_26 : decode cX9_shows 26 = .ok (.invokevirtual 119, 3) := by decide +kernel
theorem dX9_shows_29 : decode cX9_shows 29 = .ok (.goto 13, 3) := by decide +kernel
theorem dX9_shows_32 : decode cX9_shows 32 = .ok (.aload_n 0, 1) := by decide +kernel
theorem dX9_shows_33 : decode cX9_shows 33 = .ok (.aload_n 0, 1) := by decide +kernel
theorem dX9_shows_34 : decode cX9_shows 34 = .ok (.getfield 13, 3) := by decide +kernel
theorem dX9_shows_37 : decode cX9_shows 37 = .ok (.iload_n 1, 1) := by decide +kernel
theorem dX9_shows_38 : decode cX9_shows 38 = .ok (.iaload, 1) := by decide +kernel
theorem dX9_shows_39 : decode cX9_shows 39 = .ok (.invokevirtual 123, 3) := by decide +kernel
theorem dX9_shows_42 : decode cX9_shows 42 = .ok (.ireturn, 1) := by decide +kernel
abbrev rmX9_shows : Room := { frames := 1, cells := 0, slots := 0, locals := 21 }
theorem ywX9_shows : fY yX9_shows "EqualCourtModel" cX9_shows 2 (some .int) 1 := ⟨tw_1034, tw_1035, tw_11, tw_1036, by decide +kernel⟩
set_option maxHeartbeats 4000000 in
set_option maxRecDepth 100000 in
theorem cX9_shows_ok {D : va_G} {ad : Nat → Nat} {cy cz : ClassId} {l : Launch} {z : fS} {v1 : Int32} {r : Int32} {τ : fS} (h : fX9_shows z v1 = some (r, τ)) : fMi D 31 ad (cfM ad cy cz) cy cz l yX9_shows cX9_shows 2 (some .int) rmX9_shows [.ref (ad 0), .int v1] z r τ := by
  refine f_bodyi (by decide) (Nat.le_of_ble_eq_true rfl) (fun p e s m args below meth c Q hC hret ls hl hI => ?_)
  have hx := hC.1
  have hb := hC.2.1
  have hl : lv_has ls 2 [(0, .ref (ad 0)), (1, .int v1)] := hl
  unfold fX9_shows at h
  refine lv_aload_n hx hb dX9_shows_0 rfl (lv_at hl 0 rfl) ?_
  refine lv_iload_n hx hb dX9_shows_1 rfl (lv_at hl 1 rfl) ?_
  replace h := bp_at h
  obtain ⟨r2, e2, h⟩ := h
  refine r_calli (rest := []) hC hI oM_0 (C := "EqualCourtModel") rfl ywX9_isTerm tw_1013 (cX9_isTerm_ok  e2) ⟨Nat.le_of_ble_eq_true rfl, Nat.le_of_ble_eq_true rfl⟩ ⟨rfl, rfl⟩ rfl hl.1 rfl (Nat.le_of_ble_eq_true rfl) dX9_shows_2 (fun H locs hI => ?_)
  refine lv_if_ne (tgt := 14) hx hb dX9_shows_5 (by decide) (fun c5 => ?_) (fun c5 => ?_)
  · replace h := if_f h c5
    refine lv_aload_n hx hb dX9_shows_14 rfl (lv_at hl 0 rfl) ?_
    refine gX9_kindOf hC hI tw_854 dX9_shows_15 ?_
    refine lv_iload_n hx hb dX9_shows_18 rfl (lv_at hl 1 rfl) ?_
    have g19 := (gd_at h).1
    replace h := (gd_at h).2
    refine r_iald hC hI aM_1 g19 dX9_shows_19 ?_
    refine lv_iconst (v := 3) hx hb dX9_shows_20 (by decide) ?_
    refine lv_icmp_ne (tgt := 32) hx hb dX9_shows_21 (by decide) (fun c21 => ?_) (fun c21 => ?_)
    · replace h := if_f h c21
      refine lv_aload_n hx hb dX9_shows_32 rfl (lv_at hl 0 rfl) ?_
      refine lv_aload_n hx hb dX9_shows_33 rfl (lv_at hl 0 rfl) ?_
      refine gX9_shown hC hI tw_855 dX9_shows_34 ?_
      refine lv_iload_n hx hb dX9_shows_37 rfl (lv_at hl 1 rfl) ?_
      have g38 := (gd_at h).1
      replace h := (gd_at h).2
      refine r_iald hC hI aM_2 g38 dX9_shows_38 ?_
      replace h := bd_at h
      obtain ⟨r39, z39, e39, h⟩ := h
      refine r_calli (rest := []) hC hI oM_0 (C := "EqualCourtModel") rfl ywX9_done tw_1001 (cX9_done_ok  e39) ⟨Nat.le_of_ble_eq_true rfl, Nat.le_of_ble_eq_true rfl⟩ ⟨rfl, rfl⟩ rfl hl.1 rfl (Nat.le_of_ble_eq_true rfl) dX9_shows_39 (fun H locs hI => ?_)
      exact hret h dX9_shows_42 hI
    · replace h := if_t h c21
      refine lv_aload_n hx hb dX9_shows_24 rfl (lv_at hl 0 rfl) ?_
      refine lv_iconst (v := 2) hx hb dX9_shows_25 (by decide) ?_
      replace h := bd_at h
      obtain ⟨r26, z26, e26, h⟩ := h
      refine r_calli (rest := []) hC hI oM_0 (C := "EqualCourtModel") rfl ywX9_refuse tw_985 (cX9_refuse_ok  e26) ⟨Nat.le_of_ble_eq_true rfl, Nat.le_of_ble_eq_true rfl⟩ ⟨rfl, rfl⟩ rfl hl.1 rfl (Nat.le_of_ble_eq_true rfl) dX9_shows_26 (fun H locs hI => ?_)
      refine lv_goto (tgt := 42) hx hb dX9_shows_29 (by decide) ?_
      exact hret h dX9_shows_42 hI
  · replace h := if_t h c5
    refine lv_aload_n hx hb dX9_shows_8 rfl (lv_at hl 0 rfl) ?_
    refine lv_iconst (v := 1) hx hb dX9_shows_9 (by decide) ?_
    replace h := bd_at h
    obtain ⟨r10, z10, e10, h⟩ := h
    refine r_calli (rest := []) hC hI oM_0 (C := "EqualCourtModel") rfl ywX9_refuse tw_985 (cX9_refuse_ok  e10) ⟨Nat.le_of_ble_eq_true rfl, Nat.le_of_ble_eq_true rfl⟩ ⟨rfl, rfl⟩ rfl hl.1 rfl (Nat.le_of_ble_eq_true rfl) dX9_shows_10 (fun H locs hI => ?_)
    exact hret h dX9_shows_13 hI
theorem dX9_merge_0 : decode cX9_merge 0 = .ok (.aload_n 0, 1) := by decide +kernel
theorem dX9_merge_1 : decode cX9_merge 1 = .ok (.getfield 72, 3) := by decide +kernel
theorem dX9_merge_4 : decode cX9_merge 4 = .ok (.iload_n 1, 1) := by decide +kernel
theorem dX9_merge_5 : decode cX9_merge 5 = .ok (.iaload, 1) := by decide +kernel
theorem dX9_merge_6 : decode cX9_merge 6 = .ok (.aload_n 0, 1) := by decide +kernel
theorem dX9_merge_7 : decode cX9_merge 7 = .ok (.getfield 72, 3) := by decide +kernel
theorem dX9_merge_10 : decode cX9_merge 10 = .ok (.iload_n 2, 1) := by decide +kernel
theorem dX9_merge_11 : decode cX9_merge 11 = .ok (.iaload, 1) := by decide +kernel
theorem dX9_merge_12 : decode cX9_merge 12 = .ok (.if_icmp .ge 12, 3) := by decide +kernel
theorem dX9_merge_15 : decode cX9_merge 15 = .ok (.aload_n 0, 1) := by decide +kernel
theorem dX9_merge_16 : decode cX9_merge 16 = .ok (.getfield 72, 3) := by decide +kernel
theorem dX9_merge_19 : decode cX9_merge 19 = .ok (.iload_n 1, 1) := by decide +kernel
theorem dX9_merge_20 : decode cX9_merge 20 = .ok (.iaload, 1) := by decide +kernel
theorem dX9_merge_21 : decode cX9_merge 21 = .ok (.goto 9, 3) := by decide +kernel
theorem dX9_merge_24 : decode cX9_merge 24 = .ok (.aload_n 0, 1) := by decide +kernel
theorem dX9_merge_25 : decode cX9_merge 25 = .ok (.getfield 72, 3) := by decide +kernel
theorem dX9_merge_28 : decode cX9_merge 28 = .ok (.iload_n 2, 1) := by decide +kernel
theorem dX9_merge_29 : decode cX9_merge 29 = .ok (.iaload, 1) := by decide +kernel
theorem dX9_merge_30 : decode cX9_merge 30 = .ok (.istore_n 3, 1) := by decide +kernel
theorem dX9_merge_31 : decode cX9_merge 31 = .ok (.aload_n 0, 1) := by decide +kernel
theorem dX9_merge_32 : decode cX9_merge 32 = .ok (.getfield 72, 3) := by decide +kernel
theorem dX9_merge_35 : decode cX9_merge 35 = .ok (.iload_n 1, 1) := by decide +kernel
theorem dX9_merge_36 : decode cX9_merge 36 = .ok (.iaload, 1) := by decide +kernel
theorem dX9_merge_37 : decode cX9_merge 37 = .ok (.aload_n 0, 1) := by decide +kernel
theorem dX9_merge_38 : decode cX9_merge 38 = .ok (.getfield 72, 3) := by decide +kernel
theorem dX9_merge_41 : decode cX9_merge 41 = .ok (.iload_n 2, 1) := by decide +kernel
theorem dX9_merge_42 : decode cX9_merge 42 = .ok (.iaload, 1) := by decide +kernel
theorem dX9_merge_43 : decode cX9_merge 43 = .ok (.if_icmp .ge 12, 3) := by decide +kernel
theorem dX9_merge_46 : decode cX9_merge 46 = .ok (.aload_n 0, 1) := by decide +kernel
theorem dX9_merge_47 : decode cX9_merge 47 = .ok (.getfield 72, 3) := by decide +kernel
theorem dX9_merge_50 : decode cX9_merge 50 = .ok (.iload_n 2, 1) := by decide +kernel
theorem dX9_merge_51 : decode cX9_merge 51 = .ok (.iaload, 1) := by decide +kernel
theorem dX9_merge_52 : decode cX9_merge 52 = .ok (.goto 9, 3) := by decide +kernel
theorem dX9_merge_55 : decode cX9_merge 55 = .ok (.aload_n 0, 1) := by decide +kernel
theorem dX9_merge_56 : decode cX9_merge 56 = .ok (.getfield 72, 3) := by decide +kernel
theorem dX9_merge_59 : decode cX9_merge 59 = .ok (.iload_n 1, 1) := by decide +kernel
theorem dX9_merge_60 : decode cX9_merge 60 = .ok (.iaload, 1) := by decide +kernel
theorem dX9_merge_61 : decode cX9_merge 61 = .ok (.istore 4, 2) := by decide +kernel
theorem dX9_merge_63 : decode cX9_merge 63 = .ok (.iconst 0, 1) := by decide +kernel
theorem dX9_merge_64 : decode cX9_merge 64 = .ok (.istore 5, 2) := by decide +kernel
theorem dX9_merge_66 : decode cX9_merge 66 = .ok (.iload 5, 2) := by decide +kernel
theorem dX9_merge_68 : decode cX9_merge 68 = .ok (.aload_n 0, 1) := by decide +kernel
theorem dX9_merge_69 : decode cX9_merge 69 = .ok (.getfield 108, 3) := by decide +kernel
theorem dX9_merge_72 : decode cX9_merge 72 = .ok (.if_icmp .ge 39, 3) := by decide +kernel
theorem dX9_merge_75 : decode cX9_merge 75 = .ok (.aload_n 0, 1) := by decide +kernel
theorem dX9_merge_76 : decode cX9_merge 76 = .ok (.getfield 72, 3) := by decide +kernel
theorem dX9_merge_79 : decode cX9_merge 79 = .ok (.iload 5, 2) := by decide +kernel
theorem dX9_merge_81 : decode cX9_merge 81 = .ok (.aload_n 0, 1) := by decide +kernel
theorem dX9_merge_82 : decode cX9_merge 82 = .ok (.getfield 72, 3) := by decide +kernel
theorem dX9_merge_85 : decode cX9_merge 85 = .ok (.iload 5, 2) := by decide +kernel
theorem dX9_merge_87 : decode cX9_merge 87 = .ok (.iaload, 1) := by decide +kernel
theorem dX9_merge_88 : decode cX9_merge 88 = .ok (.iload 4, 2) := by decide +kernel
theorem dX9_merge_90 : decode cX9_merge 90 = .ok (.if_icmp .ne 7, 3) := by decide +kernel
theorem dX9_merge_93 : decode cX9_merge 93 = .ok (.iload_n 3, 1) := by decide +kernel
theorem dX9_merge_94 : decode cX9_merge 94 = .ok (.goto 10, 3) := by decide +kernel
theorem dX9_merge_97 : decode cX9_merge 97 = .ok (.aload_n 0, 1) := by decide +kernel
theorem dX9_merge_98 : decode cX9_merge 98 = .ok (.getfield 72, 3) := by decide +kernel
theorem dX9_merge_101 : decode cX9_merge 101 = .ok (.iload 5, 2) := by decide +kernel
theorem dX9_merge_103 : decode cX9_merge 103 = .ok (.iaload, 1) := by decide +kernel
theorem dX9_merge_104 : decode cX9_merge 104 = .ok (.iastore, 1) := by decide +kernel
theorem dX9_merge_105 : decode cX9_merge 105 = .ok (.iinc 5 1, 3) := by decide +kernel
theorem dX9_merge_108 : decode cX9_merge 108 = .ok (.goto (-42), 3) := by decide +kernel
theorem dX9_merge_111 : decode cX9_merge 111 = .ok (.return_, 1) := by decide +kernel
abbrev rmX9_merge : Room := { frames := 0, cells := 0, slots := 0, locals := 0 }
theorem ywX9_merge : fY yX9_merge "EqualCourtModel" cX9_merge 6 none 2 := ⟨tw_1063, tp_38, tw_11, tw_1064, by decide +kernel⟩
set_option maxHeartbeats 4000000 in
set_option maxRecDepth 100000 in
theorem cX9_merge_ok {D : va_G} {ad : Nat → Nat} {cy cz : ClassId} {l : Launch} {z : fS} {v1 : Int32} {v2 : Int32} {τ : fS} (h : fX9_merge z v1 v2 = some τ) : fMv D 31 ad (cfM ad cy cz) cy cz l yX9_merge cX9_merge 6 none rmX9_merge [.ref (ad 0), .int v1, .int v2] z τ := by
  refine f_bodyv (by decide) (Nat.le_of_ble_eq_true rfl) (fun p e s m args below meth c Q hC hret ls hl hI => ?_)
  have hx := hC.1
  have hb := hC.2.1
  have hl : lv_has ls 6 [(0, .ref (ad 0)), (1, .int v1), (2, .int v2)] := hl
  unfold fX9_merge at h
  have w61 : ∀ (v3 : Int32) (y0 : Int32) (z : fS) (H : Heap) (locs : List Loc) (ls : Array Slot), fI D 31 ad (cfM ad cy cz) z s H locs → lv_has ls 6 [(0, .ref (ad 0)), (3, .int v3)] → jX9_merge_61   v3 y0 z = some τ → W p l e rmX9_merge s m args below meth c H locs 0 0 Q (F0 m 61 ls [.int y0]) := by
    intro v3 y0 z H locs ls hI hl h
    unfold jX9_merge_61 at h
    refine lv_istore (lv' := [(4, .int y0), (0, .ref (ad 0)), (3, .int v3)]) hx hb dX9_merge_61 hl (by decide) rfl (fun ls hl => ?_)
    refine lv_iconst (v := 0) hx hb dX9_merge_63 (by decide) ?_
    refine lv_istore (lv' := [(5, .int (0 : Int32)), (4, .int y0), (0, .ref (ad 0)), (3, .int v3)]) hx hb dX9_merge_64 hl (by decide) rfl (fun ls hl => ?_)
    have w66 : ∀ (N66 : Nat) (v3 : Int32) (v4 : Int32) (v5 : Int32) (z : fS) (H : Heap) (locs : List Loc) (ls : Array Slot), fI D 31 ad (cfM ad cy cz) z s H locs → lv_has ls 6 [(0, .ref (ad 0)), (3, .int v3), (4, .int v4), (5, .int v5)] → lX9_merge_66   v3 v4 N66 v5 z = some τ → W p l e rmX9_merge s m args below meth c H locs 0 0 Q (F0 m 66 ls []) := by
      intro N66
      induction N66 with
      | zero =>
        intro v3 v4 v5 z H locs ls hI hl h
        exact none_no h
      | succ N66 ih66 =>
        intro v3 v4 v5 z H locs ls hI hl h
        rw [lX9_merge_66.eq_2] at h
        refine lv_iload hx hb dX9_merge_66 (lv_at hl 3 rfl) ?_
        refine lv_aload_n hx hb dX9_merge_68 rfl (lv_at hl 0 rfl) ?_
        refine gX9_terms hC hI tw_858 dX9_merge_69 ?_
        refine lv_icmp_ge (tgt := 111) hx hb dX9_merge_72 (by decide) (fun c72 => ?_) (fun c72 => ?_)
        · replace h := if_t h c72
          exact hret h dX9_merge_111 hI
        · replace h := if_f h c72
          refine lv_aload_n hx hb dX9_merge_75 rfl (lv_at hl 0 rfl) ?_
          refine gX9_one hC hI tw_882 dX9_merge_76 ?_
          refine lv_iload hx hb dX9_merge_79 (lv_at hl 3 rfl) ?_
          refine lv_aload_n hx hb dX9_merge_81 rfl (lv_at hl 0 rfl) ?_
          refine gX9_one hC hI tw_882 dX9_merge_82 ?_
          refine lv_iload hx hb dX9_merge_85 (lv_at hl 3 rfl) ?_
          have g87 := (gd_at h).1
          replace h := (gd_at h).2
          refine r_iald hC hI aM_20 g87 dX9_merge_87 ?_
          refine lv_iload hx hb dX9_merge_88 (lv_at hl 2 rfl) ?_
          refine lv_icmp_ne (tgt := 97) hx hb dX9_merge_90 (by decide) (fun c90 => ?_) (fun c90 => ?_)
          · replace h := if_f h c90
            refine lv_aload_n hx hb dX9_merge_97 rfl (lv_at hl 0 rfl) ?_
            refine gX9_one hC hI tw_882 dX9_merge_98 ?_
            refine lv_iload hx hb dX9_merge_101 (lv_at hl 3 rfl) ?_
            have g103 := (gd_at h).1
            replace h := (gd_at h).2
            refine r_iald hC hI aM_20 g103 dX9_merge_103 ?_
            have g104 := (gd_at h).1
            replace h := (gd_at h).2
            refine r_iast hC hI aM_20 g104 dX9_merge_104 (fun z104 H locs e104 hI => ?_)
            replace h := bnd_at h e104
            obtain ⟨x105, e105⟩ : ∃ y : Int32, y = (v5 + (1 : Int32)) := ⟨_, rfl⟩
            replace h := bnd_at h e105
            refine lv_iinc (v := x105) (lv' := [(5, .int x105), (0, .ref (ad 0)), (3, .int v3), (4, .int v4)]) hx hb dX9_merge_105 hl (k := 3) rfl (by rw [e105]; rfl) (by decide) rfl (fun ls hl => ?_)
            refine lv_goto (tgt := 66) hx hb dX9_merge_108 (by decide) ?_
            exact ih66 v3 v4 x105 z104 _ _ _ hI (lv_sub hl [1, 2, 3, 0] rfl) h
          · replace h := if_t h c90
            refine lv_iload_n hx hb dX9_merge_93 rfl (lv_at hl 1 rfl) ?_
            refine lv_goto (tgt := 104) hx hb dX9_merge_94 (by decide) ?_
            have g104 := (gd_at h).1
            replace h := (gd_at h).2
            refine r_iast hC hI aM_20 g104 dX9_merge_104 (fun z104 H locs e104 hI => ?_)
            replace h := bnd_at h e104
            obtain ⟨x105, e105⟩ : ∃ y : Int32, y = (v5 + (1 : Int32)) := ⟨_, rfl⟩
            replace h := bnd_at h e105
            refine lv_iinc (v := x105) (lv' := [(5, .int x105), (0, .ref (ad 0)), (3, .int v3), (4, .int v4)]) hx hb dX9_merge_105 hl (k := 3) rfl (by rw [e105]; rfl) (by decide) rfl (fun ls hl => ?_)
            refine lv_goto (tgt := 66) hx hb dX9_merge_108 (by decide) ?_
            exact ih66 v3 v4 x105 z104 _ _ _ hI (lv_sub hl [1, 2, 3, 0] rfl) h
    exact w66 FU v3 y0 (0 : Int32) z _ _ _ hI (lv_sub hl [2, 3, 1, 0] rfl) h
  have w30 : ∀ (v1 : Int32) (v2 : Int32) (y0 : Int32) (z : fS) (H : Heap) (locs : List Loc) (ls : Array Slot), fI D 31 ad (cfM ad cy cz) z s H locs → lv_has ls 6 [(0, .ref (ad 0)), (1, .int v1), (2, .int v2)] → jX9_merge_30   v1 v2 y0 z = some τ → W p l e rmX9_merge s m args below meth c H locs 0 0 Q (F0 m 30 ls [.int y0]) := by
    intro v1 v2 y0 z H locs ls hI hl h
    unfold jX9_merge_30 at h
    refine lv_istore_n (lv' := [(3, .int y0), (0, .ref (ad 0)), (1, .int v1), (2, .int v2)]) hx hb dX9_merge_30 rfl hl (by decide) rfl (fun ls hl => ?_)
    refine lv_aload_n hx hb dX9_merge_31 rfl (lv_at hl 1 rfl) ?_
    refine gX9_one hC hI tw_882 dX9_merge_32 ?_
    refine lv_iload_n hx hb dX9_merge_35 rfl (lv_at hl 2 rfl) ?_
    have g36 := (gd_at h).1
    replace h := (gd_at h).2
    refine r_iald hC hI aM_20 g36 dX9_merge_36 ?_
    refine lv_aload_n hx hb dX9_merge_37 rfl (lv_at hl 1 rfl) ?_
    refine gX9_one hC hI tw_882 dX9_merge_38 ?_
    refine lv_iload_n hx hb dX9_merge_41 rfl (lv_at hl 3 rfl) ?_
    have g42 := (gd_at h).1
    replace h := (gd_at h).2
    refine r_iald hC hI aM_20 g42 dX9_merge_42 ?_
    refine lv_icmp_ge (tgt := 55) hx hb dX9_merge_43 (by decide) (fun c43 => ?_) (fun c43 => ?_)
    · replace h := if_t h c43
      refine lv_aload_n hx hb dX9_merge_55 rfl (lv_at hl 1 rfl) ?_
      refine gX9_one hC hI tw_882 dX9_merge_56 ?_
      refine lv_iload_n hx hb dX9_merge_59 rfl (lv_at hl 2 rfl) ?_
      have g60 := (gd_at h).1
      replace h := (gd_at h).2
      refine r_iald hC hI aM_20 g60 dX9_merge_60 ?_
      exact w61 y0 (rd z 20 v1) z _ _ _ hI (lv_sub hl [1, 0] rfl) h
    · replace h := if_f h c43
      refine lv_aload_n hx hb dX9_merge_46 rfl (lv_at hl 1 rfl) ?_
      refine gX9_one hC hI tw_882 dX9_merge_47 ?_
      refine lv_iload_n hx hb dX9_merge_50 rfl (lv_at hl 3 rfl) ?_
      have g51 := (gd_at h).1
      replace h := (gd_at h).2
      refine r_iald hC hI aM_20 g51 dX9_merge_51 ?_
      refine lv_goto (tgt := 61) hx hb dX9_merge_52 (by decide) ?_
      exact w61 y0 (rd z 20 v2) z _ _ _ hI (lv_sub hl [1, 0] rfl) h
  refine lv_aload_n hx hb dX9_merge_0 rfl (lv_at hl 0 rfl) ?_
  refine gX9_one hC hI tw_882 dX9_merge_1 ?_
  refine lv_iload_n hx hb dX9_merge_4 rfl (lv_at hl 1 rfl) ?_
  have g5 := (gd_at h).1
  replace h := (gd_at h).2
  refine r_iald hC hI aM_20 g5 dX9_merge_5 ?_
  refine lv_aload_n hx hb dX9_merge_6 rfl (lv_at hl 0 rfl) ?_
  refine gX9_one hC hI tw_882 dX9_merge_7 ?_
  refine lv_iload_n hx hb dX9_merge_10 rfl (lv_at hl 2 rfl) ?_
  have g11 := (gd_at h).1
  replace h := (gd_at h).2
  refine r_iald hC hI aM_20 g11 dX9_merge_11 ?_
  refine lv_icmp_ge (tgt := 24) hx hb dX9_merge_12 (by decide) (fun c12 => ?_) (fun c12 => ?_)
  · replace h := if_t h c12
    refine lv_aload_n hx hb dX9_merge_24 rfl (lv_at hl 0 rfl) ?_
    refine gX9_one hC hI tw_882 dX9_merge_25 ?_
    refine lv_iload_n hx hb dX9_merge_28 rfl (lv_at hl 2 rfl) ?_
    have g29 := (gd_at h).1
    replace h := (gd_at h).2
    refine r_iald hC hI aM_20 g29 dX9_merge_29 ?_
    exact w30 v1 v2 (rd z 20 v2) z _ _ _ hI hl h
  · replace h := if_f h c12
    refine lv_aload_n hx hb dX9_merge_15 rfl (lv_at hl 0 rfl) ?_
    refine gX9_one hC hI tw_882 dX9_merge_16 ?_
    refine lv_iload_n hx hb dX9_merge_19 rfl (lv_at hl 1 rfl) ?_
    have g20 := (gd_at h).1
    replace h := (gd_at h).2
    refine r_iald hC hI aM_20 g20 dX9_merge_20 ?_
    refine lv_goto (tgt := 30) hx hb dX9_merge_21 (by decide) ?_
    exact w30 v1 v2 (rd z 20 v1) z _ _ _ hI hl h
theorem dX9_isPart_0 : decode cX9_isPart 0 = .ok (.aload_n 0, 1) := by decide +kernel
theorem dX9_isPart_1 : decode cX9_isPart 1 = .ok (.getfield 72, 3) := by decide +kernel
theorem dX9_isPart_4 : decode cX9_isPart 4 = .ok (.aload_n 0, 1) := by decide +kernel
theorem dX9_isPart_5 : decode cX9_isPart 5 = .ok (.getfield 19, 3) := by decide +kernel
theorem dX9_isPart_8 : decode cX9_isPart 8 = .ok (.iconst 3, 1) := by decide +kernel
theorem dX9_isPart_9 : decode cX9_isPart 9 = .ok (.iload_n 1, 1) := by decide +kernel
theorem dX9_isPart_10 : decode cX9_isPart 10 = .ok (.imul, 1) := by decide +kernel
theorem dX9_isPart_11 : decode cX9_isPart 11 = .ok (.iload_n 2, 1) := by decide +kernel
theorem dX9_isPart_12 : decode cX9_isPart 12 = .ok (.iadd, 1) := by decide +kernel
theorem dX9_isPart_13 : decode cX9_isPart 13 = .ok (.iaload, 1) := by decide +kernel
theorem dX9_isPart_14 : decode cX9_isPart 14 = .ok (.iaload, 1) := by decide +kernel
theorem dX9_isPart_15 : decode cX9_isPart 15 = .ok (.aload_n 0, 1) := by decide +kernel
theorem dX9_isPart_16 : decode cX9_isPart 16 = .ok (.getfield 72, 3) := by decide +kernel
theorem dX9_isPart_19 : decode cX9_isPart 19 = .ok (.aload_n 0, 1) := by decide +kernel
theorem dX9_isPart_20 : decode cX9_isPart 20 = .ok (.getfield 19, 3) := by decide +kernel
theorem dX9_isPart_23 : decode cX9_isPart 23 = .ok (.iconst 3, 1) := by decide +kernel
theorem dX9_isPart_24 : decode cX9_isPart 24 = .ok (.iload_n 3, 1) := by decide +kernel
theorem dX9_isPart_25 : decode cX9_isPart 25 = .ok (.imul, 1) := by decide +kernel
theorem dX9_isPart_26 : decode cX9_isPart 26 = .ok (.iload 4, 2) := by decide +kernel
theorem dX9_isPart_28 : decode cX9_isPart 28 = .ok (.iadd, 1) := by decide +kernel
theorem dX9_isPart_29 : decode cX9_isPart 29 = .ok (.iaload, 1) := by decide +kernel
theorem dX9_isPart_30 : decode cX9_isPart 30 = .ok (.iaload, 1) := by decide +kernel
theorem dX9_isPart_31 : decode cX9_isPart 31 = .ok (.if_icmp .ne 7, 3) := by decide +kernel
theorem dX9_isPart_34 : decode cX9_isPart 34 = .ok (.iconst 1, 1) := by decide +kernel
theorem dX9_isPart_35 : decode cX9_isPart 35 = .ok (.goto 4, 3) := by decide +kernel
theorem dX9_isPart_38 : decode cX9_isPart 38 = .ok (.iconst 0, 1) := by decide +kernel
theorem dX9_isPart_39 : decode cX9_isPart 39 = .ok (.ireturn, 1) := by decide +kernel
abbrev rmX9_isPart : Room := { frames := 0, cells := 0, slots := 0, locals := 0 }
theorem ywX9_isPart : fY yX9_isPart "EqualCourtModel" cX9_isPart 5 (some .boolean) 4 := ⟨tw_1075, tp_41, tw_11, tw_1076, by decide +kernel⟩
set_option maxHeartbeats 4000000 in
set_option maxRecDepth 100000 in
theorem cX9_isPart_ok {D : va_G} {ad : Nat → Nat} {cy cz : ClassId} {l : Launch} {z : fS} {v1 : Int32} {v2 : Int32} {v3 : Int32} {v4 : Int32} {r : Int32} (h : fX9_isPart z v1 v2 v3 v4 = some r) : fMi D 31 ad (cfM ad cy cz) cy cz l yX9_isPart cX9_isPart 5 (some .boolean) rmX9_isPart [.ref (ad 0), .int v1, .int v2, .int v3, .int v4] z r z := by
  refine f_bodyz (by decide) (Nat.le_of_ble_eq_true rfl) (fun p e s m args below meth c Q hC hret ls hl hI => ?_)
  have hx := hC.1
  have hb := hC.2.1
  have hl : lv_has ls 5 [(0, .ref (ad 0)), (1, .int v1), (2, .int v2), (3, .int v3), (4, .int v4)] := hl
  unfold fX9_isPart at h
  refine lv_aload_n hx hb dX9_isPart_0 rfl (lv_at hl 0 rfl) ?_
  refine gX9_one hC hI tw_882 dX9_isPart_1 ?_
  refine lv_aload_n hx hb dX9_isPart_4 rfl (lv_at hl 0 rfl) ?_
  refine gX9_partOf hC hI tw_857 dX9_isPart_5 ?_
  refine lv_iconst (v := 3) hx hb dX9_isPart_8 (by decide) ?_
  refine lv_iload_n hx hb dX9_isPart_9 rfl (lv_at hl 1 rfl) ?_
  refine lv_imul hx hb dX9_isPart_10 ?_
  refine lv_iload_n hx hb dX9_isPart_11 rfl (lv_at hl 2 rfl) ?_
  refine lv_iadd hx hb dX9_isPart_12 ?_
  have g13 := (gd_at h).1
  replace h := (gd_at h).2
  refine r_iald hC hI aM_4 g13 dX9_isPart_13 ?_
  have g14 := (gd_at h).1
  replace h := (gd_at h).2
  refine r_iald hC hI aM_20 g14 dX9_isPart_14 ?_
  refine lv_aload_n hx hb dX9_isPart_15 rfl (lv_at hl 0 rfl) ?_
  refine gX9_one hC hI tw_882 dX9_isPart_16 ?_
  refine lv_aload_n hx hb dX9_isPart_19 rfl (lv_at hl 0 rfl) ?_
  refine gX9_partOf hC hI tw_857 dX9_isPart_20 ?_
  refine lv_iconst (v := 3) hx hb dX9_isPart_23 (by decide) ?_
  refine lv_iload_n hx hb dX9_isPart_24 rfl (lv_at hl 3 rfl) ?_
  refine lv_imul hx hb dX9_isPart_25 ?_
  refine lv_iload hx hb dX9_isPart_26 (lv_at hl 4 rfl) ?_
  refine lv_iadd hx hb dX9_isPart_28 ?_
  have g29 := (gd_at h).1
  replace h := (gd_at h).2
  refine r_iald hC hI aM_4 g29 dX9_isPart_29 ?_
  have g30 := (gd_at h).1
  replace h := (gd_at h).2
  refine r_iald hC hI aM_20 g30 dX9_isPart_30 ?_
  refine lv_icmp_ne (tgt := 38) hx hb dX9_isPart_31 (by decide) (fun c31 => ?_) (fun c31 => ?_)
  · replace h := if_f h c31
    refine lv_iconst (v := 0) hx hb dX9_isPart_38 (by decide) ?_
    exact hret (ret_p _ h) (by decide) dX9_isPart_39 hI
  · replace h := if_t h c31
    refine lv_iconst (v := 1) hx hb dX9_isPart_34 (by decide) ?_
    refine lv_goto (tgt := 39) hx hb dX9_isPart_35 (by decide) ?_
    exact hret (ret_p _ h) (by decide) dX9_isPart_39 hI
theorem dX9_isByParts_0 : decode cX9_isByParts 0 = .ok (.aload_n 0, 1) := by decide +kernel
theorem dX9_isByParts_1 : decode cX9_isByParts 1 = .ok (.getfield 16, 3) := by decide +kernel
theorem dX9_isByParts_4 : decode cX9_isByParts 4 = .ok (.iload_n 1, 1) := by decide +kernel
theorem dX9_isByParts_5 : decode cX9_isByParts 5 = .ok (.iaload, 1) := by decide +kernel
theorem dX9_isByParts_6 : decode cX9_isByParts 6 = .ok (.ifCond .eq 48, 3) := by decide +kernel
theorem dX9_isByParts_9 : decode cX9_isByParts 9 = .ok (.aload_n 0, 1) := by decide +kernel
theorem dX9_isByParts_10 : decode cX9_isByParts 10 = .ok (.getfield 7, 3) := by decide +kernel
theorem dX9_isByParts_13 : decode cX9_isByParts 13 = .ok (.iload_n 1, 1) := by decide +kernel
theorem dX9_isByParts_14 : decode cX9_isByParts 14 = .ok (.iaload, 1) := by decide +kernel
theorem dX9_isByParts_15 : decode cX9_isByParts 15 = .ok (.aload_n 0, 1) := by decide +kernel
theorem dX9_isByParts_16 : decode cX9_isByParts 16 = .ok (.getfield 7, 3) := by decide +kernel
theorem dX9_isByParts_19 : decode cX9_isByParts 19 = .ok (.iload_n 2, 1) := by decide +kernel
theorem dX9_isByParts_20 : decode cX9_isByParts 20 = .ok (.iaload, 1) := by decide +kernel
theorem dX9_isByParts_21 : decode cX9_isByParts 21 = .ok (.if_icmp .ne 33, 3) := by decide +kernel
theorem dX9_isByParts_24 : decode cX9_isByParts 24 = .ok (.aload_n 0, 1) := by decide +kernel
theorem dX9_isByParts_25 : decode cX9_isByParts 25 = .ok (.getfield 13, 3) := by decide +kernel
theorem dX9_isByParts_28 : decode cX9_isByParts 28 = .ok (.iload_n 1, 1) := by decide +kernel
theorem dX9_isByParts_29 : decode cX9_isByParts 29 = .ok (.iaload, 1) := by decide +kernel
theorem dX9_isByParts_30 : decode cX9_isByParts 30 = .ok (.aload_n 0, 1) := by decide +kernel
theorem dX9_isByParts_31 : decode cX9_isByParts 31 = .ok (.getfield 13, 3) := by decide +kernel
theorem dX9_isByParts_34 : decode cX9_isByParts 34 = .ok (.iload_n 2, 1) := by decide +kernel
theorem dX9_isByParts_35 : decode cX9_isByParts 35 = .ok (.iaload, 1) := by decide +kernel
theorem dX9_isByParts_36 : decode cX9_isByParts 36 = .ok (.if_icmp .ne 18, 3) := by decide +kernel
theorem dX9_isByParts_39 : decode cX9_isByParts 39 = .ok (.aload_n 0, 1) := by decide +kernel
theorem dX9_isByParts_40 : decode cX9_isByParts 40 = .ok (.getfield 16, 3) := by decide +kernel
theorem dX9_isByParts_43 : decode cX9_isByParts 43 = .ok (.iload_n 1, 1) := by decide +kernel
theorem dX9_isByParts_44 : decode cX9_isByParts 44 = .ok (.iaload, 1) := by decide +kernel
theorem dX9_isByParts_45 : decode cX9_isByParts 45 = .ok (.aload_n 0, 1) := by decide +kernel
theorem dX9_isByParts_46 : decode cX9_isByParts 46 = .ok (.getfield 16, 3) := by decide +kernel
theorem dX9_isByParts_49 : decode cX9_isByParts 49 = .ok (.iload_n 2, 1) := by decide +kernel
theorem dX9_isByParts_50 : decode cX9_isByParts 50 = .ok (.iaload, 1) := by decide +kernel
theorem dX9_isByParts_51 : decode cX9_isByParts 51 = .ok (.if_icmp .eq 5, 3) := by decide +kernel
theorem dX9_isByParts_54 : decode cX9_isByParts 54 = .ok (.iconst 0, 1) := by decide +kernel
theorem dX9_isByParts_55 : decode cX9_isByParts 55 = .ok (.ireturn, 1) := by decide +kernel
theorem dX9_isByParts_56 : decode cX9_isByParts 56 = .ok (.iconst 1, 1) := by decide +kernel
theorem dX9_isByParts_57 : decode cX9_isByParts 57 = .ok (.istore_n 3, 1) := by decide +kernel
theorem dX9_isByParts_58 : decode cX9_isByParts 58 = .ok (.iconst 0, 1) := by decide +kernel
theorem dX9_isByParts_59 : decode cX9_isByParts 59 = .ok (.istore 4, 2) := by decide +kernel
theorem dX9_isByParts_61 : decode cX9_isByParts 61 = .ok (.iload 4, 2) := by decide +kernel
theorem dX9_isByParts_63 : decode cX9_isByParts 63 = .ok (.aload_n 0, 1) := by decide +kernel
theorem dX9_isByParts_64 : decode cX9_isByParts 64 = .ok (.getfield 16, 3) := by decide +kernel
theorem dX9_isByParts_67 : decode cX9_isByParts 67 = .ok (.iload_n 1, 1) := by decide +kernel
theorem dX9_isByParts_68 : decode cX9_isByParts 68 = .ok (.iaload, 1) := by decide +kernel
theorem dX9_isByParts_69 : decode cX9_isByParts 69 = .ok (.if_icmp .ge 24, 3) := by decide +kernel
theorem dX9_isByParts_72 : decode cX9_isByParts 72 = .ok (.iload_n 3, 1) := by decide +kernel
theorem dX9_isByParts_73 : decode cX9_isByParts 73 = .ok (.ifCond .eq 20, 3) := by decide +kernel
theorem dX9_isByParts_76 : decode cX9_isByParts 76 = .ok (.aload_n 0, 1) := by decide +kernel
theorem dX9_isByParts_77 : decode cX9_isByParts 77 = .ok (.iload_n 1, 1) := by decide +kernel
theorem dX9_isByParts_78 : decode cX9_isByParts 78 = .ok (.iload 4, 2) := by decide +kernel
theorem dX9_isByParts_80 : decode cX9_isByParts 80 = .ok (.iload_n 2, 1) := by decide +kernel
theorem dX9_isByParts_81 : decode cX9_isByParts 81 = .ok (.iload 4, 2) := by decide +kernel
theorem dX9_isByParts_83 : decode cX9_isByParts 83 = .ok (.invokevirtual 136, 3) := by decide +kernel
theorem dX9_isByParts_86 : decode cX9_isByParts 86 = .ok (.istore_n 3, 1) := by decide +kernel
theorem dX9_isByParts_87 : decode cX9_isByParts 87 = .ok (.iinc 4 1, 3) := by decide +kernel
theorem dX9_isByParts_90 : decode cX9_isByParts 90 = .ok (.goto (-29), 3) := by decide +kernel
theorem dX9_isByParts_93 : decode cX9_isByParts 93 = .ok (.iload_n 3, 1) := by decide +kernel
theorem dX9_isByParts_94 : decode cX9_isByParts 94 = .ok (.ifCond .ne 35, 3) := by decide +kernel
theorem dX9_isByParts_97 : decode cX9_isByParts 97 = .ok (.aload_n 0, 1) := by decide +kernel
theorem dX9_isByParts_98 : decode cX9_isByParts 98 = .ok (.getfield 7, 3) := by decide +kernel
theorem dX9_isByParts_101 : decode cX9_isByParts 101 = .ok (.iload_n 1, 1) := by decide +kernel
theorem dX9_isByParts_102 : decode cX9_isByParts 102 = .ok (.iaload, 1) := by decide +kernel
theorem dX9_isByParts_103 : decode cX9_isByParts 103 = .ok (.iconst 4, 1) := by decide +kernel
theorem dX9_isByParts_104 : decode cX9_isByParts 104 = .ok (.if_icmp .ne 29, 3) := by decide +kernel
theorem dX9_isByParts_107 : decode cX9_isByParts 107 = .ok (.aload_n 0, 1) := by decide +kernel
theorem dX9_isByParts_108 : decode cX9_isByParts 108 = .ok (.iload_n 1, 1) := by decide +kernel
theorem dX9_isByParts_109 : decode cX9_isByParts 109 = .ok (.iconst 0, 1) := by decide +kernel
theorem dX9_isByParts_110 : decode cX9_isByParts 110 = .ok (.iload_n 2, 1) := by decide +kernel
theorem dX9_isByParts_111 : decode cX9_isByParts 111 = .ok (.iconst 1, 1) := by decide +kernel
theorem dX9_isByParts_112 : decode cX9_isByParts 112 = .ok (.invokevirtual 136, 3) := by decide +kernel
theorem dX9_isByParts_115 : decode cX9_isByParts 115 = .ok (.ifCond .eq 18, 3) := by decide +kernel
theorem dX9_isByParts_118 : decode cX9_isByParts 118 = .ok (.aload_n 0, 1) := by decide +kernel
theorem dX9_isByParts_119 : decode cX9_isByParts 119 = .ok (.iload_n 1, 1) := by decide +kernel
theorem dX9_isByParts_120 : decode cX9_isByParts 120 = .ok (.iconst 1, 1) := by decide +kernel
theorem dX9_isByParts_121 : decode cX9_isByParts 121 = .ok (.iload_n 2, 1) := by decide +kernel
theorem dX9_isByParts_122 : decode cX9_isByParts 122 = .ok (.iconst 0, 1) := by decide +kernel
theorem dX9_isByParts_123 : decode cX9_isByParts 123 = .ok (.invokevirtual 136, 3) := by decide +kernel
theorem dX9_isByParts_126 : decode cX9_isByParts 126 = .ok (.ifCond .eq 7, 3) := by decide +kernel
theorem dX9_isByParts_129 : decode cX9_isByParts 129 = .ok (.iconst 1, 1) := by decide +kernel
theorem dX9_isByParts_130 : decode cX9_isByParts 130 = .ok (.goto 4, 3) := by decide +kernel
theorem dX9_isByParts_133 : decode cX9_isByParts 133 = .ok (.iconst 0, 1) := by decide +kernel
theorem dX9_isByParts_134 : decode cX9_isByParts 134 = .ok (.ireturn, 1) := by decide +kernel
abbrev rmX9_isByParts : Room := { frames := 1, cells := 0, slots := 0, locals := 24 }
theorem ywX9_isByParts : fY yX9_isByParts "EqualCourtModel" cX9_isByParts 5 (some .boolean) 2 := ⟨tw_1071, tp_40, tw_11, tw_1072, by decide +kernel⟩
set_option maxHeartbeats 4000000 in
set_option maxRecDepth 100000 in
theorem cX9_isByParts_ok {D : va_G} {ad : Nat → Nat} {cy cz : ClassId} {l : Launch} {z : fS} {v1 : Int32} {v2 : Int32} {r : Int32} (h : fX9_isByParts z v1 v2 = some r) : fMi D 31 ad (cfM ad cy cz) cy cz l yX9_isByParts cX9_isByParts 5 (some .boolean) rmX9_isByParts [.ref (ad 0), .int v1, .int v2] z r z := by
  refine f_bodyz (by decide) (Nat.le_of_ble_eq_true rfl) (fun p e s m args below meth c Q hC hret ls hl hI => ?_)
  have hx := hC.1
  have hb := hC.2.1
  have hl : lv_has ls 5 [(0, .ref (ad 0)), (1, .int v1), (2, .int v2)] := hl
  unfold fX9_isByParts at h
  have w93 : ∀ (v1 : Int32) (v2 : Int32) (v3 : Int32) (H : Heap) (locs : List Loc) (ls : Array Slot), fI D 31 ad (cfM ad cy cz) z s H locs → lv_has ls 5 [(0, .ref (ad 0)), (1, .int v1), (2, .int v2), (3, .int v3)] → jX9_isByParts_93   z v1 v2 v3 = some r → W p l e rmX9_isByParts s m args below meth c H locs 0 0 Q (F0 m 93 ls []) := by
    intro v1 v2 v3 H locs ls hI hl h
    unfold jX9_isByParts_93 at h
    refine lv_iload_n hx hb dX9_isByParts_93 rfl (lv_at hl 3 rfl) ?_
    refine lv_if_ne (tgt := 129) hx hb dX9_isByParts_94 (by decide) (fun c94 => ?_) (fun c94 => ?_)
    · replace h := if_f h c94
      refine lv_iconst (v := 1) hx hb dX9_isByParts_129 (by decide) ?_
      refine lv_goto (tgt := 134) hx hb dX9_isByParts_130 (by decide) ?_
      exact hret (ret_p _ h) (by decide) dX9_isByParts_134 hI
    · replace h := if_t h c94
      refine lv_aload_n hx hb dX9_isByParts_97 rfl (lv_at hl 0 rfl) ?_
      refine gX9_kindOf hC hI tw_854 dX9_isByParts_98 ?_
      refine lv_iload_n hx hb dX9_isByParts_101 rfl (lv_at hl 1 rfl) ?_
      have g102 := (gd_at h).1
      replace h := (gd_at h).2
      refine r_iald hC hI aM_1 g102 dX9_isByParts_102 ?_
      refine lv_iconst (v := 4) hx hb dX9_isByParts_103 (by decide) ?_
      refine lv_icmp_ne (tgt := 133) hx hb dX9_isByParts_104 (by decide) (fun c104 => ?_) (fun c104 => ?_)
      · replace h := if_f h c104
        refine lv_iconst (v := 0) hx hb dX9_isByParts_133 (by decide) ?_
        exact hret (ret_p _ h) (by decide) dX9_isByParts_134 hI
      · replace h := if_t h c104
        refine lv_aload_n hx hb dX9_isByParts_107 rfl (lv_at hl 0 rfl) ?_
        refine lv_iload_n hx hb dX9_isByParts_108 rfl (lv_at hl 1 rfl) ?_
        refine lv_iconst (v := 0) hx hb dX9_isByParts_109 (by decide) ?_
        refine lv_iload_n hx hb dX9_isByParts_110 rfl (lv_at hl 2 rfl) ?_
        refine lv_iconst (v := 1) hx hb dX9_isByParts_111 (by decide) ?_
        replace h := bp_at h
        obtain ⟨r112, e112, h⟩ := h
        refine r_calli (rest := []) hC hI oM_0 (C := "EqualCourtModel") rfl ywX9_isPart tw_1073 (cX9_isPart_ok  e112) ⟨Nat.le_of_ble_eq_true rfl, Nat.le_of_ble_eq_true rfl⟩ ⟨rfl, rfl⟩ rfl hl.1 rfl (Nat.le_of_ble_eq_true rfl) dX9_isByParts_112 (fun H locs hI => ?_)
        refine lv_if_eq (tgt := 133) hx hb dX9_isByParts_115 (by decide) (fun c115 => ?_) (fun c115 => ?_)
        · replace h := if_t h c115
          refine lv_iconst (v := 0) hx hb dX9_isByParts_133 (by decide) ?_
          exact hret (ret_p _ h) (by decide) dX9_isByParts_134 hI
        · replace h := if_f h c115
          refine lv_aload_n hx hb dX9_isByParts_118 rfl (lv_at hl 0 rfl) ?_
          refine lv_iload_n hx hb dX9_isByParts_119 rfl (lv_at hl 1 rfl) ?_
          refine lv_iconst (v := 1) hx hb dX9_isByParts_120 (by decide) ?_
          refine lv_iload_n hx hb dX9_isByParts_121 rfl (lv_at hl 2 rfl) ?_
          refine lv_iconst (v := 0) hx hb dX9_isByParts_122 (by decide) ?_
          replace h := bp_at h
          obtain ⟨r123, e123, h⟩ := h
          refine r_calli (rest := []) hC hI oM_0 (C := "EqualCourtModel") rfl ywX9_isPart tw_1073 (cX9_isPart_ok  e123) ⟨Nat.le_of_ble_eq_true rfl, Nat.le_of_ble_eq_true rfl⟩ ⟨rfl, rfl⟩ rfl hl.1 rfl (Nat.le_of_ble_eq_true rfl) dX9_isByParts_123 (fun H locs hI => ?_)
          refine lv_if_eq (tgt := 133) hx hb dX9_isByParts_126 (by decide) (fun c126 => ?_) (fun c126 => ?_)
          · replace h := if_t h c126
            refine lv_iconst (v := 0) hx hb dX9_isByParts_133 (by decide) ?_
            exact hret (ret_p _ h) (by decide) dX9_isByParts_134 hI
          · replace h := if_f h c126
            refine lv_iconst (v := 1) hx hb dX9_isByParts_129 (by decide) ?_
            refine lv_goto (tgt := 134) hx hb dX9_isByParts_130 (by decide) ?_
            exact hret (ret_p _ h) (by decide) dX9_isByParts_134 hI
  refine lv_aload_n hx hb dX9_isByParts_0 rfl (lv_at hl 0 rfl) ?_
  refine gX9_partMany hC hI tw_856 dX9_isByParts_1 ?_
  refine lv_iload_n hx hb dX9_isByParts_4 rfl (lv_at hl 1 rfl) ?_
  have g5 := (gd_at h).1
  replace h := (gd_at h).2
  refine r_iald hC hI aM_3 g5 dX9_isByParts_5 ?_
  refine lv_if_eq (tgt := 54) hx hb dX9_isByParts_6 (by decide) (fun c6 => ?_) (fun c6 => ?_)
  · replace h := if_t h c6
    refine lv_iconst (v := 0) hx hb dX9_isByParts_54 (by decide) ?_
    exact hret (ret_p _ h) (by decide) dX9_isByParts_55 hI
  · replace h := if_f h c6
    refine lv_aload_n hx hb dX9_isByParts_9 rfl (lv_at hl 0 rfl) ?_
    refine gX9_kindOf hC hI tw_854 dX9_isByParts_10 ?_
    refine lv_iload_n hx hb dX9_isByParts_13 rfl (lv_at hl 1 rfl) ?_
    have g14 := (gd_at h).1
    replace h := (gd_at h).2
    refine r_iald hC hI aM_1 g14 dX9_isByParts_14 ?_
    refine lv_aload_n hx hb dX9_isByParts_15 rfl (lv_at hl 0 rfl) ?_
    refine gX9_kindOf hC hI tw_854 dX9_isByParts_16 ?_
    refine lv_iload_n hx hb dX9_isByParts_19 rfl (lv_at hl 2 rfl) ?_
    have g20 := (gd_at h).1
    replace h := (gd_at h).2
    refine r_iald hC hI aM_1 g20 dX9_isByParts_20 ?_
    refine lv_icmp_ne (tgt := 54) hx hb dX9_isByParts_21 (by decide) (fun c21 => ?_) (fun c21 => ?_)
    · replace h := if_f h c21
      refine lv_iconst (v := 0) hx hb dX9_isByParts_54 (by decide) ?_
      exact hret (ret_p _ h) (by decide) dX9_isByParts_55 hI
    · replace h := if_t h c21
      refine lv_aload_n hx hb dX9_isByParts_24 rfl (lv_at hl 0 rfl) ?_
      refine gX9_shown hC hI tw_855 dX9_isByParts_25 ?_
      refine lv_iload_n hx hb dX9_isByParts_28 rfl (lv_at hl 1 rfl) ?_
      have g29 := (gd_at h).1
      replace h := (gd_at h).2
      refine r_iald hC hI aM_2 g29 dX9_isByParts_29 ?_
      refine lv_aload_n hx hb dX9_isByParts_30 rfl (lv_at hl 0 rfl) ?_
      refine gX9_shown hC hI tw_855 dX9_isByParts_31 ?_
      refine lv_iload_n hx hb dX9_isByParts_34 rfl (lv_at hl 2 rfl) ?_
      have g35 := (gd_at h).1
      replace h := (gd_at h).2
      refine r_iald hC hI aM_2 g35 dX9_isByParts_35 ?_
      refine lv_icmp_ne (tgt := 54) hx hb dX9_isByParts_36 (by decide) (fun c36 => ?_) (fun c36 => ?_)
      · replace h := if_f h c36
        refine lv_iconst (v := 0) hx hb dX9_isByParts_54 (by decide) ?_
        exact hret (ret_p _ h) (by decide) dX9_isByParts_55 hI
      · replace h := if_t h c36
        refine lv_aload_n hx hb dX9_isByParts_39 rfl (lv_at hl 0 rfl) ?_
        refine gX9_partMany hC hI tw_856 dX9_isByParts_40 ?_
        refine lv_iload_n hx hb dX9_isByParts_43 rfl (lv_at hl 1 rfl) ?_
        have g44 := (gd_at h).1
        replace h := (gd_at h).2
        refine r_iald hC hI aM_3 g44 dX9_isByParts_44 ?_
        refine lv_aload_n hx hb dX9_isByParts_45 rfl (lv_at hl 0 rfl) ?_
        refine gX9_partMany hC hI tw_856 dX9_isByParts_46 ?_
        refine lv_iload_n hx hb dX9_isByParts_49 rfl (lv_at hl 2 rfl) ?_
        have g50 := (gd_at h).1
        replace h := (gd_at h).2
        refine r_iald hC hI aM_3 g50 dX9_isByParts_50 ?_
        refine lv_icmp_eq (tgt := 56) hx hb dX9_isByParts_51 (by decide) (fun c51 => ?_) (fun c51 => ?_)
        · replace h := if_t h c51
          refine lv_iconst (v := 1) hx hb dX9_isByParts_56 (by decide) ?_
          refine lv_istore_n (lv' := [(3, .int (1 : Int32)), (0, .ref (ad 0)), (1, .int v1), (2, .int v2)]) hx hb dX9_isByParts_57 rfl hl (by decide) rfl (fun ls hl => ?_)
          refine lv_iconst (v := 0) hx hb dX9_isByParts_58 (by decide) ?_
          refine lv_istore (lv' := [(4, .int (0 : Int32)), (3, .int (1 : Int32)), (0, .ref (ad 0)), (1, .int v1), (2, .int v2)]) hx hb dX9_isByParts_59 hl (by decide) rfl (fun ls hl => ?_)
          have w61 : ∀ (N61 : Nat) (v1 : Int32) (v2 : Int32) (v3 : Int32) (v4 : Int32) (H : Heap) (locs : List Loc) (ls : Array Slot), fI D 31 ad (cfM ad cy cz) z s H locs → lv_has ls 5 [(0, .ref (ad 0)), (1, .int v1), (2, .int v2), (3, .int v3), (4, .int v4)] → lX9_isByParts_61  (jX9_isByParts_93   z v1 v2) z v1 v2 N61 v3 v4 = some r → W p l e rmX9_isByParts s m args below meth c H locs 0 0 Q (F0 m 61 ls []) := by
            intro N61
            induction N61 with
            | zero =>
              intro v1 v2 v3 v4 H locs ls hI hl h
              exact none_no h
            | succ N61 ih61 =>
              intro v1 v2 v3 v4 H locs ls hI hl h
              rw [lX9_isByParts_61.eq_2] at h
              refine lv_iload hx hb dX9_isByParts_61 (lv_at hl 4 rfl) ?_
              refine lv_aload_n hx hb dX9_isByParts_63 rfl (lv_at hl 0 rfl) ?_
              refine gX9_partMany hC hI tw_856 dX9_isByParts_64 ?_
              refine lv_iload_n hx hb dX9_isByParts_67 rfl (lv_at hl 1 rfl) ?_
              have g68 := (gd_at h).1
              replace h := (gd_at h).2
              refine r_iald hC hI aM_3 g68 dX9_isByParts_68 ?_
              refine lv_icmp_ge (tgt := 93) hx hb dX9_isByParts_69 (by decide) (fun c69 => ?_) (fun c69 => ?_)
              · replace h := if_t h c69
                exact w93 v1 v2 v3 _ _ _ hI (lv_sub hl [0, 1, 2, 3] rfl) h
              · replace h := if_f h c69
                refine lv_iload_n hx hb dX9_isByParts_72 rfl (lv_at hl 3 rfl) ?_
                refine lv_if_eq (tgt := 93) hx hb dX9_isByParts_73 (by decide) (fun c73 => ?_) (fun c73 => ?_)
                · replace h := if_t h c73
                  exact w93 v1 v2 v3 _ _ _ hI (lv_sub hl [0, 1, 2, 3] rfl) h
                · replace h := if_f h c73
                  refine lv_aload_n hx hb dX9_isByParts_76 rfl (lv_at hl 0 rfl) ?_
                  refine lv_iload_n hx hb dX9_isByParts_77 rfl (lv_at hl 1 rfl) ?_
                  refine lv_iload hx hb dX9_isByParts_78 (lv_at hl 4 rfl) ?_
                  refine lv_iload_n hx hb dX9_isByParts_80 rfl (lv_at hl 2 rfl) ?_
                  refine lv_iload hx hb dX9_isByParts_81 (lv_at hl 4 rfl) ?_
                  replace h := bp_at h
                  obtain ⟨r83, e83, h⟩ := h
                  refine r_calli (rest := []) hC hI oM_0 (C := "EqualCourtModel") rfl ywX9_isPart tw_1073 (cX9_isPart_ok  e83) ⟨Nat.le_of_ble_eq_true rfl, Nat.le_of_ble_eq_true rfl⟩ ⟨rfl, rfl⟩ rfl hl.1 rfl (Nat.le_of_ble_eq_true rfl) dX9_isByParts_83 (fun H locs hI => ?_)
                  refine lv_istore_n (lv' := [(3, .int r83), (0, .ref (ad 0)), (1, .int v1), (2, .int v2), (4, .int v4)]) hx hb dX9_isByParts_86 rfl hl (by decide) rfl (fun ls hl => ?_)
                  obtain ⟨x87, e87⟩ : ∃ y : Int32, y = (v4 + (1 : Int32)) := ⟨_, rfl⟩
                  replace h := bnd_at h e87
                  refine lv_iinc (v := x87) (lv' := [(4, .int x87), (3, .int r83), (0, .ref (ad 0)), (1, .int v1), (2, .int v2)]) hx hb dX9_isByParts_87 hl (k := 4) rfl (by rw [e87]; rfl) (by decide) rfl (fun ls hl => ?_)
                  refine lv_goto (tgt := 61) hx hb dX9_isByParts_90 (by decide) ?_
                  exact ih61 v1 v2 r83 x87 _ _ _ hI (lv_sub hl [2, 3, 4, 1, 0] rfl) h
          exact w61 FU v1 v2 (1 : Int32) (0 : Int32) _ _ _ hI (lv_sub hl [2, 3, 4, 1, 0] rfl) h
        · replace h := if_f h c51
          refine lv_iconst (v := 0) hx hb dX9_isByParts_54 (by decide) ?_
          exact hret (ret_p _ h) (by decide) dX9_isByParts_55 hI
theorem dX9_looks_0 : decode cX9_looks 0 = .ok (.iconst 0, 1) := by decide +kernel
theorem dX9_looks_1 : decode cX9_looks 1 = .ok (.istore_n 1, 1) := by decide +kernel
theorem dX9_looks_2 : decode cX9_looks 2 = .ok (.iconst 0, 1) := by decide +kernel
theorem dX9_looks_3 : decode cX9_looks 3 = .ok (.istore_n 2, 1) := by decide +kernel
theorem dX9_looks_4 : decode cX9_looks 4 = .ok (.iload_n 2, 1) := by decide +kernel
theorem dX9_looks_5 : decode cX9_looks 5 = .ok (.aload_n 0, 1) := by decide +kernel
theorem dX9_looks_6 : decode cX9_looks 6 = .ok (.getfield 108, 3) := by decide +kernel
theorem dX9_looks_9 : decode cX9_looks 9 = .ok (.if_icmp .ge 145, 3) := by decide +kernel
theorem dX9_looks_12 : decode cX9_looks 12 = .ok (.iconst 0, 1) := by decide +kernel
theorem dX9_looks_13 : decode cX9_looks 13 = .ok (.istore_n 3, 1) := by decide +kernel
theorem dX9_looks_14 : decode cX9_looks 14 = .ok (.iload_n 3, 1) := by decide +kernel
theorem dX9_looks_15 : decode cX9_looks 15 = .ok (.iload_n 2, 1) := by decide +kernel
theorem dX9_looks_16 : decode cX9_looks 16 = .ok (.if_icmp .ge 132, 3) := by decide +kernel
theorem dX9_looks_19 : decode cX9_looks 19 = .ok (.aload_n 0, 1) := by decide +kernel
theorem dX9_looks_20 : decode cX9_looks 20 = .ok (.getfield 72, 3) := by decide +kernel
theorem dX9_looks_23 : decode cX9_looks 23 = .ok (.iload_n 2, 1) := by decide +kernel
theorem dX9_looks_24 : decode cX9_looks 24 = .ok (.iaload, 1) := by decide +kernel
theorem dX9_looks_25 : decode cX9_looks 25 = .ok (.aload_n 0, 1) := by decide +kernel
theorem dX9_looks_26 : decode cX9_looks 26 = .ok (.getfield 72, 3) := by decide +kernel
theorem dX9_looks_29 : decode cX9_looks 29 = .ok (.iload_n 3, 1) := by decide +kernel
theorem dX9_looks_30 : decode cX9_looks 30 = .ok (.iaload, 1) := by decide +kernel
theorem dX9_looks_31 : decode cX9_looks 31 = .ok (.if_icmp .eq 20, 3) := by decide +kernel
theorem dX9_looks_34 : decode cX9_looks 34 = .ok (.aload_n 0, 1) := by decide +kernel
theorem dX9_looks_35 : decode cX9_looks 35 = .ok (.iload_n 2, 1) := by decide +kernel
theorem dX9_looks_36 : decode cX9_looks 36 = .ok (.iload_n 3, 1) := by decide +kernel
theorem dX9_looks_37 : decode cX9_looks 37 = .ok (.invokevirtual 140, 3) := by decide +kernel
theorem dX9_looks_40 : decode cX9_looks 40 = .ok (.ifCond .eq 11, 3) := by decide +kernel
theorem dX9_looks_43 : decode cX9_looks 43 = .ok (.aload_n 0, 1) := by decide +kernel
theorem dX9_looks_44 : decode cX9_looks 44 = .ok (.iload_n 2, 1) := by decide +kernel
theorem dX9_looks_45 : decode cX9_looks 45 = .ok (.iload_n 3, 1) := by decide +kernel
theorem dX9_looks_46 : decode cX9_looks 46 = .ok (.invokevirtual 144, 3) := by decide +kernel
theorem dX9_looks_49 : decode cX9_looks 49 = .ok (.iconst 1, 1) := by decide +kernel
theorem dX9_looks_50 : decode cX9_looks 50 = .ok (.istore_n 1, 1) := by decide +kernel
theorem dX9_looks_51 : decode cX9_looks 51 = .ok (.aload_n 0, 1) := by decide +kernel
theorem dX9_looks_52 : decode cX9_looks 52 = .ok (.getfield 72, 3) := by decide +kernel
theorem dX9_looks_55 : decode cX9_looks 55 = .ok (.iload_n 2, 1) := by decide +kernel
theorem dX9_looks_56 : decode cX9_looks 56 = .ok (.iaload, 1) := by decide +kernel
theorem dX9_looks_57 : decode cX9_looks 57 = .ok (.aload_n 0, 1) := by decide +kernel
theorem dX9_looks_58 : decode cX9_looks 58 = .ok (.getfield 72, 3) := by decide +kernel
theorem dX9_looks_61 : decode cX9_looks 61 = .ok (.iload_n 3, 1) := by decide +kernel
theorem dX9_looks_62 : decode cX9_looks 62 = .ok (.iaload, 1) := by decide +kernel
theorem dX9_looks_63 : decode cX9_looks 63 = .ok (.if_icmp .ne 79, 3) := by decide +kernel
theorem dX9_looks_66 : decode cX9_looks 66 = .ok (.aload_n 0, 1) := by decide +kernel
theorem dX9_looks_67 : decode cX9_looks 67 = .ok (.getfield 7, 3) := by decide +kernel
theorem dX9_looks_70 : decode cX9_looks 70 = .ok (.iload_n 2, 1) := by decide +kernel
theorem dX9_looks_71 : decode cX9_looks 71 = .ok (.iaload, 1) := by decide +kernel
theorem dX9_looks_72 : decode cX9_looks 72 = .ok (.iconst 3, 1) := by decide +kernel
theorem dX9_looks_73 : decode cX9_looks 73 = .ok (.if_icmp .ne 69, 3) := by decide +kernel
theorem dX9_looks_76 : decode cX9_looks 76 = .ok (.aload_n 0, 1) := by decide +kernel
theorem dX9_looks_77 : decode cX9_looks 77 = .ok (.getfield 7, 3) := by decide +kernel
theorem dX9_looks_80 : decode cX9_looks 80 = .ok (.iload_n 3, 1) := by decide +kernel
theorem dX9_looks_81 : decode cX9_looks 81 = .ok (.iaload, 1) := by decide +kernel
theorem dX9_looks_82 : decode cX9_looks 82 = .ok (.iconst 3, 1) := by decide +kernel
theorem dX9_looks_83 : decode cX9_looks 83 = .ok (.if_icmp .ne 59, 3) := by decide +kernel
theorem dX9_looks_86 : decode cX9_looks 86 = .ok (.iconst 0, 1) := by decide +kernel
theorem dX9_looks_87 : decode cX9_looks 87 = .ok (.istore 4, 2) := by decide +kernel
theorem dX9_looks_89 : decode cX9_looks 89 = .ok (.iload 4, 2) := by decide +kernel
theorem dX9_looks_91 : decode cX9_looks 91 = .ok (.iconst 2, 1) := by decide +kernel
theorem dX9_looks_92 : decode cX9_looks 92 = .ok (.if_icmp .ge 50, 3) := by decide +kernel
theorem dX9_looks_95 : decode cX9_looks 95 = .ok (.aload_n 0, 1) := by decide +kernel
theorem dX9_looks_96 : decode cX9_looks 96 = .ok (.iload_n 2, 1) := by decide +kernel
theorem dX9_looks_97 : decode cX9_looks 97 = .ok (.iload 4, 2) := by decide +kernel
theorem dX9_looks_99 : decode cX9_looks 99 = .ok (.iload_n 3, 1) := by decide +kernel
theorem dX9_looks_100 : decode cX9_looks 100 = .ok (.iload 4, 2) := by decide +kernel
theorem dX9_looks_102 : decode cX9_looks 102 = .ok (.invokevirtual 136, 3) := by decide +kernel
theorem dX9_looks_105 : decode cX9_looks 105 = .ok (.ifCond .ne 31, 3) := by decide +kernel
theorem dX9_looks_108 : decode cX9_looks 108 = .ok (.aload_n 0, 1) := by decide +kernel
theorem dX9_looks_109 : decode cX9_looks 109 = .ok (.aload_n 0, 1) := by decide +kernel
theorem dX9_looks_110 : decode cX9_looks 110 = .ok (.getfield 19, 3) := by decide +kernel
theorem dX9_looks_113 : decode cX9_looks 113 = .ok (.iconst 3, 1) := by decide +kernel
theorem dX9_looks_114 : decode cX9_looks 114 = .ok (.iload_n 2, 1) := by decide +kernel
theorem dX9_looks_115 : decode cX9_looks 115 = .ok (.imul, 1) := by decide +kernel
theorem dX9_looks_116 : decode cX9_looks 116 = .ok (.iload 4, 2) := by decide +kernel
theorem dX9_looks_118 : decode cX9_looks 118 = .ok (.iadd, 1) := by decide +kernel
theorem dX9_looks_119 : decode cX9_looks 119 = .ok (.iaload, 1) := by decide +kernel
theorem dX9_looks_120 : decode cX9_looks 120 = .ok (.aload_n 0, 1) := by decide +kernel
theorem dX9_looks_121 : decode cX9_looks 121 = .ok (.getfield 19, 3) := by decide +kernel
theorem dX9_looks_124 : decode cX9_looks 124 = .ok (.iconst 3, 1) := by decide +kernel
theorem dX9_looks_125 : decode cX9_looks 125 = .ok (.iload_n 3, 1) := by decide +kernel
theorem dX9_looks_126 : decode cX9_looks 126 = .ok (.imul, 1) := by decide +kernel
theorem dX9_looks_127 : decode cX9_looks 127 = .ok (.iload 4, 2) := by decide +kernel
theorem dX9_looks_129 : decode cX9_looks 129 = .ok (.iadd, 1) := by decide +kernel
theorem dX9_looks_130 : decode cX9_looks 130 = .ok (.iaload, 1) := by decide +kernel
theorem dX9_looks_131 : decode cX9_looks 131 = .ok (.invokevirtual 144, 3) := by decide +kernel
theorem dX9_looks_134 : decode cX9_looks 134 = .ok (.iconst 1, 1) := by decide +kernel
theorem dX9_looks_135 : decode cX9_looks 135 = .ok (.istore_n 1, 1) := by decide +kernel
theorem dX9_looks_136 : decode cX9_looks 136 = .ok (.iinc 4 1, 3) := by decide +kernel
theorem dX9_looks_139 : decode cX9_looks 139 = .ok (.goto (-50), 3) := by decide +kernel
theorem dX9_looks_142 : decode cX9_looks 142 = .ok (.iinc 3 1, 3) := by decide +kernel
theorem dX9_looks_145 : decode cX9_looks 145 = .ok (.goto (-131), 3) := by decide +kernel
theorem dX9_looks_148 : decode cX9_looks 148 = .ok (.iinc 2 1, 3) := by decide +kernel
theorem dX9_looks_151 : decode cX9_looks 151 = .ok (.goto (-147), 3) := by decide +kernel
theorem dX9_looks_154 : decode cX9_looks 154 = .ok (.iload_n 1, 1) := by decide +kernel
theorem dX9_looks_155 : decode cX9_looks 155 = .ok (.ireturn, 1) := by decide +kernel
abbrev rmX9_looks : Room := { frames := 2, cells := 0, slots := 0, locals := 48 }
theorem ywX9_looks : fY yX9_looks "EqualCourtModel" cX9_looks 5 (some .boolean) 0 := ⟨tw_1067, tp_39, tw_11, tw_1068, by decide +kernel⟩
set_option maxHeartbeats 4000000 in
set_option maxRecDepth 100000 in
theorem cX9_looks_ok {D : va_G} {ad : Nat → Nat} {cy cz : ClassId} {l : Launch} {z : fS}  {r : Int32} {τ : fS} (h : fX9_looks z = some (r, τ)) : fMi D 31 ad (cfM ad cy cz) cy cz l yX9_looks cX9_looks 5 (some .boolean) rmX9_looks [.ref (ad 0)] z r τ := by
  refine f_bodyz (by decide) (Nat.le_of_ble_eq_true rfl) (fun p e s m args below meth c Q hC hret ls hl hI => ?_)
  have hx := hC.1
  have hb := hC.2.1
  have hl : lv_has ls 5 [(0, .ref (ad 0))] := hl
  unfold fX9_looks at h
  refine lv_iconst (v := 0) hx hb dX9_looks_0 (by decide) ?_
  refine lv_istore_n (lv' := [(1, .int (0 : Int32)), (0, .ref (ad 0))]) hx hb dX9_looks_1 rfl hl (by decide) rfl (fun ls hl => ?_)
  refine lv_iconst (v := 0) hx hb dX9_looks_2 (by decide) ?_
  refine lv_istore_n (lv' := [(2, .int (0 : Int32)), (1, .int (0 : Int32)), (0, .ref (ad 0))]) hx hb dX9_looks_3 rfl hl (by decide) rfl (fun ls hl => ?_)
  have w4 : ∀ (N4 : Nat) (v1 : Int32) (v2 : Int32) (z : fS) (H : Heap) (locs : List Loc) (ls : Array Slot), fI D 31 ad (cfM ad cy cz) z s H locs → lv_has ls 5 [(0, .ref (ad 0)), (1, .int v1), (2, .int v2)] → lX9_looks_4    N4 v1 v2 z = some (r, τ) → W p l e rmX9_looks s m args below meth c H locs 0 0 Q (F0 m 4 ls []) := by
    intro N4
    induction N4 with
    | zero =>
      intro v1 v2 z H locs ls hI hl h
      exact none_no h
    | succ N4 ih4 =>
      have w148 : ∀ (v2 : Int32) (v1 : Int32) (z : fS) (H : Heap) (locs : List Loc) (ls : Array Slot), fI D 31 ad (cfM ad cy cz) z s H locs → lv_has ls 5 [(0, .ref (ad 0)), (1, .int v1), (2, .int v2)] → jX9_looks_148  (lX9_looks_4    N4) v2 v1 z = some (r, τ) → W p l e rmX9_looks s m args below meth c H locs 0 0 Q (F0 m 148 ls []) := by
        intro v2 v1 z H locs ls hI hl h
        unfold jX9_looks_148 at h
        obtain ⟨x148, e148⟩ : ∃ y : Int32, y = (v2 + (1 : Int32)) := ⟨_, rfl⟩
        replace h := bnd_at h e148
        refine lv_iinc (v := x148) (lv' := [(2, .int x148), (0, .ref (ad 0)), (1, .int v1)]) hx hb dX9_looks_148 hl (k := 2) rfl (by rw [e148]; rfl) (by decide) rfl (fun ls hl => ?_)
        refine lv_goto (tgt := 4) hx hb dX9_looks_151 (by decide) ?_
        exact ih4  v1 x148 z _ _ _ hI (lv_sub hl [1, 2, 0] rfl) h
      intro v1 v2 z H locs ls hI hl h
      rw [lX9_looks_4.eq_2] at h
      refine lv_iload_n hx hb dX9_looks_4 rfl (lv_at hl 2 rfl) ?_
      refine lv_aload_n hx hb dX9_looks_5 rfl (lv_at hl 0 rfl) ?_
      refine gX9_terms hC hI tw_858 dX9_looks_6 ?_
      refine lv_icmp_ge (tgt := 154) hx hb dX9_looks_9 (by decide) (fun c9 => ?_) (fun c9 => ?_)
      · replace h := if_t h c9
        refine lv_iload_n hx hb dX9_looks_154 rfl (lv_at hl 1 rfl) ?_
        have g155 := (gd_at h).1
        replace h := (gd_at h).2
        exact hret h g155 dX9_looks_155 hI
      · replace h := if_f h c9
        refine lv_iconst (v := 0) hx hb dX9_looks_12 (by decide) ?_
        refine lv_istore_n (lv' := [(3, .int (0 : Int32)), (0, .ref (ad 0)), (1, .int v1), (2, .int v2)]) hx hb dX9_looks_13 rfl hl (by decide) rfl (fun ls hl => ?_)
        have w14 : ∀ (N14 : Nat) (v2 : Int32) (v1 : Int32) (v3 : Int32) (z : fS) (H : Heap) (locs : List Loc) (ls : Array Slot), fI D 31 ad (cfM ad cy cz) z s H locs → lv_has ls 5 [(0, .ref (ad 0)), (1, .int v1), (2, .int v2), (3, .int v3)] → lX9_looks_14  (jX9_looks_148  (lX9_looks_4    N4) v2) v2 N14 v1 v3 z = some (r, τ) → W p l e rmX9_looks s m args below meth c H locs 0 0 Q (F0 m 14 ls []) := by
          intro N14
          induction N14 with
          | zero =>
            intro v2 v1 v3 z H locs ls hI hl h
            exact none_no h
          | succ N14 ih14 =>
            have w142 : ∀ (v2 : Int32) (v3 : Int32) (v1 : Int32) (z : fS) (H : Heap) (locs : List Loc) (ls : Array Slot), fI D 31 ad (cfM ad cy cz) z s H locs → lv_has ls 5 [(0, .ref (ad 0)), (1, .int v1), (2, .int v2), (3, .int v3)] → jX9_looks_142  (lX9_looks_14  (jX9_looks_148  (lX9_looks_4    N4) v2) v2 N14) (jX9_looks_148  (lX9_looks_4    N4) v2) v2 v3 v1 z = some (r, τ) → W p l e rmX9_looks s m args below meth c H locs 0 0 Q (F0 m 142 ls []) := by
              intro v2 v3 v1 z H locs ls hI hl h
              unfold jX9_looks_142 at h
              obtain ⟨x142, e142⟩ : ∃ y : Int32, y = (v3 + (1 : Int32)) := ⟨_, rfl⟩
              replace h := bnd_at h e142
              refine lv_iinc (v := x142) (lv' := [(3, .int x142), (0, .ref (ad 0)), (1, .int v1), (2, .int v2)]) hx hb dX9_looks_142 hl (k := 3) rfl (by rw [e142]; rfl) (by decide) rfl (fun ls hl => ?_)
              refine lv_goto (tgt := 14) hx hb dX9_looks_145 (by decide) ?_
              exact ih14 v2 v1 x142 z _ _ _ hI (lv_sub hl [1, 2, 3, 0] rfl) h
            have w51 : ∀ (v1 : Int32) (v2 : Int32) (v3 : Int32) (z : fS) (H : Heap) (locs : List Loc) (ls : Array Slot), fI D 31 ad (cfM ad cy cz) z s H locs → lv_has ls 5 [(0, .ref (ad 0)), (1, .int v1), (2, .int v2), (3, .int v3)] → jX9_looks_51  (lX9_looks_14  (jX9_looks_148  (lX9_looks_4    N4) v2) v2 N14) (jX9_looks_148  (lX9_looks_4    N4) v2) v1 v2 v3 z = some (r, τ) → W p l e rmX9_looks s m args below meth c H locs 0 0 Q (F0 m 51 ls []) := by
              intro v1 v2 v3 z H locs ls hI hl h
              unfold jX9_looks_51 at h
              refine lv_aload_n hx hb dX9_looks_51 rfl (lv_at hl 0 rfl) ?_
              refine gX9_one hC hI tw_882 dX9_looks_52 ?_
              refine lv_iload_n hx hb dX9_looks_55 rfl (lv_at hl 2 rfl) ?_
              have g56 := (gd_at h).1
              replace h := (gd_at h).2
              refine r_iald hC hI aM_20 g56 dX9_looks_56 ?_
              refine lv_aload_n hx hb dX9_looks_57 rfl (lv_at hl 0 rfl) ?_
              refine gX9_one hC hI tw_882 dX9_looks_58 ?_
              refine lv_iload_n hx hb dX9_looks_61 rfl (lv_at hl 3 rfl) ?_
              have g62 := (gd_at h).1
              replace h := (gd_at h).2
              refine r_iald hC hI aM_20 g62 dX9_looks_62 ?_
              refine lv_icmp_ne (tgt := 142) hx hb dX9_looks_63 (by decide) (fun c63 => ?_) (fun c63 => ?_)
              · replace h := if_f h c63
                exact w142 v2 v3 v1 z _ _ _ hI hl h
              · replace h := if_t h c63
                refine lv_aload_n hx hb dX9_looks_66 rfl (lv_at hl 0 rfl) ?_
                refine gX9_kindOf hC hI tw_854 dX9_looks_67 ?_
                refine lv_iload_n hx hb dX9_looks_70 rfl (lv_at hl 2 rfl) ?_
                have g71 := (gd_at h).1
                replace h := (gd_at h).2
                refine r_iald hC hI aM_1 g71 dX9_looks_71 ?_
                refine lv_iconst (v := 3) hx hb dX9_looks_72 (by decide) ?_
                refine lv_icmp_ne (tgt := 142) hx hb dX9_looks_73 (by decide) (fun c73 => ?_) (fun c73 => ?_)
                · replace h := if_f h c73
                  exact w142 v2 v3 v1 z _ _ _ hI hl h
                · replace h := if_t h c73
                  refine lv_aload_n hx hb dX9_looks_76 rfl (lv_at hl 0 rfl) ?_
                  refine gX9_kindOf hC hI tw_854 dX9_looks_77 ?_
                  refine lv_iload_n hx hb dX9_looks_80 rfl (lv_at hl 3 rfl) ?_
                  have g81 := (gd_at h).1
                  replace h := (gd_at h).2
                  refine r_iald hC hI aM_1 g81 dX9_looks_81 ?_
                  refine lv_iconst (v := 3) hx hb dX9_looks_82 (by decide) ?_
                  refine lv_icmp_ne (tgt := 142) hx hb dX9_looks_83 (by decide) (fun c83 => ?_) (fun c83 => ?_)
                  · replace h := if_f h c83
                    exact w142 v2 v3 v1 z _ _ _ hI hl h
                  · replace h := if_t h c83
                    refine lv_iconst (v := 0) hx hb dX9_looks_86 (by decide) ?_
                    refine lv_istore (lv' := [(4, .int (0 : Int32)), (0, .ref (ad 0)), (1, .int v1), (2, .int v2), (3, .int v3)]) hx hb dX9_looks_87 hl (by decide) rfl (fun ls hl => ?_)
                    have w89 : ∀ (N89 : Nat) (v2 : Int32) (v3 : Int32) (v1 : Int32) (v4 : Int32) (z : fS) (H : Heap) (locs : List Loc) (ls : Array Slot), fI D 31 ad (cfM ad cy cz) z s H locs → lv_has ls 5 [(0, .ref (ad 0)), (1, .int v1), (2, .int v2), (3, .int v3), (4, .int v4)] → lX9_looks_89  (jX9_looks_142  (lX9_looks_14  (jX9_looks_148  (lX9_looks_4    N4) v2) v2 N14) (jX9_looks_148  (lX9_looks_4    N4) v2) v2 v3) v2 v3 N89 v1 v4 z = some (r, τ) → W p l e rmX9_looks s m args below meth c H locs 0 0 Q (F0 m 89 ls []) := by
                      intro N89
                      induction N89 with
                      | zero =>
                        intro v2 v3 v1 v4 z H locs ls hI hl h
                        exact none_no h
                      | succ N89 ih89 =>
                        intro v2 v3 v1 v4 z H locs ls hI hl h
                        rw [lX9_looks_89.eq_2] at h
                        refine lv_iload hx hb dX9_looks_89 (lv_at hl 4 rfl) ?_
                        refine lv_iconst (v := 2) hx hb dX9_looks_91 (by decide) ?_
                        refine lv_icmp_ge (tgt := 142) hx hb dX9_looks_92 (by decide) (fun c92 => ?_) (fun c92 => ?_)
                        · replace h := if_t h c92
                          exact w142 v2 v3 v1 z _ _ _ hI (lv_sub hl [0, 1, 2, 3] rfl) h
                        · replace h := if_f h c92
                          refine lv_aload_n hx hb dX9_looks_95 rfl (lv_at hl 0 rfl) ?_
                          refine lv_iload_n hx hb dX9_looks_96 rfl (lv_at hl 2 rfl) ?_
                          refine lv_iload hx hb dX9_looks_97 (lv_at hl 4 rfl) ?_
                          refine lv_iload_n hx hb dX9_looks_99 rfl (lv_at hl 3 rfl) ?_
                          refine lv_iload hx hb dX9_looks_100 (lv_at hl 4 rfl) ?_
                          replace h := bp_at h
                          obtain ⟨r102, e102, h⟩ := h
                          refine r_calli (rest := []) hC hI oM_0 (C := "EqualCourtModel") rfl ywX9_isPart tw_1073 (cX9_isPart_ok  e102) ⟨Nat.le_of_ble_eq_true rfl, Nat.le_of_ble_eq_true rfl⟩ ⟨rfl, rfl⟩ rfl hl.1 rfl (Nat.le_of_ble_eq_true rfl) dX9_looks_102 (fun H locs hI => ?_)
                          refine lv_if_ne (tgt := 136) hx hb dX9_looks_105 (by decide) (fun c105 => ?_) (fun c105 => ?_)
                          · replace h := if_f h c105
                            obtain ⟨x136, e136⟩ : ∃ y : Int32, y = (v4 + (1 : Int32)) := ⟨_, rfl⟩
                            replace h := bnd_at h e136
                            refine lv_iinc (v := x136) (lv' := [(4, .int x136), (0, .ref (ad 0)), (1, .int v1), (2, .int v2), (3, .int v3)]) hx hb dX9_looks_136 hl (k := 4) rfl (by rw [e136]; rfl) (by decide) rfl (fun ls hl => ?_)
                            refine lv_goto (tgt := 89) hx hb dX9_looks_139 (by decide) ?_
                            exact ih89 v2 v3 v1 x136 z _ _ _ hI (lv_sub hl [1, 2, 3, 4, 0] rfl) h
                          · replace h := if_t h c105
                            refine lv_aload_n hx hb dX9_looks_108 rfl (lv_at hl 0 rfl) ?_
                            refine lv_aload_n hx hb dX9_looks_109 rfl (lv_at hl 0 rfl) ?_
                            refine gX9_partOf hC hI tw_857 dX9_looks_110 ?_
                            refine lv_iconst (v := 3) hx hb dX9_looks_113 (by decide) ?_
                            refine lv_iload_n hx hb dX9_looks_114 rfl (lv_at hl 2 rfl) ?_
                            refine lv_imul hx hb dX9_looks_115 ?_
                            refine lv_iload hx hb dX9_looks_116 (lv_at hl 4 rfl) ?_
                            refine lv_iadd hx hb dX9_looks_118 ?_
                            have g119 := (gd_at h).1
                            replace h := (gd_at h).2
                            refine r_iald hC hI aM_4 g119 dX9_looks_119 ?_
                            refine lv_aload_n hx hb dX9_looks_120 rfl (lv_at hl 0 rfl) ?_
                            refine gX9_partOf hC hI tw_857 dX9_looks_121 ?_
                            refine lv_iconst (v := 3) hx hb dX9_looks_124 (by decide) ?_
                            refine lv_iload_n hx hb dX9_looks_125 rfl (lv_at hl 3 rfl) ?_
                            refine lv_imul hx hb dX9_looks_126 ?_
                            refine lv_iload hx hb dX9_looks_127 (lv_at hl 4 rfl) ?_
                            refine lv_iadd hx hb dX9_looks_129 ?_
                            have g130 := (gd_at h).1
                            replace h := (gd_at h).2
                            refine r_iald hC hI aM_4 g130 dX9_looks_130 ?_
                            replace h := bp_at h
                            obtain ⟨z131, e131, h⟩ := h
                            refine r_callv (rest := []) hC hI oM_0 (C := "EqualCourtModel") rfl ywX9_merge tw_1061 (cX9_merge_ok  e131) ⟨Nat.le_of_ble_eq_true rfl, Nat.le_of_ble_eq_true rfl⟩ ⟨rfl, rfl⟩ rfl hl.1 rfl (Nat.le_of_ble_eq_true rfl) dX9_looks_131 (fun H locs hI => ?_)
                            refine lv_iconst (v := 1) hx hb dX9_looks_134 (by decide) ?_
                            refine lv_istore_n (lv' := [(1, .int (1 : Int32)), (0, .ref (ad 0)), (2, .int v2), (3, .int v3), (4, .int v4)]) hx hb dX9_looks_135 rfl hl (by decide) rfl (fun ls hl => ?_)
                            obtain ⟨x136, e136⟩ : ∃ y : Int32, y = (v4 + (1 : Int32)) := ⟨_, rfl⟩
                            replace h := bnd_at h e136
                            refine lv_iinc (v := x136) (lv' := [(4, .int x136), (1, .int (1 : Int32)), (0, .ref (ad 0)), (2, .int v2), (3, .int v3)]) hx hb dX9_looks_136 hl (k := 4) rfl (by rw [e136]; rfl) (by decide) rfl (fun ls hl => ?_)
                            refine lv_goto (tgt := 89) hx hb dX9_looks_139 (by decide) ?_
                            exact ih89 v2 v3 (1 : Int32) x136 z131 _ _ _ hI (lv_sub hl [2, 1, 3, 4, 0] rfl) h
                    exact w89 FU v2 v3 v1 (0 : Int32) z _ _ _ hI (lv_sub hl [1, 2, 3, 4, 0] rfl) h
            intro v2 v1 v3 z H locs ls hI hl h
            rw [lX9_looks_14.eq_2] at h
            refine lv_iload_n hx hb dX9_looks_14 rfl (lv_at hl 3 rfl) ?_
            refine lv_iload_n hx hb dX9_looks_15 rfl (lv_at hl 2 rfl) ?_
            refine lv_icmp_ge (tgt := 148) hx hb dX9_looks_16 (by decide) (fun c16 => ?_) (fun c16 => ?_)
            · replace h := if_t h c16
              exact w148 v2 v1 z _ _ _ hI (lv_sub hl [0, 1, 2] rfl) h
            · replace h := if_f h c16
              refine lv_aload_n hx hb dX9_looks_19 rfl (lv_at hl 0 rfl) ?_
              refine gX9_one hC hI tw_882 dX9_looks_20 ?_
              refine lv_iload_n hx hb dX9_looks_23 rfl (lv_at hl 2 rfl) ?_
              have g24 := (gd_at h).1
              replace h := (gd_at h).2
              refine r_iald hC hI aM_20 g24 dX9_looks_24 ?_
              refine lv_aload_n hx hb dX9_looks_25 rfl (lv_at hl 0 rfl) ?_
              refine gX9_one hC hI tw_882 dX9_looks_26 ?_
              refine lv_iload_n hx hb dX9_looks_29 rfl (lv_at hl 3 rfl) ?_
              have g30 := (gd_at h).1
              replace h := (gd_at h).2
              refine r_iald hC hI aM_20 g30 dX9_looks_30 ?_
              refine lv_icmp_eq (tgt := 51) hx hb dX9_looks_31 (by decide) (fun c31 => ?_) (fun c31 => ?_)
              · replace h := if_t h c31
                exact w51 v1 v2 v3 z _ _ _ hI hl h
              · replace h := if_f h c31
                refine lv_aload_n hx hb dX9_looks_34 rfl (lv_at hl 0 rfl) ?_
                refine lv_iload_n hx hb dX9_looks_35 rfl (lv_at hl 2 rfl) ?_
                refine lv_iload_n hx hb dX9_looks_36 rfl (lv_at hl 3 rfl) ?_
                replace h := bp_at h
                obtain ⟨r37, e37, h⟩ := h
                refine r_calli (rest := []) hC hI oM_0 (C := "EqualCourtModel") rfl ywX9_isByParts tw_1069 (cX9_isByParts_ok  e37) ⟨Nat.le_of_ble_eq_true rfl, Nat.le_of_ble_eq_true rfl⟩ ⟨rfl, rfl⟩ rfl hl.1 rfl (Nat.le_of_ble_eq_true rfl) dX9_looks_37 (fun H locs hI => ?_)
                refine lv_if_eq (tgt := 51) hx hb dX9_looks_40 (by decide) (fun c40 => ?_) (fun c40 => ?_)
                · replace h := if_t h c40
                  exact w51 v1 v2 v3 z _ _ _ hI hl h
                · replace h := if_f h c40
                  refine lv_aload_n hx hb dX9_looks_43 rfl (lv_at hl 0 rfl) ?_
                  refine lv_iload_n hx hb dX9_looks_44 rfl (lv_at hl 2 rfl) ?_
                  refine lv_iload_n hx hb dX9_looks_45 rfl (lv_at hl 3 rfl) ?_
                  replace h := bp_at h
                  obtain ⟨z46, e46, h⟩ := h
                  refine r_callv (rest := []) hC hI oM_0 (C := "EqualCourtModel") rfl ywX9_merge tw_1061 (cX9_merge_ok  e46) ⟨Nat.le_of_ble_eq_true rfl, Nat.le_of_ble_eq_true rfl⟩ ⟨rfl, rfl⟩ rfl hl.1 rfl (Nat.le_of_ble_eq_true rfl) dX9_looks_46 (fun H locs hI => ?_)
                  refine lv_iconst (v := 1) hx hb dX9_looks_49 (by decide) ?_
                  refine lv_istore_n (lv' := [(1, .int (1 : Int32)), (0, .ref (ad 0)), (2, .int v2), (3, .int v3)]) hx hb dX9_looks_50 rfl hl (by decide) rfl (fun ls hl => ?_)
                  exact w51 (1 : Int32) v2 v3 z46 _ _ _ hI (lv_sub hl [1, 0, 2, 3] rfl) h
        exact w14 FU v2 v1 (0 : Int32) z _ _ _ hI (lv_sub hl [1, 2, 3, 0] rfl) h
  exact w4 FU  (0 : Int32) (0 : Int32) z _ _ _ hI (lv_sub hl [2, 1, 0] rfl) h
theorem dX9_findOnes_0 : decode cX9_findOnes 0 = .ok (.iconst 0, 1) := by decide +kernel
theorem dX9_findOnes_1 : decode cX9_findOnes 1 = .ok (.istore_n 1, 1) := by decide +kernel
theorem dX9_findOnes_2 : decode cX9_findOnes 2 = .ok (.iload_n 1, 1) := by decide +kernel
theorem dX9_findOnes_3 : decode cX9_findOnes 3 = .ok (.aload_n 0, 1) := by decide +kernel
theorem dX9_findOnes_4 : decode cX9_findOnes 4 = .ok (.getfield 108, 3) := by decide +kernel
theorem dX9_findOnes_7 : decode cX9_findOnes 7 = .ok (.if_icmp .ge 16, 3) := by decide +kernel
theorem dX9_findOnes_10 : decode cX9_findOnes 10 = .ok (.aload_n 0, 1) := by decide +kernel
theorem dX9_findOnes_11 : decode cX9_findOnes 11 = .ok (.getfield 72, 3) := by decide +kernel
theorem dX9_findOnes_14 : decode cX9_findOnes 14 = .ok (.iload_n 1, 1) := by decide +kernel
theorem dX9_findOnes_15 : decode cX9_findOnes 15 = .ok (.iload_n 1, 1) := by decide +kernel
theorem dX9_findOnes_16 : decode cX9_findOnes 16 = .ok (.iastore, 1) := by decide +kernel
theorem dX9_findOnes_17 : decode cX9_findOnes 17 = .ok (.iinc 1 1, 3) := by decide +kernel
theorem dX9_findOnes_20 : decode cX9_findOnes 20 = .ok (.goto (-18), 3) := by decide +kernel
theorem dX9_findOnes_23 : decode cX9_findOnes 23 = .ok (.iconst 0, 1) := by decide +kernel
theorem dX9_findOnes_24 : decode cX9_findOnes 24 = .ok (.istore_n 1, 1) := by decide +kernel
theorem dX9_findOnes_25 : decode cX9_findOnes 25 = .ok (.iload_n 1, 1) := by decide +kernel
theorem dX9_findOnes_26 : decode cX9_findOnes 26 = .ok (.bipush 100, 2) := by decide +kernel
theorem dX9_findOnes_28 : decode cX9_findOnes 28 = .ok (.if_icmp .gt 68, 3) := by decide +kernel
theorem dX9_findOnes_31 : decode cX9_findOnes 31 = .ok (.aload_n 0, 1) := by decide +kernel
theorem dX9_findOnes_32 : decode cX9_findOnes 32 = .ok (.getfield 75, 3) := by decide +kernel
theorem dX9_findOnes_35 : decode cX9_findOnes 35 = .ok (.iload_n 1, 1) := by decide +kernel
theorem dX9_findOnes_36 : decode cX9_findOnes 36 = .ok (.baload, 1) := by decide +kernel
theorem dX9_findOnes_37 : decode cX9_findOnes 37 = .ok (.ifCond .eq 53, 3) := by decide +kernel
theorem dX9_findOnes_40 : decode cX9_findOnes 40 = .ok (.aload_n 0, 1) := by decide +kernel
theorem dX9_findOnes_41 : decode cX9_findOnes 41 = .ok (.getfield 28, 3) := by decide +kernel
theorem dX9_findOnes_44 : decode cX9_findOnes 44 = .ok (.iload_n 1, 1) := by decide +kernel
theorem dX9_findOnes_45 : decode cX9_findOnes 45 = .ok (.baload, 1) := by decide +kernel
theorem dX9_findOnes_46 : decode cX9_findOnes 46 = .ok (.ifCond .eq 44, 3) := by decide +kernel
theorem dX9_findOnes_49 : decode cX9_findOnes 49 = .ok (.aload_n 0, 1) := by decide +kernel
theorem dX9_findOnes_50 : decode cX9_findOnes 50 = .ok (.getfield 72, 3) := by decide +kernel
theorem dX9_findOnes_53 : decode cX9_findOnes 53 = .ok (.aload_n 0, 1) := by decide +kernel
theorem dX9_findOnes_54 : decode cX9_findOnes 54 = .ok (.getfield 22, 3) := by decide +kernel
theorem dX9_findOnes_57 : decode cX9_findOnes 57 = .ok (.iload_n 1, 1) := by decide +kernel
theorem dX9_findOnes_58 : decode cX9_findOnes 58 = .ok (.iaload, 1) := by decide +kernel
theorem dX9_findOnes_59 : decode cX9_findOnes 59 = .ok (.iaload, 1) := by decide +kernel
theorem dX9_findOnes_60 : decode cX9_findOnes 60 = .ok (.aload_n 0, 1) := by decide +kernel
theorem dX9_findOnes_61 : decode cX9_findOnes 61 = .ok (.getfield 72, 3) := by decide +kernel
theorem dX9_findOnes_64 : decode cX9_findOnes 64 = .ok (.aload_n 0, 1) := by decide +kernel
theorem dX9_findOnes_65 : decode cX9_findOnes 65 = .ok (.getfield 25, 3) := by decide +kernel
theorem dX9_findOnes_68 : decode cX9_findOnes 68 = .ok (.iload_n 1, 1) := by decide +kernel
theorem dX9_findOnes_69 : decode cX9_findOnes 69 = .ok (.iaload, 1) := by decide +kernel
theorem dX9_findOnes_70 : decode cX9_findOnes 70 = .ok (.iaload, 1) := by decide +kernel
theorem dX9_findOnes_71 : decode cX9_findOnes 71 = .ok (.if_icmp .eq 19, 3) := by decide +kernel
theorem dX9_findOnes_74 : decode cX9_findOnes 74 = .ok (.aload_n 0, 1) := by decide +kernel
theorem dX9_findOnes_75 : decode cX9_findOnes 75 = .ok (.aload_n 0, 1) := by decide +kernel
theorem dX9_findOnes_76 : decode cX9_findOnes 76 = .ok (.getfield 22, 3) := by decide +kernel
theorem dX9_findOnes_79 : decode cX9_findOnes 79 = .ok (.iload_n 1, 1) := by decide +kernel
theorem dX9_findOnes_80 : decode cX9_findOnes 80 = .ok (.iaload, 1) := by decide +kernel
theorem dX9_findOnes_81 : decode cX9_findOnes 81 = .ok (.aload_n 0, 1) := by decide +kernel
theorem dX9_findOnes_82 : decode cX9_findOnes 82 = .ok (.getfield 25, 3) := by decide +kernel
theorem dX9_findOnes_85 : decode cX9_findOnes 85 = .ok (.iload_n 1, 1) := by decide +kernel
theorem dX9_findOnes_86 : decode cX9_findOnes 86 = .ok (.iaload, 1) := by decide +kernel
theorem dX9_findOnes_87 : decode cX9_findOnes 87 = .ok (.invokevirtual 144, 3) := by decide +kernel
theorem dX9_findOnes_90 : decode cX9_findOnes 90 = .ok (.iinc 1 1, 3) := by decide +kernel
theorem dX9_findOnes_93 : decode cX9_findOnes 93 = .ok (.goto (-68), 3) := by decide +kernel
theorem dX9_findOnes_96 : decode cX9_findOnes 96 = .ok (.iconst 1, 1) := by decide +kernel
theorem dX9_findOnes_97 : decode cX9_findOnes 97 = .ok (.istore_n 1, 1) := by decide +kernel
theorem dX9_findOnes_98 : decode cX9_findOnes 98 = .ok (.iconst 0, 1) := by decide +kernel
theorem dX9_findOnes_99 : decode cX9_findOnes 99 = .ok (.istore_n 2, 1) := by decide +kernel
theorem dX9_findOnes_100 : decode cX9_findOnes 100 = .ok (.iload_n 1, 1) := by decide +kernel
theorem dX9_findOnes_101 : decode cX9_findOnes 101 = .ok (.ifCond .eq 21, 3) := by decide +kernel
theorem dX9_findOnes_104 : decode cX9_findOnes 104 = .ok (.iload_n 2, 1) := by decide +kernel
theorem dX9_findOnes_105 : decode cX9_findOnes 105 = .ok (.sipush 400, 3) := by decide +kernel
theorem dX9_findOnes_108 : decode cX9_findOnes 108 = .ok (.if_icmp .ge 14, 3) := by decide +kernel
theorem dX9_findOnes_111 : decode cX9_findOnes 111 = .ok (.aload_n 0, 1) := by decide +kernel
theorem dX9_findOnes_112 : decode cX9_findOnes 112 = .ok (.invokevirtual 148, 3) := by decide +kernel
theorem dX9_findOnes_115 : decode cX9_findOnes 115 = .ok (.istore_n 1, 1) := by decide +kernel
theorem dX9_findOnes_116 : decode cX9_findOnes 116 = .ok (.iinc 2 1, 3) := by decide +kernel
theorem dX9_findOnes_119 : decode cX9_findOnes 119 = .ok (.goto (-19), 3) := by decide +kernel
theorem dX9_findOnes_122 : decode cX9_findOnes 122 = .ok (.aload_n 0, 1) := by decide +kernel
theorem dX9_findOnes_123 : decode cX9_findOnes 123 = .ok (.iconst 0, 1) := by decide +kernel
theorem dX9_findOnes_124 : decode cX9_findOnes 124 = .ok (.putfield 115, 3) := by decide +kernel
theorem dX9_findOnes_127 : decode cX9_findOnes 127 = .ok (.return_, 1) := by decide +kernel
abbrev rmX9_findOnes : Room := { frames := 3, cells := 0, slots := 0, locals := 72 }
theorem ywX9_findOnes : fY yX9_findOnes "EqualCourtModel" cX9_findOnes 3 none 0 := ⟨tw_1059, tp_37, tw_11, tw_1060, by decide +kernel⟩
set_option maxHeartbeats 4000000 in
set_option maxRecDepth 100000 in
theorem cX9_findOnes_ok {D : va_G} {ad : Nat → Nat} {cy cz : ClassId} {l : Launch} {z : fS}  {τ : fS} (h : fX9_findOnes z = some τ) : fMv D 31 ad (cfM ad cy cz) cy cz l yX9_findOnes cX9_findOnes 3 none rmX9_findOnes [.ref (ad 0)] z τ := by
  refine f_bodyv (by decide) (Nat.le_of_ble_eq_true rfl) (fun p e s m args below meth c Q hC hret ls hl hI => ?_)
  have hx := hC.1
  have hb := hC.2.1
  have hl : lv_has ls 3 [(0, .ref (ad 0))] := hl
  unfold fX9_findOnes at h
  have w96 : ∀ (z : fS) (H : Heap) (locs : List Loc) (ls : Array Slot), fI D 31 ad (cfM ad cy cz) z s H locs → lv_has ls 3 [(0, .ref (ad 0))] → jX9_findOnes_96   z = some τ → W p l e rmX9_findOnes s m args below meth c H locs 0 0 Q (F0 m 96 ls []) := by
    intro z H locs ls hI hl h
    unfold jX9_findOnes_96 at h
    refine lv_iconst (v := 1) hx hb dX9_findOnes_96 (by decide) ?_
    refine lv_istore_n (lv' := [(1, .int (1 : Int32)), (0, .ref (ad 0))]) hx hb dX9_findOnes_97 rfl hl (by decide) rfl (fun ls hl => ?_)
    refine lv_iconst (v := 0) hx hb dX9_findOnes_98 (by decide) ?_
    refine lv_istore_n (lv' := [(2, .int (0 : Int32)), (1, .int (1 : Int32)), (0, .ref (ad 0))]) hx hb dX9_findOnes_99 rfl hl (by decide) rfl (fun ls hl => ?_)
    have w100 : ∀ (N100 : Nat) (v1 : Int32) (v2 : Int32) (z : fS) (H : Heap) (locs : List Loc) (ls : Array Slot), fI D 31 ad (cfM ad cy cz) z s H locs → lv_has ls 3 [(0, .ref (ad 0)), (1, .int v1), (2, .int v2)] → lX9_findOnes_100    N100 v1 v2 z = some τ → W p l e rmX9_findOnes s m args below meth c H locs 0 0 Q (F0 m 100 ls []) := by
      intro N100
      induction N100 with
      | zero =>
        intro v1 v2 z H locs ls hI hl h
        exact none_no h
      | succ N100 ih100 =>
        intro v1 v2 z H locs ls hI hl h
        rw [lX9_findOnes_100.eq_2] at h
        refine lv_iload_n hx hb dX9_findOnes_100 rfl (lv_at hl 1 rfl) ?_
        refine lv_if_eq (tgt := 122) hx hb dX9_findOnes_101 (by decide) (fun c101 => ?_) (fun c101 => ?_)
        · replace h := if_t h c101
          refine lv_aload_n hx hb dX9_findOnes_122 rfl (lv_at hl 0 rfl) ?_
          refine lv_iconst (v := 0) hx hb dX9_findOnes_123 (by decide) ?_
          refine pX9_isFresh hC hI tw_884 (by decide) dX9_findOnes_124 (fun z124 H locs e124 hI => ?_)
          replace h := bnd_at h e124
          exact hret h dX9_findOnes_127 hI
        · replace h := if_f h c101
          refine lv_iload_n hx hb dX9_findOnes_104 rfl (lv_at hl 2 rfl) ?_
          refine lv_sipush (v := 400) hx hb dX9_findOnes_105 (by decide) ?_
          refine lv_icmp_ge (tgt := 122) hx hb dX9_findOnes_108 (by decide) (fun c108 => ?_) (fun c108 => ?_)
          · replace h := if_t h c108
            refine lv_aload_n hx hb dX9_findOnes_122 rfl (lv_at hl 0 rfl) ?_
            refine lv_iconst (v := 0) hx hb dX9_findOnes_123 (by decide) ?_
            refine pX9_isFresh hC hI tw_884 (by decide) dX9_findOnes_124 (fun z124 H locs e124 hI => ?_)
            replace h := bnd_at h e124
            exact hret h dX9_findOnes_127 hI
          · replace h := if_f h c108
            refine lv_aload_n hx hb dX9_findOnes_111 rfl (lv_at hl 0 rfl) ?_
            replace h := bd_at h
            obtain ⟨r112, z112, e112, h⟩ := h
            refine r_calli (rest := []) hC hI oM_0 (C := "EqualCourtModel") rfl ywX9_looks tw_1065 (cX9_looks_ok  e112) ⟨Nat.le_of_ble_eq_true rfl, Nat.le_of_ble_eq_true rfl⟩ ⟨rfl, rfl⟩ rfl hl.1 rfl (Nat.le_of_ble_eq_true rfl) dX9_findOnes_112 (fun H locs hI => ?_)
            refine lv_istore_n (lv' := [(1, .int r112), (0, .ref (ad 0)), (2, .int v2)]) hx hb dX9_findOnes_115 rfl hl (by decide) rfl (fun ls hl => ?_)
            obtain ⟨x116, e116⟩ : ∃ y : Int32, y = (v2 + (1 : Int32)) := ⟨_, rfl⟩
            replace h := bnd_at h e116
            refine lv_iinc (v := x116) (lv' := [(2, .int x116), (1, .int r112), (0, .ref (ad 0))]) hx hb dX9_findOnes_116 hl (k := 2) rfl (by rw [e116]; rfl) (by decide) rfl (fun ls hl => ?_)
            refine lv_goto (tgt := 100) hx hb dX9_findOnes_119 (by decide) ?_
            exact ih100  r112 x116 z112 _ _ _ hI (lv_sub hl [2, 1, 0] rfl) h
    exact w100 FU  (1 : Int32) (0 : Int32) z _ _ _ hI (lv_sub hl [2, 1, 0] rfl) h
  have w23 : ∀ (z : fS) (H : Heap) (locs : List Loc) (ls : Array Slot), fI D 31 ad (cfM ad cy cz) z s H locs → lv_has ls 3 [(0, .ref (ad 0))] → jX9_findOnes_23   z = some τ → W p l e rmX9_findOnes s m args below meth c H locs 0 0 Q (F0 m 23 ls []) := by
    intro z H locs ls hI hl h
    unfold jX9_findOnes_23 at h
    refine lv_iconst (v := 0) hx hb dX9_findOnes_23 (by decide) ?_
    refine lv_istore_n (lv' := [(1, .int (0 : Int32)), (0, .ref (ad 0))]) hx hb dX9_findOnes_24 rfl hl (by decide) rfl (fun ls hl => ?_)
    have w25 : ∀ (N25 : Nat) (v1 : Int32) (z : fS) (H : Heap) (locs : List Loc) (ls : Array Slot), fI D 31 ad (cfM ad cy cz) z s H locs → lv_has ls 3 [(0, .ref (ad 0)), (1, .int v1)] → lX9_findOnes_25  (jX9_findOnes_96   )  N25 v1 z = some τ → W p l e rmX9_findOnes s m args below meth c H locs 0 0 Q (F0 m 25 ls []) := by
      intro N25
      induction N25 with
      | zero =>
        intro v1 z H locs ls hI hl h
        exact none_no h
      | succ N25 ih25 =>
        intro v1 z H locs ls hI hl h
        rw [lX9_findOnes_25.eq_2] at h
        refine lv_iload_n hx hb dX9_findOnes_25 rfl (lv_at hl 1 rfl) ?_
        refine lv_bipush (v := 100) hx hb dX9_findOnes_26 (by decide) ?_
        refine lv_icmp_gt (tgt := 96) hx hb dX9_findOnes_28 (by decide) (fun c28 => ?_) (fun c28 => ?_)
        · replace h := if_t h c28
          exact w96 z _ _ _ hI (lv_sub hl [0] rfl) h
        · replace h := if_f h c28
          refine lv_aload_n hx hb dX9_findOnes_31 rfl (lv_at hl 0 rfl) ?_
          refine gX9_isIn hC hI tw_883 dX9_findOnes_32 ?_
          refine lv_iload_n hx hb dX9_findOnes_35 rfl (lv_at hl 1 rfl) ?_
          have g36 := (gd_at h).1
          replace h := (gd_at h).2
          refine r_zald hC hI aM_21 g36 dX9_findOnes_36 ?_
          refine lv_if_eq (tgt := 90) hx hb dX9_findOnes_37 (by decide) (fun c37 => ?_) (fun c37 => ?_)
          · replace h := if_t h c37
            obtain ⟨x90, e90⟩ : ∃ y : Int32, y = (v1 + (1 : Int32)) := ⟨_, rfl⟩
            replace h := bnd_at h e90
            refine lv_iinc (v := x90) (lv' := [(1, .int x90), (0, .ref (ad 0))]) hx hb dX9_findOnes_90 hl (k := 1) rfl (by rw [e90]; rfl) (by decide) rfl (fun ls hl => ?_)
            refine lv_goto (tgt := 25) hx hb dX9_findOnes_93 (by decide) ?_
            exact ih25  x90 z _ _ _ hI (lv_sub hl [1, 0] rfl) h
          · replace h := if_f h c37
            refine lv_aload_n hx hb dX9_findOnes_40 rfl (lv_at hl 0 rfl) ?_
            refine gX9_isSame hC hI tw_861 dX9_findOnes_41 ?_
            refine lv_iload_n hx hb dX9_findOnes_44 rfl (lv_at hl 1 rfl) ?_
            have g45 := (gd_at h).1
            replace h := (gd_at h).2
            refine r_zald hC hI aM_7 g45 dX9_findOnes_45 ?_
            refine lv_if_eq (tgt := 90) hx hb dX9_findOnes_46 (by decide) (fun c46 => ?_) (fun c46 => ?_)
            · replace h := if_t h c46
              obtain ⟨x90, e90⟩ : ∃ y : Int32, y = (v1 + (1 : Int32)) := ⟨_, rfl⟩
              replace h := bnd_at h e90
              refine lv_iinc (v := x90) (lv' := [(1, .int x90), (0, .ref (ad 0))]) hx hb dX9_findOnes_90 hl (k := 1) rfl (by rw [e90]; rfl) (by decide) rfl (fun ls hl => ?_)
              refine lv_goto (tgt := 25) hx hb dX9_findOnes_93 (by decide) ?_
              exact ih25  x90 z _ _ _ hI (lv_sub hl [1, 0] rfl) h
            · replace h := if_f h c46
              refine lv_aload_n hx hb dX9_findOnes_49 rfl (lv_at hl 0 rfl) ?_
              refine gX9_one hC hI tw_882 dX9_findOnes_50 ?_
              refine lv_aload_n hx hb dX9_findOnes_53 rfl (lv_at hl 0 rfl) ?_
              refine gX9_sayA hC hI tw_859 dX9_findOnes_54 ?_
              refine lv_iload_n hx hb dX9_findOnes_57 rfl (lv_at hl 1 rfl) ?_
              have g58 := (gd_at h).1
              replace h := (gd_at h).2
              refine r_iald hC hI aM_5 g58 dX9_findOnes_58 ?_
              have g59 := (gd_at h).1
              replace h := (gd_at h).2
              refine r_iald hC hI aM_20 g59 dX9_findOnes_59 ?_
              refine lv_aload_n hx hb dX9_findOnes_60 rfl (lv_at hl 0 rfl) ?_
              refine gX9_one hC hI tw_882 dX9_findOnes_61 ?_
              refine lv_aload_n hx hb dX9_findOnes_64 rfl (lv_at hl 0 rfl) ?_
              refine gX9_sayB hC hI tw_860 dX9_findOnes_65 ?_
              refine lv_iload_n hx hb dX9_findOnes_68 rfl (lv_at hl 1 rfl) ?_
              have g69 := (gd_at h).1
              replace h := (gd_at h).2
              refine r_iald hC hI aM_6 g69 dX9_findOnes_69 ?_
              have g70 := (gd_at h).1
              replace h := (gd_at h).2
              refine r_iald hC hI aM_20 g70 dX9_findOnes_70 ?_
              refine lv_icmp_eq (tgt := 90) hx hb dX9_findOnes_71 (by decide) (fun c71 => ?_) (fun c71 => ?_)
              · replace h := if_t h c71
                obtain ⟨x90, e90⟩ : ∃ y : Int32, y = (v1 + (1 : Int32)) := ⟨_, rfl⟩
                replace h := bnd_at h e90
                refine lv_iinc (v := x90) (lv' := [(1, .int x90), (0, .ref (ad 0))]) hx hb dX9_findOnes_90 hl (k := 1) rfl (by rw [e90]; rfl) (by decide) rfl (fun ls hl => ?_)
                refine lv_goto (tgt := 25) hx hb dX9_findOnes_93 (by decide) ?_
                exact ih25  x90 z _ _ _ hI (lv_sub hl [1, 0] rfl) h
              · replace h := if_f h c71
                refine lv_aload_n hx hb dX9_findOnes_74 rfl (lv_at hl 0 rfl) ?_
                refine lv_aload_n hx hb dX9_findOnes_75 rfl (lv_at hl 0 rfl) ?_
                refine gX9_sayA hC hI tw_859 dX9_findOnes_76 ?_
                refine lv_iload_n hx hb dX9_findOnes_79 rfl (lv_at hl 1 rfl) ?_
                have g80 := (gd_at h).1
                replace h := (gd_at h).2
                refine r_iald hC hI aM_5 g80 dX9_findOnes_80 ?_
                refine lv_aload_n hx hb dX9_findOnes_81 rfl (lv_at hl 0 rfl) ?_
                refine gX9_sayB hC hI tw_860 dX9_findOnes_82 ?_
                refine lv_iload_n hx hb dX9_findOnes_85 rfl (lv_at hl 1 rfl) ?_
                have g86 := (gd_at h).1
                replace h := (gd_at h).2
                refine r_iald hC hI aM_6 g86 dX9_findOnes_86 ?_
                replace h := bp_at h
                obtain ⟨z87, e87, h⟩ := h
                refine r_callv (rest := []) hC hI oM_0 (C := "EqualCourtModel") rfl ywX9_merge tw_1061 (cX9_merge_ok  e87) ⟨Nat.le_of_ble_eq_true rfl, Nat.le_of_ble_eq_true rfl⟩ ⟨rfl, rfl⟩ rfl hl.1 rfl (Nat.le_of_ble_eq_true rfl) dX9_findOnes_87 (fun H locs hI => ?_)
                obtain ⟨x90, e90⟩ : ∃ y : Int32, y = (v1 + (1 : Int32)) := ⟨_, rfl⟩
                replace h := bnd_at h e90
                refine lv_iinc (v := x90) (lv' := [(1, .int x90), (0, .ref (ad 0))]) hx hb dX9_findOnes_90 hl (k := 1) rfl (by rw [e90]; rfl) (by decide) rfl (fun ls hl => ?_)
                refine lv_goto (tgt := 25) hx hb dX9_findOnes_93 (by decide) ?_
                exact ih25  x90 z87 _ _ _ hI (lv_sub hl [1, 0] rfl) h
    exact w25 FU  (0 : Int32) z _ _ _ hI (lv_sub hl [1, 0] rfl) h
  refine lv_iconst (v := 0) hx hb dX9_findOnes_0 (by decide) ?_
  refine lv_istore_n (lv' := [(1, .int (0 : Int32)), (0, .ref (ad 0))]) hx hb dX9_findOnes_1 rfl hl (by decide) rfl (fun ls hl => ?_)
  have w2 : ∀ (N2 : Nat) (v1 : Int32) (z : fS) (H : Heap) (locs : List Loc) (ls : Array Slot), fI D 31 ad (cfM ad cy cz) z s H locs → lv_has ls 3 [(0, .ref (ad 0)), (1, .int v1)] → lX9_findOnes_2  (jX9_findOnes_23   )  N2 v1 z = some τ → W p l e rmX9_findOnes s m args below meth c H locs 0 0 Q (F0 m 2 ls []) := by
    intro N2
    induction N2 with
    | zero =>
      intro v1 z H locs ls hI hl h
      exact none_no h
    | succ N2 ih2 =>
      intro v1 z H locs ls hI hl h
      rw [lX9_findOnes_2.eq_2] at h
      refine lv_iload_n hx hb dX9_findOnes_2 rfl (lv_at hl 1 rfl) ?_
      refine lv_aload_n hx hb dX9_findOnes_3 rfl (lv_at hl 0 rfl) ?_
      refine gX9_terms hC hI tw_858 dX9_findOnes_4 ?_
      refine lv_icmp_ge (tgt := 23) hx hb dX9_findOnes_7 (by decide) (fun c7 => ?_) (fun c7 => ?_)
      · replace h := if_t h c7
        exact w23 z _ _ _ hI (lv_sub hl [0] rfl) h
      · replace h := if_f h c7
        refine lv_aload_n hx hb dX9_findOnes_10 rfl (lv_at hl 0 rfl) ?_
        refine gX9_one hC hI tw_882 dX9_findOnes_11 ?_
        refine lv_iload_n hx hb dX9_findOnes_14 rfl (lv_at hl 1 rfl) ?_
        refine lv_iload_n hx hb dX9_findOnes_15 rfl (lv_at hl 1 rfl) ?_
        have g16 := (gd_at h).1
        replace h := (gd_at h).2
        refine r_iast hC hI aM_20 g16 dX9_findOnes_16 (fun z16 H locs e16 hI => ?_)
        replace h := bnd_at h e16
        obtain ⟨x17, e17⟩ : ∃ y : Int32, y = (v1 + (1 : Int32)) := ⟨_, rfl⟩
        replace h := bnd_at h e17
        refine lv_iinc (v := x17) (lv' := [(1, .int x17), (0, .ref (ad 0))]) hx hb dX9_findOnes_17 hl (k := 1) rfl (by rw [e17]; rfl) (by decide) rfl (fun ls hl => ?_)
        refine lv_goto (tgt := 2) hx hb dX9_findOnes_20 (by decide) ?_
        exact ih2  x17 z16 _ _ _ hI (lv_sub hl [1, 0] rfl) h
  exact w2 FU  (0 : Int32) z _ _ _ hI (lv_sub hl [1, 0] rfl) h
