theorem dX9_clashes_0 : decode cX9_clashes 0 = .ok (.aload_n 0, 1) := by decide +kernel
theorem dX9_clashes_1 : decode cX9_clashes 1 = .ok (.invokevirtual 152, 3) := by decide +kernel
theorem dX9_clashes_4 : decode cX9_clashes 4 = .ok (.iconst 0, 1) := by decide +kernel
theorem dX9_clashes_5 : decode cX9_clashes 5 = .ok (.istore_n 1, 1) := by decide +kernel
theorem dX9_clashes_6 : decode cX9_clashes 6 = .ok (.iconst 0, 1) := by decide +kernel
theorem dX9_clashes_7 : decode cX9_clashes 7 = .ok (.istore_n 2, 1) := by decide +kernel
theorem dX9_clashes_8 : decode cX9_clashes 8 = .ok (.iload_n 2, 1) := by decide +kernel
theorem dX9_clashes_9 : decode cX9_clashes 9 = .ok (.bipush 100, 2) := by decide +kernel
theorem dX9_clashes_11 : decode cX9_clashes 11 = .ok (.if_icmp .gt 62, 3) := by decide +kernel
theorem dX9_clashes_14 : decode cX9_clashes 14 = .ok (.iload_n 1, 1) := by decide +kernel
theorem dX9_clashes_15 : decode cX9_clashes 15 = .ok (.ifCond .ne 58, 3) := by decide +kernel
theorem dX9_clashes_18 : decode cX9_clashes 18 = .ok (.aload_n 0, 1) := by decide +kernel
theorem dX9_clashes_19 : decode cX9_clashes 19 = .ok (.getfield 75, 3) := by decide +kernel
theorem dX9_clashes_22 : decode cX9_clashes 22 = .ok (.iload_n 2, 1) := by decide +kernel
theorem dX9_clashes_23 : decode cX9_clashes 23 = .ok (.baload, 1) := by decide +kernel
theorem dX9_clashes_24 : decode cX9_clashes 24 = .ok (.ifCond .eq 41, 3) := by decide +kernel
theorem dX9_clashes_27 : decode cX9_clashes 27 = .ok (.aload_n 0, 1) := by decide +kernel
theorem dX9_clashes_28 : decode cX9_clashes 28 = .ok (.getfield 28, 3) := by decide +kernel
theorem dX9_clashes_31 : decode cX9_clashes 31 = .ok (.iload_n 2, 1) := by decide +kernel
theorem dX9_clashes_32 : decode cX9_clashes 32 = .ok (.baload, 1) := by decide +kernel
theorem dX9_clashes_33 : decode cX9_clashes 33 = .ok (.ifCond .ne 32, 3) := by decide +kernel
theorem dX9_clashes_36 : decode cX9_clashes 36 = .ok (.aload_n 0, 1) := by decide +kernel
theorem dX9_clashes_37 : decode cX9_clashes 37 = .ok (.getfield 72, 3) := by decide +kernel
theorem dX9_clashes_40 : decode cX9_clashes 40 = .ok (.aload_n 0, 1) := by decide +kernel
theorem dX9_clashes_41 : decode cX9_clashes 41 = .ok (.getfield 22, 3) := by decide +kernel
theorem dX9_clashes_44 : decode cX9_clashes 44 = .ok (.iload_n 2, 1) := by decide +kernel
theorem dX9_clashes_45 : decode cX9_clashes 45 = .ok (.iaload, 1) := by decide +kernel
theorem dX9_clashes_46 : decode cX9_clashes 46 = .ok (.iaload, 1) := by decide +kernel
theorem dX9_clashes_47 : decode cX9_clashes 47 = .ok (.aload_n 0, 1) := by decide +kernel
theorem dX9_clashes_48 : decode cX9_clashes 48 = .ok (.getfield 72, 3) := by decide +kernel
theorem dX9_clashes_51 : decode cX9_clashes 51 = .ok (.aload_n 0, 1) := by decide +kernel
theorem dX9_clashes_52 : decode cX9_clashes 52 = .ok (.getfield 25, 3) := by decide +kernel
theorem dX9_clashes_55 : decode cX9_clashes 55 = .ok (.iload_n 2, 1) := by decide +kernel
theorem dX9_clashes_56 : decode cX9_clashes 56 = .ok (.iaload, 1) := by decide +kernel
theorem dX9_clashes_57 : decode cX9_clashes 57 = .ok (.iaload, 1) := by decide +kernel
theorem dX9_clashes_58 : decode cX9_clashes 58 = .ok (.if_icmp .ne 7, 3) := by decide +kernel
theorem dX9_clashes_61 : decode cX9_clashes 61 = .ok (.iconst 1, 1) := by decide +kernel
theorem dX9_clashes_62 : decode cX9_clashes 62 = .ok (.goto 4, 3) := by decide +kernel
theorem dX9_clashes_65 : decode cX9_clashes 65 = .ok (.iconst 0, 1) := by decide +kernel
theorem dX9_clashes_66 : decode cX9_clashes 66 = .ok (.istore_n 1, 1) := by decide +kernel
theorem dX9_clashes_67 : decode cX9_clashes 67 = .ok (.iinc 2 1, 3) := by decide +kernel
theorem dX9_clashes_70 : decode cX9_clashes 70 = .ok (.goto (-62), 3) := by decide +kernel
theorem dX9_clashes_73 : decode cX9_clashes 73 = .ok (.iconst 0, 1) := by decide +kernel
theorem dX9_clashes_74 : decode cX9_clashes 74 = .ok (.istore_n 2, 1) := by decide +kernel
theorem dX9_clashes_75 : decode cX9_clashes 75 = .ok (.iload_n 2, 1) := by decide +kernel
theorem dX9_clashes_76 : decode cX9_clashes 76 = .ok (.aload_n 0, 1) := by decide +kernel
theorem dX9_clashes_77 : decode cX9_clashes 77 = .ok (.getfield 108, 3) := by decide +kernel
theorem dX9_clashes_80 : decode cX9_clashes 80 = .ok (.if_icmp .ge 71, 3) := by decide +kernel
theorem dX9_clashes_83 : decode cX9_clashes 83 = .ok (.iload_n 1, 1) := by decide +kernel
theorem dX9_clashes_84 : decode cX9_clashes 84 = .ok (.ifCond .ne 67, 3) := by decide +kernel
theorem dX9_clashes_87 : decode cX9_clashes 87 = .ok (.iconst 0, 1) := by decide +kernel
theorem dX9_clashes_88 : decode cX9_clashes 88 = .ok (.istore_n 3, 1) := by decide +kernel
theorem dX9_clashes_89 : decode cX9_clashes 89 = .ok (.iload_n 3, 1) := by decide +kernel
theorem dX9_clashes_90 : decode cX9_clashes 90 = .ok (.iload_n 2, 1) := by decide +kernel
theorem dX9_clashes_91 : decode cX9_clashes 91 = .ok (.if_icmp .ge 54, 3) := by decide +kernel
theorem dX9_clashes_94 : decode cX9_clashes 94 = .ok (.iload_n 1, 1) := by decide +kernel
theorem dX9_clashes_95 : decode cX9_clashes 95 = .ok (.ifCond .ne 50, 3) := by decide +kernel
theorem dX9_clashes_98 : decode cX9_clashes 98 = .ok (.aload_n 0, 1) := by decide +kernel
theorem dX9_clashes_99 : decode cX9_clashes 99 = .ok (.getfield 7, 3) := by decide +kernel
theorem dX9_clashes_102 : decode cX9_clashes 102 = .ok (.iload_n 2, 1) := by decide +kernel
theorem dX9_clashes_103 : decode cX9_clashes 103 = .ok (.iaload, 1) := by decide +kernel
theorem dX9_clashes_104 : decode cX9_clashes 104 = .ok (.iconst 1, 1) := by decide +kernel
theorem dX9_clashes_105 : decode cX9_clashes 105 = .ok (.if_icmp .ne 32, 3) := by decide +kernel
theorem dX9_clashes_108 : decode cX9_clashes 108 = .ok (.aload_n 0, 1) := by decide +kernel
theorem dX9_clashes_109 : decode cX9_clashes 109 = .ok (.getfield 7, 3) := by decide +kernel
theorem dX9_clashes_112 : decode cX9_clashes 112 = .ok (.iload_n 3, 1) := by decide +kernel
theorem dX9_clashes_113 : decode cX9_clashes 113 = .ok (.iaload, 1) := by decide +kernel
theorem dX9_clashes_114 : decode cX9_clashes 114 = .ok (.iconst 1, 1) := by decide +kernel
theorem dX9_clashes_115 : decode cX9_clashes 115 = .ok (.if_icmp .ne 22, 3) := by decide +kernel
theorem dX9_clashes_118 : decode cX9_clashes 118 = .ok (.aload_n 0, 1) := by decide +kernel
theorem dX9_clashes_119 : decode cX9_clashes 119 = .ok (.getfield 72, 3) := by decide +kernel
theorem dX9_clashes_122 : decode cX9_clashes 122 = .ok (.iload_n 2, 1) := by decide +kernel
theorem dX9_clashes_123 : decode cX9_clashes 123 = .ok (.iaload, 1) := by decide +kernel
theorem dX9_clashes_124 : decode cX9_clashes 124 = .ok (.aload_n 0, 1) := by decide +kernel
theorem dX9_clashes_125 : decode cX9_clashes 125 = .ok (.getfield 72, 3) := by decide +kernel
theorem dX9_clashes_128 : decode cX9_clashes 128 = .ok (.iload_n 3, 1) := by decide +kernel
theorem dX9_clashes_129 : decode cX9_clashes 129 = .ok (.iaload, 1) := by decide +kernel
theorem dX9_clashes_130 : decode cX9_clashes 130 = .ok (.if_icmp .ne 7, 3) := by decide +kernel
theorem dX9_clashes_133 : decode cX9_clashes 133 = .ok (.iconst 1, 1) := by decide +kernel
theorem dX9_clashes_134 : decode cX9_clashes 134 = .ok (.goto 4, 3) := by decide +kernel
theorem dX9_clashes_137 : decode cX9_clashes 137 = .ok (.iconst 0, 1) := by decide +kernel
theorem dX9_clashes_138 : decode cX9_clashes 138 = .ok (.istore_n 1, 1) := by decide +kernel
theorem dX9_clashes_139 : decode cX9_clashes 139 = .ok (.iinc 3 1, 3) := by decide +kernel
theorem dX9_clashes_142 : decode cX9_clashes 142 = .ok (.goto (-53), 3) := by decide +kernel
theorem dX9_clashes_145 : decode cX9_clashes 145 = .ok (.iinc 2 1, 3) := by decide +kernel
theorem dX9_clashes_148 : decode cX9_clashes 148 = .ok (.goto (-73), 3) := by decide +kernel
theorem dX9_clashes_151 : decode cX9_clashes 151 = .ok (.iload_n 1, 1) := by decide +kernel
theorem dX9_clashes_152 : decode cX9_clashes 152 = .ok (.ireturn, 1) := by decide +kernel
abbrev rmX9_clashes : Room := { frames := 4, cells := 0, slots := 0, locals := 94 }
theorem ywX9_clashes : fY yX9_clashes "EqualCourtModel" cX9_clashes 4 (some .boolean) 0 := ⟨tw_1095, tp_45, tw_11, tw_1096, by decide +kernel⟩
set_option maxHeartbeats 4000000 in
set_option maxRecDepth 100000 in
theorem cX9_clashes_ok {D : va_G} {ad : Nat → Nat} {cy cz : ClassId} {l : Launch} {z : fS}  {r : Int32} {τ : fS} (h : fX9_clashes z = some (r, τ)) : fMi D 31 ad (cfM ad cy cz) cy cz l yX9_clashes cX9_clashes 4 (some .boolean) rmX9_clashes [.ref (ad 0)] z r τ := by
  refine f_bodyz (by decide) (Nat.le_of_ble_eq_true rfl) (fun p e s m args below meth c Q hC hret ls hl hI => ?_)
  have hx := hC.1
  have hb := hC.2.1
  have hl : lv_has ls 4 [(0, .ref (ad 0))] := hl
  unfold fX9_clashes at h
  have w73 : ∀ (z : fS) (v1 : Int32) (H : Heap) (locs : List Loc) (ls : Array Slot), fI D 31 ad (cfM ad cy cz) z s H locs → lv_has ls 4 [(0, .ref (ad 0)), (1, .int v1)] → jX9_clashes_73   z v1 = some (r, τ) → W p l e rmX9_clashes s m args below meth c H locs 0 0 Q (F0 m 73 ls []) := by
    intro z v1 H locs ls hI hl h
    unfold jX9_clashes_73 at h
    refine lv_iconst (v := 0) hx hb dX9_clashes_73 (by decide) ?_
    refine lv_istore_n (lv' := [(2, .int (0 : Int32)), (0, .ref (ad 0)), (1, .int v1)]) hx hb dX9_clashes_74 rfl hl (by decide) rfl (fun ls hl => ?_)
    have w75 : ∀ (N75 : Nat) (z : fS) (v1 : Int32) (v2 : Int32) (H : Heap) (locs : List Loc) (ls : Array Slot), fI D 31 ad (cfM ad cy cz) z s H locs → lv_has ls 4 [(0, .ref (ad 0)), (1, .int v1), (2, .int v2)] → lX9_clashes_75   z N75 v1 v2 = some (r, τ) → W p l e rmX9_clashes s m args below meth c H locs 0 0 Q (F0 m 75 ls []) := by
      intro N75
      induction N75 with
      | zero =>
        intro z v1 v2 H locs ls hI hl h
        exact none_no h
      | succ N75 ih75 =>
        have w145 : ∀ (z : fS) (v2 : Int32) (v1 : Int32) (H : Heap) (locs : List Loc) (ls : Array Slot), fI D 31 ad (cfM ad cy cz) z s H locs → lv_has ls 4 [(0, .ref (ad 0)), (1, .int v1), (2, .int v2)] → jX9_clashes_145  (lX9_clashes_75   z N75) z v2 v1 = some (r, τ) → W p l e rmX9_clashes s m args below meth c H locs 0 0 Q (F0 m 145 ls []) := by
          intro z v2 v1 H locs ls hI hl h
          unfold jX9_clashes_145 at h
          obtain ⟨x145, e145⟩ : ∃ y : Int32, y = (v2 + (1 : Int32)) := ⟨_, rfl⟩
          replace h := bnd_at h e145
          refine lv_iinc (v := x145) (lv' := [(2, .int x145), (0, .ref (ad 0)), (1, .int v1)]) hx hb dX9_clashes_145 hl (k := 2) rfl (by rw [e145]; rfl) (by decide) rfl (fun ls hl => ?_)
          refine lv_goto (tgt := 75) hx hb dX9_clashes_148 (by decide) ?_
          exact ih75 z v1 x145 _ _ _ hI (lv_sub hl [1, 2, 0] rfl) h
        intro z v1 v2 H locs ls hI hl h
        rw [lX9_clashes_75.eq_2] at h
        refine lv_iload_n hx hb dX9_clashes_75 rfl (lv_at hl 2 rfl) ?_
        refine lv_aload_n hx hb dX9_clashes_76 rfl (lv_at hl 0 rfl) ?_
        refine gX9_terms hC hI tw_858 dX9_clashes_77 ?_
        refine lv_icmp_ge (tgt := 151) hx hb dX9_clashes_80 (by decide) (fun c80 => ?_) (fun c80 => ?_)
        · replace h := if_t h c80
          refine lv_iload_n hx hb dX9_clashes_151 rfl (lv_at hl 1 rfl) ?_
          have g152 := (gd_at h).1
          replace h := (gd_at h).2
          exact hret h g152 dX9_clashes_152 hI
        · replace h := if_f h c80
          refine lv_iload_n hx hb dX9_clashes_83 rfl (lv_at hl 1 rfl) ?_
          refine lv_if_ne (tgt := 151) hx hb dX9_clashes_84 (by decide) (fun c84 => ?_) (fun c84 => ?_)
          · replace h := if_f h c84
            refine lv_iload_n hx hb dX9_clashes_151 rfl (lv_at hl 1 rfl) ?_
            have g152 := (gd_at h).1
            replace h := (gd_at h).2
            exact hret h g152 dX9_clashes_152 hI
          · replace h := if_t h c84
            refine lv_iconst (v := 0) hx hb dX9_clashes_87 (by decide) ?_
            refine lv_istore_n (lv' := [(3, .int (0 : Int32)), (0, .ref (ad 0)), (1, .int v1), (2, .int v2)]) hx hb dX9_clashes_88 rfl hl (by decide) rfl (fun ls hl => ?_)
            have w89 : ∀ (N89 : Nat) (z : fS) (v2 : Int32) (v1 : Int32) (v3 : Int32) (H : Heap) (locs : List Loc) (ls : Array Slot), fI D 31 ad (cfM ad cy cz) z s H locs → lv_has ls 4 [(0, .ref (ad 0)), (1, .int v1), (2, .int v2), (3, .int v3)] → lX9_clashes_89  (jX9_clashes_145  (lX9_clashes_75   z N75) z v2) z v2 N89 v1 v3 = some (r, τ) → W p l e rmX9_clashes s m args below meth c H locs 0 0 Q (F0 m 89 ls []) := by
              intro N89
              induction N89 with
              | zero =>
                intro z v2 v1 v3 H locs ls hI hl h
                exact none_no h
              | succ N89 ih89 =>
                intro z v2 v1 v3 H locs ls hI hl h
                rw [lX9_clashes_89.eq_2] at h
                refine lv_iload_n hx hb dX9_clashes_89 rfl (lv_at hl 3 rfl) ?_
                refine lv_iload_n hx hb dX9_clashes_90 rfl (lv_at hl 2 rfl) ?_
                refine lv_icmp_ge (tgt := 145) hx hb dX9_clashes_91 (by decide) (fun c91 => ?_) (fun c91 => ?_)
                · replace h := if_t h c91
                  exact w145 z v2 v1 _ _ _ hI (lv_sub hl [0, 1, 2] rfl) h
                · replace h := if_f h c91
                  refine lv_iload_n hx hb dX9_clashes_94 rfl (lv_at hl 1 rfl) ?_
                  refine lv_if_ne (tgt := 145) hx hb dX9_clashes_95 (by decide) (fun c95 => ?_) (fun c95 => ?_)
                  · replace h := if_f h c95
                    exact w145 z v2 v1 _ _ _ hI (lv_sub hl [0, 1, 2] rfl) h
                  · replace h := if_t h c95
                    refine lv_aload_n hx hb dX9_clashes_98 rfl (lv_at hl 0 rfl) ?_
                    refine gX9_kindOf hC hI tw_854 dX9_clashes_99 ?_
                    refine lv_iload_n hx hb dX9_clashes_102 rfl (lv_at hl 2 rfl) ?_
                    have g103 := (gd_at h).1
                    replace h := (gd_at h).2
                    refine r_iald hC hI aM_1 g103 dX9_clashes_103 ?_
                    refine lv_iconst (v := 1) hx hb dX9_clashes_104 (by decide) ?_
                    refine lv_icmp_ne (tgt := 137) hx hb dX9_clashes_105 (by decide) (fun c105 => ?_) (fun c105 => ?_)
                    · replace h := if_f h c105
                      refine lv_iconst (v := 0) hx hb dX9_clashes_137 (by decide) ?_
                      refine lv_istore_n (lv' := [(1, .int (0 : Int32)), (0, .ref (ad 0)), (2, .int v2), (3, .int v3)]) hx hb dX9_clashes_138 rfl hl (by decide) rfl (fun ls hl => ?_)
                      obtain ⟨x139, e139⟩ : ∃ y : Int32, y = (v3 + (1 : Int32)) := ⟨_, rfl⟩
                      replace h := bnd_at h e139
                      refine lv_iinc (v := x139) (lv' := [(3, .int x139), (1, .int (0 : Int32)), (0, .ref (ad 0)), (2, .int v2)]) hx hb dX9_clashes_139 hl (k := 3) rfl (by rw [e139]; rfl) (by decide) rfl (fun ls hl => ?_)
                      refine lv_goto (tgt := 89) hx hb dX9_clashes_142 (by decide) ?_
                      exact ih89 z v2 (0 : Int32) x139 _ _ _ hI (lv_sub hl [2, 1, 3, 0] rfl) h
                    · replace h := if_t h c105
                      refine lv_aload_n hx hb dX9_clashes_108 rfl (lv_at hl 0 rfl) ?_
                      refine gX9_kindOf hC hI tw_854 dX9_clashes_109 ?_
                      refine lv_iload_n hx hb dX9_clashes_112 rfl (lv_at hl 3 rfl) ?_
                      have g113 := (gd_at h).1
                      replace h := (gd_at h).2
                      refine r_iald hC hI aM_1 g113 dX9_clashes_113 ?_
                      refine lv_iconst (v := 1) hx hb dX9_clashes_114 (by decide) ?_
                      refine lv_icmp_ne (tgt := 137) hx hb dX9_clashes_115 (by decide) (fun c115 => ?_) (fun c115 => ?_)
                      · replace h := if_f h c115
                        refine lv_iconst (v := 0) hx hb dX9_clashes_137 (by decide) ?_
                        refine lv_istore_n (lv' := [(1, .int (0 : Int32)), (0, .ref (ad 0)), (2, .int v2), (3, .int v3)]) hx hb dX9_clashes_138 rfl hl (by decide) rfl (fun ls hl => ?_)
                        obtain ⟨x139, e139⟩ : ∃ y : Int32, y = (v3 + (1 : Int32)) := ⟨_, rfl⟩
                        replace h := bnd_at h e139
                        refine lv_iinc (v := x139) (lv' := [(3, .int x139), (1, .int (0 : Int32)), (0, .ref (ad 0)), (2, .int v2)]) hx hb dX9_clashes_139 hl (k := 3) rfl (by rw [e139]; rfl) (by decide) rfl (fun ls hl => ?_)
                        refine lv_goto (tgt := 89) hx hb dX9_clashes_142 (by decide) ?_
                        exact ih89 z v2 (0 : Int32) x139 _ _ _ hI (lv_sub hl [2, 1, 3, 0] rfl) h
                      · replace h := if_t h c115
                        refine lv_aload_n hx hb dX9_clashes_118 rfl (lv_at hl 0 rfl) ?_
                        refine gX9_one hC hI tw_882 dX9_clashes_119 ?_
                        refine lv_iload_n hx hb dX9_clashes_122 rfl (lv_at hl 2 rfl) ?_
                        have g123 := (gd_at h).1
                        replace h := (gd_at h).2
                        refine r_iald hC hI aM_20 g123 dX9_clashes_123 ?_
                        refine lv_aload_n hx hb dX9_clashes_124 rfl (lv_at hl 0 rfl) ?_
                        refine gX9_one hC hI tw_882 dX9_clashes_125 ?_
                        refine lv_iload_n hx hb dX9_clashes_128 rfl (lv_at hl 3 rfl) ?_
                        have g129 := (gd_at h).1
                        replace h := (gd_at h).2
                        refine r_iald hC hI aM_20 g129 dX9_clashes_129 ?_
                        refine lv_icmp_ne (tgt := 137) hx hb dX9_clashes_130 (by decide) (fun c130 => ?_) (fun c130 => ?_)
                        · replace h := if_f h c130
                          refine lv_iconst (v := 0) hx hb dX9_clashes_137 (by decide) ?_
                          refine lv_istore_n (lv' := [(1, .int (0 : Int32)), (0, .ref (ad 0)), (2, .int v2), (3, .int v3)]) hx hb dX9_clashes_138 rfl hl (by decide) rfl (fun ls hl => ?_)
                          obtain ⟨x139, e139⟩ : ∃ y : Int32, y = (v3 + (1 : Int32)) := ⟨_, rfl⟩
                          replace h := bnd_at h e139
                          refine lv_iinc (v := x139) (lv' := [(3, .int x139), (1, .int (0 : Int32)), (0, .ref (ad 0)), (2, .int v2)]) hx hb dX9_clashes_139 hl (k := 3) rfl (by rw [e139]; rfl) (by decide) rfl (fun ls hl => ?_)
                          refine lv_goto (tgt := 89) hx hb dX9_clashes_142 (by decide) ?_
                          exact ih89 z v2 (0 : Int32) x139 _ _ _ hI (lv_sub hl [2, 1, 3, 0] rfl) h
                        · replace h := if_t h c130
                          refine lv_iconst (v := 1) hx hb dX9_clashes_133 (by decide) ?_
                          refine lv_goto (tgt := 138) hx hb dX9_clashes_134 (by decide) ?_
                          refine lv_istore_n (lv' := [(1, .int (1 : Int32)), (0, .ref (ad 0)), (2, .int v2), (3, .int v3)]) hx hb dX9_clashes_138 rfl hl (by decide) rfl (fun ls hl => ?_)
                          obtain ⟨x139, e139⟩ : ∃ y : Int32, y = (v3 + (1 : Int32)) := ⟨_, rfl⟩
                          replace h := bnd_at h e139
                          refine lv_iinc (v := x139) (lv' := [(3, .int x139), (1, .int (1 : Int32)), (0, .ref (ad 0)), (2, .int v2)]) hx hb dX9_clashes_139 hl (k := 3) rfl (by rw [e139]; rfl) (by decide) rfl (fun ls hl => ?_)
                          refine lv_goto (tgt := 89) hx hb dX9_clashes_142 (by decide) ?_
                          exact ih89 z v2 (1 : Int32) x139 _ _ _ hI (lv_sub hl [2, 1, 3, 0] rfl) h
            exact w89 FU z v2 v1 (0 : Int32) _ _ _ hI (lv_sub hl [1, 2, 3, 0] rfl) h
    exact w75 FU z v1 (0 : Int32) _ _ _ hI (lv_sub hl [1, 2, 0] rfl) h
  refine lv_aload_n hx hb dX9_clashes_0 rfl (lv_at hl 0 rfl) ?_
  replace h := bp_at h
  obtain ⟨z1, e1, h⟩ := h
  refine r_callv (rest := []) hC hI oM_0 (C := "EqualCourtModel") rfl ywX9_findOnes tw_1057 (cX9_findOnes_ok  e1) ⟨Nat.le_of_ble_eq_true rfl, Nat.le_of_ble_eq_true rfl⟩ ⟨rfl, rfl⟩ rfl hl.1 rfl (Nat.le_of_ble_eq_true rfl) dX9_clashes_1 (fun H locs hI => ?_)
  refine lv_iconst (v := 0) hx hb dX9_clashes_4 (by decide) ?_
  refine lv_istore_n (lv' := [(1, .int (0 : Int32)), (0, .ref (ad 0))]) hx hb dX9_clashes_5 rfl hl (by decide) rfl (fun ls hl => ?_)
  refine lv_iconst (v := 0) hx hb dX9_clashes_6 (by decide) ?_
  refine lv_istore_n (lv' := [(2, .int (0 : Int32)), (1, .int (0 : Int32)), (0, .ref (ad 0))]) hx hb dX9_clashes_7 rfl hl (by decide) rfl (fun ls hl => ?_)
  have w8 : ∀ (N8 : Nat) (z : fS) (v1 : Int32) (v2 : Int32) (H : Heap) (locs : List Loc) (ls : Array Slot), fI D 31 ad (cfM ad cy cz) z s H locs → lv_has ls 4 [(0, .ref (ad 0)), (1, .int v1), (2, .int v2)] → lX9_clashes_8  (jX9_clashes_73   z) z N8 v1 v2 = some (r, τ) → W p l e rmX9_clashes s m args below meth c H locs 0 0 Q (F0 m 8 ls []) := by
    intro N8
    induction N8 with
    | zero =>
      intro z v1 v2 H locs ls hI hl h
      exact none_no h
    | succ N8 ih8 =>
      intro z v1 v2 H locs ls hI hl h
      rw [lX9_clashes_8.eq_2] at h
      refine lv_iload_n hx hb dX9_clashes_8 rfl (lv_at hl 2 rfl) ?_
      refine lv_bipush (v := 100) hx hb dX9_clashes_9 (by decide) ?_
      refine lv_icmp_gt (tgt := 73) hx hb dX9_clashes_11 (by decide) (fun c11 => ?_) (fun c11 => ?_)
      · replace h := if_t h c11
        exact w73 z v1 _ _ _ hI (lv_sub hl [0, 1] rfl) h
      · replace h := if_f h c11
        refine lv_iload_n hx hb dX9_clashes_14 rfl (lv_at hl 1 rfl) ?_
        refine lv_if_ne (tgt := 73) hx hb dX9_clashes_15 (by decide) (fun c15 => ?_) (fun c15 => ?_)
        · replace h := if_f h c15
          exact w73 z v1 _ _ _ hI (lv_sub hl [0, 1] rfl) h
        · replace h := if_t h c15
          refine lv_aload_n hx hb dX9_clashes_18 rfl (lv_at hl 0 rfl) ?_
          refine gX9_isIn hC hI tw_883 dX9_clashes_19 ?_
          refine lv_iload_n hx hb dX9_clashes_22 rfl (lv_at hl 2 rfl) ?_
          have g23 := (gd_at h).1
          replace h := (gd_at h).2
          refine r_zald hC hI aM_21 g23 dX9_clashes_23 ?_
          refine lv_if_eq (tgt := 65) hx hb dX9_clashes_24 (by decide) (fun c24 => ?_) (fun c24 => ?_)
          · replace h := if_t h c24
            refine lv_iconst (v := 0) hx hb dX9_clashes_65 (by decide) ?_
            refine lv_istore_n (lv' := [(1, .int (0 : Int32)), (0, .ref (ad 0)), (2, .int v2)]) hx hb dX9_clashes_66 rfl hl (by decide) rfl (fun ls hl => ?_)
            obtain ⟨x67, e67⟩ : ∃ y : Int32, y = (v2 + (1 : Int32)) := ⟨_, rfl⟩
            replace h := bnd_at h e67
            refine lv_iinc (v := x67) (lv' := [(2, .int x67), (1, .int (0 : Int32)), (0, .ref (ad 0))]) hx hb dX9_clashes_67 hl (k := 2) rfl (by rw [e67]; rfl) (by decide) rfl (fun ls hl => ?_)
            refine lv_goto (tgt := 8) hx hb dX9_clashes_70 (by decide) ?_
            exact ih8 z (0 : Int32) x67 _ _ _ hI (lv_sub hl [2, 1, 0] rfl) h
          · replace h := if_f h c24
            refine lv_aload_n hx hb dX9_clashes_27 rfl (lv_at hl 0 rfl) ?_
            refine gX9_isSame hC hI tw_861 dX9_clashes_28 ?_
            refine lv_iload_n hx hb dX9_clashes_31 rfl (lv_at hl 2 rfl) ?_
            have g32 := (gd_at h).1
            replace h := (gd_at h).2
            refine r_zald hC hI aM_7 g32 dX9_clashes_32 ?_
            refine lv_if_ne (tgt := 65) hx hb dX9_clashes_33 (by decide) (fun c33 => ?_) (fun c33 => ?_)
            · replace h := if_f h c33
              refine lv_iconst (v := 0) hx hb dX9_clashes_65 (by decide) ?_
              refine lv_istore_n (lv' := [(1, .int (0 : Int32)), (0, .ref (ad 0)), (2, .int v2)]) hx hb dX9_clashes_66 rfl hl (by decide) rfl (fun ls hl => ?_)
              obtain ⟨x67, e67⟩ : ∃ y : Int32, y = (v2 + (1 : Int32)) := ⟨_, rfl⟩
              replace h := bnd_at h e67
              refine lv_iinc (v := x67) (lv' := [(2, .int x67), (1, .int (0 : Int32)), (0, .ref (ad 0))]) hx hb dX9_clashes_67 hl (k := 2) rfl (by rw [e67]; rfl) (by decide) rfl (fun ls hl => ?_)
              refine lv_goto (tgt := 8) hx hb dX9_clashes_70 (by decide) ?_
              exact ih8 z (0 : Int32) x67 _ _ _ hI (lv_sub hl [2, 1, 0] rfl) h
            · replace h := if_t h c33
              refine lv_aload_n hx hb dX9_clashes_36 rfl (lv_at hl 0 rfl) ?_
              refine gX9_one hC hI tw_882 dX9_clashes_37 ?_
              refine lv_aload_n hx hb dX9_clashes_40 rfl (lv_at hl 0 rfl) ?_
              refine gX9_sayA hC hI tw_859 dX9_clashes_41 ?_
              refine lv_iload_n hx hb dX9_clashes_44 rfl (lv_at hl 2 rfl) ?_
              have g45 := (gd_at h).1
              replace h := (gd_at h).2
              refine r_iald hC hI aM_5 g45 dX9_clashes_45 ?_
              have g46 := (gd_at h).1
              replace h := (gd_at h).2
              refine r_iald hC hI aM_20 g46 dX9_clashes_46 ?_
              refine lv_aload_n hx hb dX9_clashes_47 rfl (lv_at hl 0 rfl) ?_
              refine gX9_one hC hI tw_882 dX9_clashes_48 ?_
              refine lv_aload_n hx hb dX9_clashes_51 rfl (lv_at hl 0 rfl) ?_
              refine gX9_sayB hC hI tw_860 dX9_clashes_52 ?_
              refine lv_iload_n hx hb dX9_clashes_55 rfl (lv_at hl 2 rfl) ?_
              have g56 := (gd_at h).1
              replace h := (gd_at h).2
              refine r_iald hC hI aM_6 g56 dX9_clashes_56 ?_
              have g57 := (gd_at h).1
              replace h := (gd_at h).2
              refine r_iald hC hI aM_20 g57 dX9_clashes_57 ?_
              refine lv_icmp_ne (tgt := 65) hx hb dX9_clashes_58 (by decide) (fun c58 => ?_) (fun c58 => ?_)
              · replace h := if_f h c58
                refine lv_iconst (v := 0) hx hb dX9_clashes_65 (by decide) ?_
                refine lv_istore_n (lv' := [(1, .int (0 : Int32)), (0, .ref (ad 0)), (2, .int v2)]) hx hb dX9_clashes_66 rfl hl (by decide) rfl (fun ls hl => ?_)
                obtain ⟨x67, e67⟩ : ∃ y : Int32, y = (v2 + (1 : Int32)) := ⟨_, rfl⟩
                replace h := bnd_at h e67
                refine lv_iinc (v := x67) (lv' := [(2, .int x67), (1, .int (0 : Int32)), (0, .ref (ad 0))]) hx hb dX9_clashes_67 hl (k := 2) rfl (by rw [e67]; rfl) (by decide) rfl (fun ls hl => ?_)
                refine lv_goto (tgt := 8) hx hb dX9_clashes_70 (by decide) ?_
                exact ih8 z (0 : Int32) x67 _ _ _ hI (lv_sub hl [2, 1, 0] rfl) h
              · replace h := if_t h c58
                refine lv_iconst (v := 1) hx hb dX9_clashes_61 (by decide) ?_
                refine lv_goto (tgt := 66) hx hb dX9_clashes_62 (by decide) ?_
                refine lv_istore_n (lv' := [(1, .int (1 : Int32)), (0, .ref (ad 0)), (2, .int v2)]) hx hb dX9_clashes_66 rfl hl (by decide) rfl (fun ls hl => ?_)
                obtain ⟨x67, e67⟩ : ∃ y : Int32, y = (v2 + (1 : Int32)) := ⟨_, rfl⟩
                replace h := bnd_at h e67
                refine lv_iinc (v := x67) (lv' := [(2, .int x67), (1, .int (1 : Int32)), (0, .ref (ad 0))]) hx hb dX9_clashes_67 hl (k := 2) rfl (by rw [e67]; rfl) (by decide) rfl (fun ls hl => ?_)
                refine lv_goto (tgt := 8) hx hb dX9_clashes_70 (by decide) ?_
                exact ih8 z (1 : Int32) x67 _ _ _ hI (lv_sub hl [2, 1, 0] rfl) h
  exact w8 FU z1 (0 : Int32) (0 : Int32) _ _ _ hI (lv_sub hl [2, 1, 0] rfl) h
theorem dX9_takeCourt_0 : decode cX9_takeCourt 0 = .ok (.iconst 0, 1) := by decide +kernel
theorem dX9_takeCourt_1 : decode cX9_takeCourt 1 = .ok (.istore_n 1, 1) := by decide +kernel
theorem dX9_takeCourt_2 : decode cX9_takeCourt 2 = .ok (.iload_n 1, 1) := by decide +kernel
theorem dX9_takeCourt_3 : decode cX9_takeCourt 3 = .ok (.bipush 100, 2) := by decide +kernel
theorem dX9_takeCourt_5 : decode cX9_takeCourt 5 = .ok (.if_icmp .gt 37, 3) := by decide +kernel
theorem dX9_takeCourt_8 : decode cX9_takeCourt 8 = .ok (.aload_n 0, 1) := by decide +kernel
theorem dX9_takeCourt_9 : decode cX9_takeCourt 9 = .ok (.getfield 75, 3) := by decide +kernel
theorem dX9_takeCourt_12 : decode cX9_takeCourt 12 = .ok (.iload_n 1, 1) := by decide +kernel
theorem dX9_takeCourt_13 : decode cX9_takeCourt 13 = .ok (.iload_n 1, 1) := by decide +kernel
theorem dX9_takeCourt_14 : decode cX9_takeCourt 14 = .ok (.aload_n 0, 1) := by decide +kernel
theorem dX9_takeCourt_15 : decode cX9_takeCourt 15 = .ok (.getfield 155, 3) := by decide +kernel
theorem dX9_takeCourt_18 : decode cX9_takeCourt 18 = .ok (.if_icmp .ge 16, 3) := by decide +kernel
theorem dX9_takeCourt_21 : decode cX9_takeCourt 21 = .ok (.aload_n 0, 1) := by decide +kernel
theorem dX9_takeCourt_22 : decode cX9_takeCourt 22 = .ok (.getfield 32, 3) := by decide +kernel
theorem dX9_takeCourt_25 : decode cX9_takeCourt 25 = .ok (.iload_n 1, 1) := by decide +kernel
theorem dX9_takeCourt_26 : decode cX9_takeCourt 26 = .ok (.baload, 1) := by decide +kernel
theorem dX9_takeCourt_27 : decode cX9_takeCourt 27 = .ok (.ifCond .eq 7, 3) := by decide +kernel
theorem dX9_takeCourt_30 : decode cX9_takeCourt 30 = .ok (.iconst 1, 1) := by decide +kernel
theorem dX9_takeCourt_31 : decode cX9_takeCourt 31 = .ok (.goto 4, 3) := by decide +kernel
theorem dX9_takeCourt_34 : decode cX9_takeCourt 34 = .ok (.iconst 0, 1) := by decide +kernel
theorem dX9_takeCourt_35 : decode cX9_takeCourt 35 = .ok (.bastore, 1) := by decide +kernel
theorem dX9_takeCourt_36 : decode cX9_takeCourt 36 = .ok (.iinc 1 1, 3) := by decide +kernel
theorem dX9_takeCourt_39 : decode cX9_takeCourt 39 = .ok (.goto (-37), 3) := by decide +kernel
theorem dX9_takeCourt_42 : decode cX9_takeCourt 42 = .ok (.return_, 1) := by decide +kernel
abbrev rmX9_takeCourt : Room := { frames := 0, cells := 0, slots := 0, locals := 0 }
theorem ywX9_takeCourt : fY yX9_takeCourt "EqualCourtModel" cX9_takeCourt 2 none 0 := ⟨tw_1055, tp_36, tw_11, tw_1056, by decide +kernel⟩
set_option maxHeartbeats 4000000 in
set_option maxRecDepth 100000 in
theorem cX9_takeCourt_ok {D : va_G} {ad : Nat → Nat} {cy cz : ClassId} {l : Launch} {z : fS}  {τ : fS} (h : fX9_takeCourt z = some τ) : fMv D 31 ad (cfM ad cy cz) cy cz l yX9_takeCourt cX9_takeCourt 2 none rmX9_takeCourt [.ref (ad 0)] z τ := by
  refine f_bodyv (by decide) (Nat.le_of_ble_eq_true rfl) (fun p e s m args below meth c Q hC hret ls hl hI => ?_)
  have hx := hC.1
  have hb := hC.2.1
  have hl : lv_has ls 2 [(0, .ref (ad 0))] := hl
  unfold fX9_takeCourt at h
  refine lv_iconst (v := 0) hx hb dX9_takeCourt_0 (by decide) ?_
  refine lv_istore_n (lv' := [(1, .int (0 : Int32)), (0, .ref (ad 0))]) hx hb dX9_takeCourt_1 rfl hl (by decide) rfl (fun ls hl => ?_)
  have w2 : ∀ (N2 : Nat) (v1 : Int32) (z : fS) (H : Heap) (locs : List Loc) (ls : Array Slot), fI D 31 ad (cfM ad cy cz) z s H locs → lv_has ls 2 [(0, .ref (ad 0)), (1, .int v1)] → lX9_takeCourt_2    N2 v1 z = some τ → W p l e rmX9_takeCourt s m args below meth c H locs 0 0 Q (F0 m 2 ls []) := by
    intro N2
    induction N2 with
    | zero =>
      intro v1 z H locs ls hI hl h
      exact none_no h
    | succ N2 ih2 =>
      intro v1 z H locs ls hI hl h
      rw [lX9_takeCourt_2.eq_2] at h
      refine lv_iload_n hx hb dX9_takeCourt_2 rfl (lv_at hl 1 rfl) ?_
      refine lv_bipush (v := 100) hx hb dX9_takeCourt_3 (by decide) ?_
      refine lv_icmp_gt (tgt := 42) hx hb dX9_takeCourt_5 (by decide) (fun c5 => ?_) (fun c5 => ?_)
      · replace h := if_t h c5
        exact hret h dX9_takeCourt_42 hI
      · replace h := if_f h c5
        refine lv_aload_n hx hb dX9_takeCourt_8 rfl (lv_at hl 0 rfl) ?_
        refine gX9_isIn hC hI tw_883 dX9_takeCourt_9 ?_
        refine lv_iload_n hx hb dX9_takeCourt_12 rfl (lv_at hl 1 rfl) ?_
        refine lv_iload_n hx hb dX9_takeCourt_13 rfl (lv_at hl 1 rfl) ?_
        refine lv_aload_n hx hb dX9_takeCourt_14 rfl (lv_at hl 0 rfl) ?_
        refine gX9_sayings hC hI tw_863 dX9_takeCourt_15 ?_
        refine lv_icmp_ge (tgt := 34) hx hb dX9_takeCourt_18 (by decide) (fun c18 => ?_) (fun c18 => ?_)
        · replace h := if_t h c18
          refine lv_iconst (v := 0) hx hb dX9_takeCourt_34 (by decide) ?_
          have g35 := (gd_at h).1
          replace h := (gd_at h).2
          refine r_zast hC hI aM_21 g35 dX9_takeCourt_35 (fun z35 H locs e35 hI => ?_)
          replace h := bnd_at h e35
          obtain ⟨x36, e36⟩ : ∃ y : Int32, y = (v1 + (1 : Int32)) := ⟨_, rfl⟩
          replace h := bnd_at h e36
          refine lv_iinc (v := x36) (lv' := [(1, .int x36), (0, .ref (ad 0))]) hx hb dX9_takeCourt_36 hl (k := 1) rfl (by rw [e36]; rfl) (by decide) rfl (fun ls hl => ?_)
          refine lv_goto (tgt := 2) hx hb dX9_takeCourt_39 (by decide) ?_
          exact ih2  x36 z35 _ _ _ hI (lv_sub hl [1, 0] rfl) h
        · replace h := if_f h c18
          refine lv_aload_n hx hb dX9_takeCourt_21 rfl (lv_at hl 0 rfl) ?_
          refine gX9_isTaken hC hI tw_862 dX9_takeCourt_22 ?_
          refine lv_iload_n hx hb dX9_takeCourt_25 rfl (lv_at hl 1 rfl) ?_
          have g26 := (gd_at h).1
          replace h := (gd_at h).2
          refine r_zald hC hI aM_8 g26 dX9_takeCourt_26 ?_
          refine lv_if_eq (tgt := 34) hx hb dX9_takeCourt_27 (by decide) (fun c27 => ?_) (fun c27 => ?_)
          · replace h := if_t h c27
            refine lv_iconst (v := 0) hx hb dX9_takeCourt_34 (by decide) ?_
            have g35 := (gd_at h).1
            replace h := (gd_at h).2
            refine r_zast hC hI aM_21 g35 dX9_takeCourt_35 (fun z35 H locs e35 hI => ?_)
            replace h := bnd_at h e35
            obtain ⟨x36, e36⟩ : ∃ y : Int32, y = (v1 + (1 : Int32)) := ⟨_, rfl⟩
            replace h := bnd_at h e36
            refine lv_iinc (v := x36) (lv' := [(1, .int x36), (0, .ref (ad 0))]) hx hb dX9_takeCourt_36 hl (k := 1) rfl (by rw [e36]; rfl) (by decide) rfl (fun ls hl => ?_)
            refine lv_goto (tgt := 2) hx hb dX9_takeCourt_39 (by decide) ?_
            exact ih2  x36 z35 _ _ _ hI (lv_sub hl [1, 0] rfl) h
          · replace h := if_f h c27
            refine lv_iconst (v := 1) hx hb dX9_takeCourt_30 (by decide) ?_
            refine lv_goto (tgt := 35) hx hb dX9_takeCourt_31 (by decide) ?_
            have g35 := (gd_at h).1
            replace h := (gd_at h).2
            refine r_zast hC hI aM_21 g35 dX9_takeCourt_35 (fun z35 H locs e35 hI => ?_)
            replace h := bnd_at h e35
            obtain ⟨x36, e36⟩ : ∃ y : Int32, y = (v1 + (1 : Int32)) := ⟨_, rfl⟩
            replace h := bnd_at h e36
            refine lv_iinc (v := x36) (lv' := [(1, .int x36), (0, .ref (ad 0))]) hx hb dX9_takeCourt_36 hl (k := 1) rfl (by rw [e36]; rfl) (by decide) rfl (fun ls hl => ?_)
            refine lv_goto (tgt := 2) hx hb dX9_takeCourt_39 (by decide) ?_
            exact ih2  x36 z35 _ _ _ hI (lv_sub hl [1, 0] rfl) h
  exact w2 FU  (0 : Int32) z _ _ _ hI (lv_sub hl [1, 0] rfl) h
theorem dX9_court_0 : decode cX9_court 0 = .ok (.aload_n 0, 1) := by decide +kernel
theorem dX9_court_1 : decode cX9_court 1 = .ok (.getfield 115, 3) := by decide +kernel
theorem dX9_court_4 : decode cX9_court 4 = .ok (.ifCond .ne 16, 3) := by decide +kernel
theorem dX9_court_7 : decode cX9_court 7 = .ok (.aload_n 0, 1) := by decide +kernel
theorem dX9_court_8 : decode cX9_court 8 = .ok (.invokevirtual 158, 3) := by decide +kernel
theorem dX9_court_11 : decode cX9_court 11 = .ok (.aload_n 0, 1) := by decide +kernel
theorem dX9_court_12 : decode cX9_court 12 = .ok (.invokevirtual 152, 3) := by decide +kernel
theorem dX9_court_15 : decode cX9_court 15 = .ok (.aload_n 0, 1) := by decide +kernel
theorem dX9_court_16 : decode cX9_court 16 = .ok (.iconst 1, 1) := by decide +kernel
theorem dX9_court_17 : decode cX9_court 17 = .ok (.putfield 115, 3) := by decide +kernel
theorem dX9_court_20 : decode cX9_court 20 = .ok (.return_, 1) := by decide +kernel
abbrev rmX9_court : Room := { frames := 4, cells := 0, slots := 0, locals := 94 }
theorem ywX9_court : fY yX9_court "EqualCourtModel" cX9_court 1 none 0 := ⟨tw_1051, tp_35, tw_11, tw_1052, by decide +kernel⟩
set_option maxHeartbeats 4000000 in
set_option maxRecDepth 100000 in
theorem cX9_court_ok {D : va_G} {ad : Nat → Nat} {cy cz : ClassId} {l : Launch} {z : fS}  {τ : fS} (h : fX9_court z = some τ) : fMv D 31 ad (cfM ad cy cz) cy cz l yX9_court cX9_court 1 none rmX9_court [.ref (ad 0)] z τ := by
  refine f_bodyv (by decide) (Nat.le_of_ble_eq_true rfl) (fun p e s m args below meth c Q hC hret ls hl hI => ?_)
  have hx := hC.1
  have hb := hC.2.1
  have hl : lv_has ls 1 [(0, .ref (ad 0))] := hl
  unfold fX9_court at h
  refine lv_aload_n hx hb dX9_court_0 rfl (lv_at hl 0 rfl) ?_
  refine gX9_isFresh hC hI tw_884 dX9_court_1 ?_
  refine lv_if_ne (tgt := 20) hx hb dX9_court_4 (by decide) (fun c4 => ?_) (fun c4 => ?_)
  · replace h := if_f h c4
    exact hret h dX9_court_20 hI
  · replace h := if_t h c4
    refine lv_aload_n hx hb dX9_court_7 rfl (lv_at hl 0 rfl) ?_
    replace h := bp_at h
    obtain ⟨z8, e8, h⟩ := h
    refine r_callv (rest := []) hC hI oM_0 (C := "EqualCourtModel") rfl ywX9_takeCourt tw_1053 (cX9_takeCourt_ok  e8) ⟨Nat.le_of_ble_eq_true rfl, Nat.le_of_ble_eq_true rfl⟩ ⟨rfl, rfl⟩ rfl hl.1 rfl (Nat.le_of_ble_eq_true rfl) dX9_court_8 (fun H locs hI => ?_)
    refine lv_aload_n hx hb dX9_court_11 rfl (lv_at hl 0 rfl) ?_
    replace h := bp_at h
    obtain ⟨z12, e12, h⟩ := h
    refine r_callv (rest := []) hC hI oM_0 (C := "EqualCourtModel") rfl ywX9_findOnes tw_1057 (cX9_findOnes_ok  e12) ⟨Nat.le_of_ble_eq_true rfl, Nat.le_of_ble_eq_true rfl⟩ ⟨rfl, rfl⟩ rfl hl.1 rfl (Nat.le_of_ble_eq_true rfl) dX9_court_12 (fun H locs hI => ?_)
    refine lv_aload_n hx hb dX9_court_15 rfl (lv_at hl 0 rfl) ?_
    refine lv_iconst (v := 1) hx hb dX9_court_16 (by decide) ?_
    refine pX9_isFresh hC hI tw_884 (by decide) dX9_court_17 (fun z17 H locs e17 hI => ?_)
    replace h := bnd_at h e17
    exact hret h dX9_court_20 hI
theorem dX9_areOne_0 : decode cX9_areOne 0 = .ok (.aload_n 0, 1) := by decide +kernel
theorem dX9_areOne_1 : decode cX9_areOne 1 = .ok (.invokevirtual 161, 3) := by decide +kernel
theorem dX9_areOne_4 : decode cX9_areOne 4 = .ok (.aload_n 0, 1) := by decide +kernel
theorem dX9_areOne_5 : decode cX9_areOne 5 = .ok (.getfield 72, 3) := by decide +kernel
theorem dX9_areOne_8 : decode cX9_areOne 8 = .ok (.iload_n 1, 1) := by decide +kernel
theorem dX9_areOne_9 : decode cX9_areOne 9 = .ok (.iaload, 1) := by decide +kernel
theorem dX9_areOne_10 : decode cX9_areOne 10 = .ok (.aload_n 0, 1) := by decide +kernel
theorem dX9_areOne_11 : decode cX9_areOne 11 = .ok (.getfield 72, 3) := by decide +kernel
theorem dX9_areOne_14 : decode cX9_areOne 14 = .ok (.iload_n 2, 1) := by decide +kernel
theorem dX9_areOne_15 : decode cX9_areOne 15 = .ok (.iaload, 1) := by decide +kernel
theorem dX9_areOne_16 : decode cX9_areOne 16 = .ok (.if_icmp .ne 7, 3) := by decide +kernel
theorem dX9_areOne_19 : decode cX9_areOne 19 = .ok (.iconst 1, 1) := by decide +kernel
theorem dX9_areOne_20 : decode cX9_areOne 20 = .ok (.goto 4, 3) := by decide +kernel
theorem dX9_areOne_23 : decode cX9_areOne 23 = .ok (.iconst 0, 1) := by decide +kernel
theorem dX9_areOne_24 : decode cX9_areOne 24 = .ok (.ireturn, 1) := by decide +kernel
abbrev rmX9_areOne : Room := { frames := 5, cells := 0, slots := 0, locals := 114 }
theorem ywX9_areOne : fY yX9_areOne "EqualCourtModel" cX9_areOne 3 (some .boolean) 2 := ⟨tw_1131, tp_49, tw_11, tw_1132, by decide +kernel⟩
set_option maxHeartbeats 4000000 in
set_option maxRecDepth 100000 in
theorem cX9_areOne_ok {D : va_G} {ad : Nat → Nat} {cy cz : ClassId} {l : Launch} {z : fS} {v1 : Int32} {v2 : Int32} {r : Int32} {τ : fS} (h : fX9_areOne z v1 v2 = some (r, τ)) : fMi D 31 ad (cfM ad cy cz) cy cz l yX9_areOne cX9_areOne 3 (some .boolean) rmX9_areOne [.ref (ad 0), .int v1, .int v2] z r τ := by
  refine f_bodyz (by decide) (Nat.le_of_ble_eq_true rfl) (fun p e s m args below meth c Q hC hret ls hl hI => ?_)
  have hx := hC.1
  have hb := hC.2.1
  have hl : lv_has ls 3 [(0, .ref (ad 0)), (1, .int v1), (2, .int v2)] := hl
  unfold fX9_areOne at h
  refine lv_aload_n hx hb dX9_areOne_0 rfl (lv_at hl 0 rfl) ?_
  replace h := bp_at h
  obtain ⟨z1, e1, h⟩ := h
  refine r_callv (rest := []) hC hI oM_0 (C := "EqualCourtModel") rfl ywX9_court tw_1049 (cX9_court_ok  e1) ⟨Nat.le_of_ble_eq_true rfl, Nat.le_of_ble_eq_true rfl⟩ ⟨rfl, rfl⟩ rfl hl.1 rfl (Nat.le_of_ble_eq_true rfl) dX9_areOne_1 (fun H locs hI => ?_)
  refine lv_aload_n hx hb dX9_areOne_4 rfl (lv_at hl 0 rfl) ?_
  refine gX9_one hC hI tw_882 dX9_areOne_5 ?_
  refine lv_iload_n hx hb dX9_areOne_8 rfl (lv_at hl 1 rfl) ?_
  have g9 := (gd_at h).1
  replace h := (gd_at h).2
  refine r_iald hC hI aM_20 g9 dX9_areOne_9 ?_
  refine lv_aload_n hx hb dX9_areOne_10 rfl (lv_at hl 0 rfl) ?_
  refine gX9_one hC hI tw_882 dX9_areOne_11 ?_
  refine lv_iload_n hx hb dX9_areOne_14 rfl (lv_at hl 2 rfl) ?_
  have g15 := (gd_at h).1
  replace h := (gd_at h).2
  refine r_iald hC hI aM_20 g15 dX9_areOne_15 ?_
  refine lv_icmp_ne (tgt := 23) hx hb dX9_areOne_16 (by decide) (fun c16 => ?_) (fun c16 => ?_)
  · replace h := if_f h c16
    refine lv_iconst (v := 0) hx hb dX9_areOne_23 (by decide) ?_
    exact hret h (by decide) dX9_areOne_24 hI
  · replace h := if_t h c16
    refine lv_iconst (v := 1) hx hb dX9_areOne_19 (by decide) ?_
    refine lv_goto (tgt := 24) hx hb dX9_areOne_20 (by decide) ?_
    exact hret h (by decide) dX9_areOne_24 hI
theorem dX9_add_0 : decode cX9_add 0 = .ok (.aload_n 0, 1) := by decide +kernel
theorem dX9_add_1 : decode cX9_add 1 = .ok (.getfield 22, 3) := by decide +kernel
theorem dX9_add_4 : decode cX9_add 4 = .ok (.bipush 100, 2) := by decide +kernel
theorem dX9_add_6 : decode cX9_add 6 = .ok (.iload_n 1, 1) := by decide +kernel
theorem dX9_add_7 : decode cX9_add 7 = .ok (.iastore, 1) := by decide +kernel
theorem dX9_add_8 : decode cX9_add 8 = .ok (.aload_n 0, 1) := by decide +kernel
theorem dX9_add_9 : decode cX9_add 9 = .ok (.getfield 25, 3) := by decide +kernel
theorem dX9_add_12 : decode cX9_add 12 = .ok (.bipush 100, 2) := by decide +kernel
theorem dX9_add_14 : decode cX9_add 14 = .ok (.iload_n 2, 1) := by decide +kernel
theorem dX9_add_15 : decode cX9_add 15 = .ok (.iastore, 1) := by decide +kernel
theorem dX9_add_16 : decode cX9_add 16 = .ok (.aload_n 0, 1) := by decide +kernel
theorem dX9_add_17 : decode cX9_add 17 = .ok (.getfield 28, 3) := by decide +kernel
theorem dX9_add_20 : decode cX9_add 20 = .ok (.bipush 100, 2) := by decide +kernel
theorem dX9_add_22 : decode cX9_add 22 = .ok (.iload_n 3, 1) := by decide +kernel
theorem dX9_add_23 : decode cX9_add 23 = .ok (.bastore, 1) := by decide +kernel
theorem dX9_add_24 : decode cX9_add 24 = .ok (.aload_n 0, 1) := by decide +kernel
theorem dX9_add_25 : decode cX9_add 25 = .ok (.getfield 75, 3) := by decide +kernel
theorem dX9_add_28 : decode cX9_add 28 = .ok (.bipush 100, 2) := by decide +kernel
theorem dX9_add_30 : decode cX9_add 30 = .ok (.iconst 1, 1) := by decide +kernel
theorem dX9_add_31 : decode cX9_add 31 = .ok (.bastore, 1) := by decide +kernel
theorem dX9_add_32 : decode cX9_add 32 = .ok (.return_, 1) := by decide +kernel
abbrev rmX9_add : Room := { frames := 0, cells := 0, slots := 0, locals := 0 }
theorem ywX9_add : fY yX9_add "EqualCourtModel" cX9_add 4 none 3 := ⟨tw_1091, tp_44, tw_11, tw_1092, by decide +kernel⟩
set_option maxHeartbeats 4000000 in
set_option maxRecDepth 100000 in
theorem cX9_add_ok {D : va_G} {ad : Nat → Nat} {cy cz : ClassId} {l : Launch} {z : fS} {v1 : Int32} {v2 : Int32} {v3 : Int32} {τ : fS} (h : fX9_add z v1 v2 v3 = some τ) : fMv D 31 ad (cfM ad cy cz) cy cz l yX9_add cX9_add 4 none rmX9_add [.ref (ad 0), .int v1, .int v2, .int v3] z τ := by
  refine f_bodyv (by decide) (Nat.le_of_ble_eq_true rfl) (fun p e s m args below meth c Q hC hret ls hl hI => ?_)
  have hx := hC.1
  have hb := hC.2.1
  have hl : lv_has ls 4 [(0, .ref (ad 0)), (1, .int v1), (2, .int v2), (3, .int v3)] := hl
  unfold fX9_add at h
  refine lv_aload_n hx hb dX9_add_0 rfl (lv_at hl 0 rfl) ?_
  refine gX9_sayA hC hI tw_859 dX9_add_1 ?_
  refine lv_bipush (v := 100) hx hb dX9_add_4 (by decide) ?_
  refine lv_iload_n hx hb dX9_add_6 rfl (lv_at hl 1 rfl) ?_
  have g7 := (gd_at h).1
  replace h := (gd_at h).2
  refine r_iast hC hI aM_5 g7 dX9_add_7 (fun z7 H locs e7 hI => ?_)
  replace h := bnd_at h e7
  refine lv_aload_n hx hb dX9_add_8 rfl (lv_at hl 0 rfl) ?_
  refine gX9_sayB hC hI tw_860 dX9_add_9 ?_
  refine lv_bipush (v := 100) hx hb dX9_add_12 (by decide) ?_
  refine lv_iload_n hx hb dX9_add_14 rfl (lv_at hl 2 rfl) ?_
  have g15 := (gd_at h).1
  replace h := (gd_at h).2
  refine r_iast hC hI aM_6 g15 dX9_add_15 (fun z15 H locs e15 hI => ?_)
  replace h := bnd_at h e15
  refine lv_aload_n hx hb dX9_add_16 rfl (lv_at hl 0 rfl) ?_
  refine gX9_isSame hC hI tw_861 dX9_add_17 ?_
  refine lv_bipush (v := 100) hx hb dX9_add_20 (by decide) ?_
  refine lv_iload_n hx hb dX9_add_22 rfl (lv_at hl 3 rfl) ?_
  have g23 := (gd_at h).1
  replace h := (gd_at h).2
  refine r_zast hC hI aM_7 g23 dX9_add_23 (fun z23 H locs e23 hI => ?_)
  replace h := bnd_at h e23
  refine lv_aload_n hx hb dX9_add_24 rfl (lv_at hl 0 rfl) ?_
  refine gX9_isIn hC hI tw_883 dX9_add_25 ?_
  refine lv_bipush (v := 100) hx hb dX9_add_28 (by decide) ?_
  refine lv_iconst (v := 1) hx hb dX9_add_30 (by decide) ?_
  have g31 := (gd_at h).1
  replace h := (gd_at h).2
  refine r_zast hC hI aM_21 g31 dX9_add_31 (fun z31 H locs e31 hI => ?_)
  replace h := bnd_at h e31
  exact hret h dX9_add_32 hI
theorem dX9_does_0 : decode cX9_does 0 = .ok (.iload_n 1, 1) := by decide +kernel
theorem dX9_does_1 : decode cX9_does 1 = .ok (.ifCond .ge 8, 3) := by decide +kernel
theorem dX9_does_4 : decode cX9_does 4 = .ok (.aload_n 0, 1) := by decide +kernel
theorem dX9_does_5 : decode cX9_does 5 = .ok (.invokevirtual 163, 3) := by decide +kernel
theorem dX9_does_8 : decode cX9_does 8 = .ok (.ireturn, 1) := by decide +kernel
theorem dX9_does_9 : decode cX9_does 9 = .ok (.aload_n 0, 1) := by decide +kernel
theorem dX9_does_10 : decode cX9_does 10 = .ok (.invokevirtual 152, 3) := by decide +kernel
theorem dX9_does_13 : decode cX9_does 13 = .ok (.aload_n 0, 1) := by decide +kernel
theorem dX9_does_14 : decode cX9_does 14 = .ok (.getfield 72, 3) := by decide +kernel
theorem dX9_does_17 : decode cX9_does 17 = .ok (.iload_n 1, 1) := by decide +kernel
theorem dX9_does_18 : decode cX9_does 18 = .ok (.iaload, 1) := by decide +kernel
theorem dX9_does_19 : decode cX9_does 19 = .ok (.aload_n 0, 1) := by decide +kernel
theorem dX9_does_20 : decode cX9_does 20 = .ok (.getfield 72, 3) := by decide +kernel
theorem dX9_does_23 : decode cX9_does 23 = .ok (.iload_n 2, 1) := by decide +kernel
theorem dX9_does_24 : decode cX9_does 24 = .ok (.iaload, 1) := by decide +kernel
theorem dX9_does_25 : decode cX9_does 25 = .ok (.if_icmp .ne 7, 3) := by decide +kernel
theorem dX9_does_28 : decode cX9_does 28 = .ok (.iconst 1, 1) := by decide +kernel
theorem dX9_does_29 : decode cX9_does 29 = .ok (.goto 4, 3) := by decide +kernel
theorem dX9_does_32 : decode cX9_does 32 = .ok (.iconst 0, 1) := by decide +kernel
theorem dX9_does_33 : decode cX9_does 33 = .ok (.ireturn, 1) := by decide +kernel
abbrev rmX9_does : Room := { frames := 5, cells := 0, slots := 0, locals := 117 }
theorem ywX9_does : fY yX9_does "EqualCourtModel" cX9_does 3 (some .boolean) 2 := ⟨tw_1103, tp_47, tw_11, tw_1104, by decide +kernel⟩
set_option maxHeartbeats 4000000 in
set_option maxRecDepth 100000 in
theorem cX9_does_ok {D : va_G} {ad : Nat → Nat} {cy cz : ClassId} {l : Launch} {z : fS} {v1 : Int32} {v2 : Int32} {r : Int32} {τ : fS} (h : fX9_does z v1 v2 = some (r, τ)) : fMi D 31 ad (cfM ad cy cz) cy cz l yX9_does cX9_does 3 (some .boolean) rmX9_does [.ref (ad 0), .int v1, .int v2] z r τ := by
  refine f_bodyz (by decide) (Nat.le_of_ble_eq_true rfl) (fun p e s m args below meth c Q hC hret ls hl hI => ?_)
  have hx := hC.1
  have hb := hC.2.1
  have hl : lv_has ls 3 [(0, .ref (ad 0)), (1, .int v1), (2, .int v2)] := hl
  unfold fX9_does at h
  refine lv_iload_n hx hb dX9_does_0 rfl (lv_at hl 1 rfl) ?_
  refine lv_if_ge (tgt := 9) hx hb dX9_does_1 (by decide) (fun c1 => ?_) (fun c1 => ?_)
  · replace h := if_t h c1
    refine lv_aload_n hx hb dX9_does_9 rfl (lv_at hl 0 rfl) ?_
    replace h := bp_at h
    obtain ⟨z10, e10, h⟩ := h
    refine r_callv (rest := []) hC hI oM_0 (C := "EqualCourtModel") rfl ywX9_findOnes tw_1057 (cX9_findOnes_ok  e10) ⟨Nat.le_of_ble_eq_true rfl, Nat.le_of_ble_eq_true rfl⟩ ⟨rfl, rfl⟩ rfl hl.1 rfl (Nat.le_of_ble_eq_true rfl) dX9_does_10 (fun H locs hI => ?_)
    refine lv_aload_n hx hb dX9_does_13 rfl (lv_at hl 0 rfl) ?_
    refine gX9_one hC hI tw_882 dX9_does_14 ?_
    refine lv_iload_n hx hb dX9_does_17 rfl (lv_at hl 1 rfl) ?_
    have g18 := (gd_at h).1
    replace h := (gd_at h).2
    refine r_iald hC hI aM_20 g18 dX9_does_18 ?_
    refine lv_aload_n hx hb dX9_does_19 rfl (lv_at hl 0 rfl) ?_
    refine gX9_one hC hI tw_882 dX9_does_20 ?_
    refine lv_iload_n hx hb dX9_does_23 rfl (lv_at hl 2 rfl) ?_
    have g24 := (gd_at h).1
    replace h := (gd_at h).2
    refine r_iald hC hI aM_20 g24 dX9_does_24 ?_
    refine lv_icmp_ne (tgt := 32) hx hb dX9_does_25 (by decide) (fun c25 => ?_) (fun c25 => ?_)
    · replace h := if_f h c25
      refine lv_iconst (v := 0) hx hb dX9_does_32 (by decide) ?_
      exact hret h (by decide) dX9_does_33 hI
    · replace h := if_t h c25
      refine lv_iconst (v := 1) hx hb dX9_does_28 (by decide) ?_
      refine lv_goto (tgt := 33) hx hb dX9_does_29 (by decide) ?_
      exact hret h (by decide) dX9_does_33 hI
  · replace h := if_f h c1
    refine lv_aload_n hx hb dX9_does_4 rfl (lv_at hl 0 rfl) ?_
    replace h := bd_at h
    obtain ⟨r5, z5, e5, h⟩ := h
    refine r_calli (rest := []) hC hI oM_0 (C := "EqualCourtModel") rfl ywX9_clashes tw_1093 (cX9_clashes_ok  e5) ⟨Nat.le_of_ble_eq_true rfl, Nat.le_of_ble_eq_true rfl⟩ ⟨rfl, rfl⟩ rfl hl.1 rfl (Nat.le_of_ble_eq_true rfl) dX9_does_5 (fun H locs hI => ?_)
    have g8 := (gd_at h).1
    replace h := (gd_at h).2
    exact hret h g8 dX9_does_8 hI
theorem dX9_thin_0 : decode cX9_thin 0 = .ok (.iconst 0, 1) := by decide +kernel
theorem dX9_thin_1 : decode cX9_thin 1 = .ok (.istore 4, 2) := by decide +kernel
theorem dX9_thin_3 : decode cX9_thin 3 = .ok (.iconst 0, 1) := by decide +kernel
theorem dX9_thin_4 : decode cX9_thin 4 = .ok (.istore 5, 2) := by decide +kernel
theorem dX9_thin_6 : decode cX9_thin 6 = .ok (.iload 5, 2) := by decide +kernel
theorem dX9_thin_8 : decode cX9_thin 8 = .ok (.aload_n 0, 1) := by decide +kernel
theorem dX9_thin_9 : decode cX9_thin 9 = .ok (.getfield 155, 3) := by decide +kernel
theorem dX9_thin_12 : decode cX9_thin 12 = .ok (.if_icmp .ge 53, 3) := by decide +kernel
theorem dX9_thin_15 : decode cX9_thin 15 = .ok (.aload_n 0, 1) := by decide +kernel
theorem dX9_thin_16 : decode cX9_thin 16 = .ok (.getfield 75, 3) := by decide +kernel
theorem dX9_thin_19 : decode cX9_thin 19 = .ok (.iload 5, 2) := by decide +kernel
theorem dX9_thin_21 : decode cX9_thin 21 = .ok (.baload, 1) := by decide +kernel
theorem dX9_thin_22 : decode cX9_thin 22 = .ok (.ifCond .eq 37, 3) := by decide +kernel
theorem dX9_thin_25 : decode cX9_thin 25 = .ok (.aload_n 0, 1) := by decide +kernel
theorem dX9_thin_26 : decode cX9_thin 26 = .ok (.getfield 75, 3) := by decide +kernel
theorem dX9_thin_29 : decode cX9_thin 29 = .ok (.iload 5, 2) := by decide +kernel
theorem dX9_thin_31 : decode cX9_thin 31 = .ok (.iconst 0, 1) := by decide +kernel
theorem dX9_thin_32 : decode cX9_thin 32 = .ok (.bastore, 1) := by decide +kernel
theorem dX9_thin_33 : decode cX9_thin 33 = .ok (.aload_n 0, 1) := by decide +kernel
theorem dX9_thin_34 : decode cX9_thin 34 = .ok (.iload_n 1, 1) := by decide +kernel
theorem dX9_thin_35 : decode cX9_thin 35 = .ok (.iload_n 2, 1) := by decide +kernel
theorem dX9_thin_36 : decode cX9_thin 36 = .ok (.invokevirtual 166, 3) := by decide +kernel
theorem dX9_thin_39 : decode cX9_thin 39 = .ok (.ifCond .ne 20, 3) := by decide +kernel
theorem dX9_thin_42 : decode cX9_thin 42 = .ok (.aload_n 0, 1) := by decide +kernel
theorem dX9_thin_43 : decode cX9_thin 43 = .ok (.getfield 75, 3) := by decide +kernel
theorem dX9_thin_46 : decode cX9_thin 46 = .ok (.iload 5, 2) := by decide +kernel
theorem dX9_thin_48 : decode cX9_thin 48 = .ok (.iconst 1, 1) := by decide +kernel
theorem dX9_thin_49 : decode cX9_thin 49 = .ok (.bastore, 1) := by decide +kernel
theorem dX9_thin_50 : decode cX9_thin 50 = .ok (.aload_n 3, 1) := by decide +kernel
theorem dX9_thin_51 : decode cX9_thin 51 = .ok (.iload 4, 2) := by decide +kernel
theorem dX9_thin_53 : decode cX9_thin 53 = .ok (.iload 5, 2) := by decide +kernel
theorem dX9_thin_55 : decode cX9_thin 55 = .ok (.iastore, 1) := by decide +kernel
theorem dX9_thin_56 : decode cX9_thin 56 = .ok (.iinc 4 1, 3) := by decide +kernel
theorem dX9_thin_59 : decode cX9_thin 59 = .ok (.iinc 5 1, 3) := by decide +kernel
theorem dX9_thin_62 : decode cX9_thin 62 = .ok (.goto (-56), 3) := by decide +kernel
theorem dX9_thin_65 : decode cX9_thin 65 = .ok (.iload 4, 2) := by decide +kernel
theorem dX9_thin_67 : decode cX9_thin 67 = .ok (.ireturn, 1) := by decide +kernel
abbrev rmX9_thin : Room := { frames := 6, cells := 0, slots := 0, locals := 139 }
theorem ywX9_thin : fY yX9_thin "EqualCourtModel" cX9_thin 6 (some .int) 3 := ⟨tw_1099, tp_46, tw_11, tw_1100, by decide +kernel⟩
set_option maxHeartbeats 4000000 in
set_option maxRecDepth 100000 in
theorem cX9_thin_ok {D : va_G} {ad : Nat → Nat} {cy cz : ClassId} {l : Launch} {z : fS} {v1 : Int32} {v2 : Int32} {v3 : Nat} (hv3 : ∀ {ad : Nat → Nat} {cy cz : ClassId}, fAi 31 (cfM ad cy cz) cy v3 100) {r : Int32} {τ : fS} (h : fX9_thin z v1 v2 v3 = some (r, τ)) : fMi D 31 ad (cfM ad cy cz) cy cz l yX9_thin cX9_thin 6 (some .int) rmX9_thin [.ref (ad 0), .int v1, .int v2, .ref (ad v3)] z r τ := by
  refine f_bodyi (by decide) (Nat.le_of_ble_eq_true rfl) (fun p e s m args below meth c Q hC hret ls hl hI => ?_)
  have hx := hC.1
  have hb := hC.2.1
  have hl : lv_has ls 6 [(0, .ref (ad 0)), (1, .int v1), (2, .int v2), (3, .ref (ad v3))] := hl
  unfold fX9_thin at h
  refine lv_iconst (v := 0) hx hb dX9_thin_0 (by decide) ?_
  refine lv_istore (lv' := [(4, .int (0 : Int32)), (0, .ref (ad 0)), (1, .int v1), (2, .int v2), (3, .ref (ad v3))]) hx hb dX9_thin_1 hl (by decide) rfl (fun ls hl => ?_)
  refine lv_iconst (v := 0) hx hb dX9_thin_3 (by decide) ?_
  refine lv_istore (lv' := [(5, .int (0 : Int32)), (4, .int (0 : Int32)), (0, .ref (ad 0)), (1, .int v1), (2, .int v2), (3, .ref (ad v3))]) hx hb dX9_thin_4 hl (by decide) rfl (fun ls hl => ?_)
  have w6 : ∀ (N6 : Nat) (v1 : Int32) (v2 : Int32) (v4 : Int32) (v5 : Int32) (z : fS) (H : Heap) (locs : List Loc) (ls : Array Slot), fI D 31 ad (cfM ad cy cz) z s H locs → lv_has ls 6 [(0, .ref (ad 0)), (1, .int v1), (2, .int v2), (3, .ref (ad v3)), (4, .int v4), (5, .int v5)] → lX9_thin_6 v3  v1 v2 N6 v4 v5 z = some (r, τ) → W p l e rmX9_thin s m args below meth c H locs 0 0 Q (F0 m 6 ls []) := by
    intro N6
    induction N6 with
    | zero =>
      intro v1 v2 v4 v5 z H locs ls hI hl h
      exact none_no h
    | succ N6 ih6 =>
      intro v1 v2 v4 v5 z H locs ls hI hl h
      rw [lX9_thin_6.eq_2] at h
      refine lv_iload hx hb dX9_thin_6 (lv_at hl 5 rfl) ?_
      refine lv_aload_n hx hb dX9_thin_8 rfl (lv_at hl 0 rfl) ?_
      refine gX9_sayings hC hI tw_863 dX9_thin_9 ?_
      refine lv_icmp_ge (tgt := 65) hx hb dX9_thin_12 (by decide) (fun c12 => ?_) (fun c12 => ?_)
      · replace h := if_t h c12
        refine lv_iload hx hb dX9_thin_65 (lv_at hl 4 rfl) ?_
        exact hret h dX9_thin_67 hI
      · replace h := if_f h c12
        refine lv_aload_n hx hb dX9_thin_15 rfl (lv_at hl 0 rfl) ?_
        refine gX9_isIn hC hI tw_883 dX9_thin_16 ?_
        refine lv_iload hx hb dX9_thin_19 (lv_at hl 5 rfl) ?_
        have g21 := (gd_at h).1
        replace h := (gd_at h).2
        refine r_zald hC hI aM_21 g21 dX9_thin_21 ?_
        refine lv_if_eq (tgt := 59) hx hb dX9_thin_22 (by decide) (fun c22 => ?_) (fun c22 => ?_)
        · replace h := if_t h c22
          obtain ⟨x59, e59⟩ : ∃ y : Int32, y = (v5 + (1 : Int32)) := ⟨_, rfl⟩
          replace h := bnd_at h e59
          refine lv_iinc (v := x59) (lv' := [(5, .int x59), (0, .ref (ad 0)), (1, .int v1), (2, .int v2), (3, .ref (ad v3)), (4, .int v4)]) hx hb dX9_thin_59 hl (k := 5) rfl (by rw [e59]; rfl) (by decide) rfl (fun ls hl => ?_)
          refine lv_goto (tgt := 6) hx hb dX9_thin_62 (by decide) ?_
          exact ih6 v1 v2 v4 x59 z _ _ _ hI (lv_sub hl [1, 2, 3, 4, 5, 0] rfl) h
        · replace h := if_f h c22
          refine lv_aload_n hx hb dX9_thin_25 rfl (lv_at hl 0 rfl) ?_
          refine gX9_isIn hC hI tw_883 dX9_thin_26 ?_
          refine lv_iload hx hb dX9_thin_29 (lv_at hl 5 rfl) ?_
          refine lv_iconst (v := 0) hx hb dX9_thin_31 (by decide) ?_
          have g32 := (gd_at h).1
          replace h := (gd_at h).2
          refine r_zast hC hI aM_21 g32 dX9_thin_32 (fun z32 H locs e32 hI => ?_)
          replace h := bnd_at h e32
          refine lv_aload_n hx hb dX9_thin_33 rfl (lv_at hl 0 rfl) ?_
          refine lv_iload_n hx hb dX9_thin_34 rfl (lv_at hl 1 rfl) ?_
          refine lv_iload_n hx hb dX9_thin_35 rfl (lv_at hl 2 rfl) ?_
          replace h := bd_at h
          obtain ⟨r36, z36, e36, h⟩ := h
          refine r_calli (rest := []) hC hI oM_0 (C := "EqualCourtModel") rfl ywX9_does tw_1101 (cX9_does_ok  e36) ⟨Nat.le_of_ble_eq_true rfl, Nat.le_of_ble_eq_true rfl⟩ ⟨rfl, rfl⟩ rfl hl.1 rfl (Nat.le_of_ble_eq_true rfl) dX9_thin_36 (fun H locs hI => ?_)
          refine lv_if_ne (tgt := 59) hx hb dX9_thin_39 (by decide) (fun c39 => ?_) (fun c39 => ?_)
          · replace h := if_f h c39
            obtain ⟨x59, e59⟩ : ∃ y : Int32, y = (v5 + (1 : Int32)) := ⟨_, rfl⟩
            replace h := bnd_at h e59
            refine lv_iinc (v := x59) (lv' := [(5, .int x59), (0, .ref (ad 0)), (1, .int v1), (2, .int v2), (3, .ref (ad v3)), (4, .int v4)]) hx hb dX9_thin_59 hl (k := 5) rfl (by rw [e59]; rfl) (by decide) rfl (fun ls hl => ?_)
            refine lv_goto (tgt := 6) hx hb dX9_thin_62 (by decide) ?_
            exact ih6 v1 v2 v4 x59 z36 _ _ _ hI (lv_sub hl [1, 2, 3, 4, 5, 0] rfl) h
          · replace h := if_t h c39
            refine lv_aload_n hx hb dX9_thin_42 rfl (lv_at hl 0 rfl) ?_
            refine gX9_isIn hC hI tw_883 dX9_thin_43 ?_
            refine lv_iload hx hb dX9_thin_46 (lv_at hl 5 rfl) ?_
            refine lv_iconst (v := 1) hx hb dX9_thin_48 (by decide) ?_
            have g49 := (gd_at h).1
            replace h := (gd_at h).2
            refine r_zast hC hI aM_21 g49 dX9_thin_49 (fun z49 H locs e49 hI => ?_)
            replace h := bnd_at h e49
            refine lv_aload_n hx hb dX9_thin_50 rfl (lv_at hl 3 rfl) ?_
            refine lv_iload hx hb dX9_thin_51 (lv_at hl 4 rfl) ?_
            refine lv_iload hx hb dX9_thin_53 (lv_at hl 5 rfl) ?_
            have g55 := (gd_at h).1
            replace h := (gd_at h).2
            refine r_iast hC hI hv3 g55 dX9_thin_55 (fun z55 H locs e55 hI => ?_)
            replace h := bnd_at h e55
            obtain ⟨x56, e56⟩ : ∃ y : Int32, y = (v4 + (1 : Int32)) := ⟨_, rfl⟩
            replace h := bnd_at h e56
            refine lv_iinc (v := x56) (lv' := [(4, .int x56), (0, .ref (ad 0)), (1, .int v1), (2, .int v2), (3, .ref (ad v3)), (5, .int v5)]) hx hb dX9_thin_56 hl (k := 4) rfl (by rw [e56]; rfl) (by decide) rfl (fun ls hl => ?_)
            obtain ⟨x59, e59⟩ : ∃ y : Int32, y = (v5 + (1 : Int32)) := ⟨_, rfl⟩
            replace h := bnd_at h e59
            refine lv_iinc (v := x59) (lv' := [(5, .int x59), (4, .int x56), (0, .ref (ad 0)), (1, .int v1), (2, .int v2), (3, .ref (ad v3))]) hx hb dX9_thin_59 hl (k := 5) rfl (by rw [e59]; rfl) (by decide) rfl (fun ls hl => ?_)
            refine lv_goto (tgt := 6) hx hb dX9_thin_62 (by decide) ?_
            exact ih6 v1 v2 x56 x59 z55 _ _ _ hI (lv_sub hl [2, 3, 4, 5, 1, 0] rfl) h
  exact w6 FU v1 v2 (0 : Int32) (0 : Int32) z _ _ _ hI (lv_sub hl [2, 3, 4, 5, 1, 0] rfl) h
theorem dX9_taken_0 : decode cX9_taken 0 = .ok (.iconst 0, 1) := by decide +kernel
theorem dX9_taken_1 : decode cX9_taken 1 = .ok (.istore_n 1, 1) := by decide +kernel
theorem dX9_taken_2 : decode cX9_taken 2 = .ok (.iconst 0, 1) := by decide +kernel
theorem dX9_taken_3 : decode cX9_taken 3 = .ok (.istore_n 2, 1) := by decide +kernel
theorem dX9_taken_4 : decode cX9_taken 4 = .ok (.iload_n 2, 1) := by decide +kernel
theorem dX9_taken_5 : decode cX9_taken 5 = .ok (.aload_n 0, 1) := by decide +kernel
theorem dX9_taken_6 : decode cX9_taken 6 = .ok (.getfield 155, 3) := by decide +kernel
theorem dX9_taken_9 : decode cX9_taken 9 = .ok (.if_icmp .ge 26, 3) := by decide +kernel
theorem dX9_taken_12 : decode cX9_taken 12 = .ok (.iload_n 1, 1) := by decide +kernel
theorem dX9_taken_13 : decode cX9_taken 13 = .ok (.aload_n 0, 1) := by decide +kernel
theorem dX9_taken_14 : decode cX9_taken 14 = .ok (.getfield 32, 3) := by decide +kernel
theorem dX9_taken_17 : decode cX9_taken 17 = .ok (.iload_n 2, 1) := by decide +kernel
theorem dX9_taken_18 : decode cX9_taken 18 = .ok (.baload, 1) := by decide +kernel
theorem dX9_taken_19 : decode cX9_taken 19 = .ok (.ifCond .eq 7, 3) := by decide +kernel
theorem dX9_taken_22 : decode cX9_taken 22 = .ok (.iconst 1, 1) := by decide +kernel
theorem dX9_taken_23 : decode cX9_taken 23 = .ok (.goto 4, 3) := by decide +kernel
theorem dX9_taken_26 : decode cX9_taken 26 = .ok (.iconst 0, 1) := by decide +kernel
theorem dX9_taken_27 : decode cX9_taken 27 = .ok (.iadd, 1) := by decide +kernel
theorem dX9_taken_28 : decode cX9_taken 28 = .ok (.istore_n 1, 1) := by decide +kernel
theorem dX9_taken_29 : decode cX9_taken 29 = .ok (.iinc 2 1, 3) := by decide +kernel
theorem dX9_taken_32 : decode cX9_taken 32 = .ok (.goto (-28), 3) := by decide +kernel
theorem dX9_taken_35 : decode cX9_taken 35 = .ok (.iload_n 1, 1) := by decide +kernel
theorem dX9_taken_36 : decode cX9_taken 36 = .ok (.ireturn, 1) := by decide +kernel
abbrev rmX9_taken : Room := { frames := 0, cells := 0, slots := 0, locals := 0 }
theorem ywX9_taken : fY yX9_taken "EqualCourtModel" cX9_taken 3 (some .int) 0 := ⟨tw_1043, tp_33, tw_11, tw_1044, by decide +kernel⟩
set_option maxHeartbeats 4000000 in
set_option maxRecDepth 100000 in
theorem cX9_taken_ok {D : va_G} {ad : Nat → Nat} {cy cz : ClassId} {l : Launch} {z : fS}  {r : Int32} (h : fX9_taken z = some r) : fMi D 31 ad (cfM ad cy cz) cy cz l yX9_taken cX9_taken 3 (some .int) rmX9_taken [.ref (ad 0)] z r z := by
  refine f_bodyi (by decide) (Nat.le_of_ble_eq_true rfl) (fun p e s m args below meth c Q hC hret ls hl hI => ?_)
  have hx := hC.1
  have hb := hC.2.1
  have hl : lv_has ls 3 [(0, .ref (ad 0))] := hl
  unfold fX9_taken at h
  refine lv_iconst (v := 0) hx hb dX9_taken_0 (by decide) ?_
  refine lv_istore_n (lv' := [(1, .int (0 : Int32)), (0, .ref (ad 0))]) hx hb dX9_taken_1 rfl hl (by decide) rfl (fun ls hl => ?_)
  refine lv_iconst (v := 0) hx hb dX9_taken_2 (by decide) ?_
  refine lv_istore_n (lv' := [(2, .int (0 : Int32)), (1, .int (0 : Int32)), (0, .ref (ad 0))]) hx hb dX9_taken_3 rfl hl (by decide) rfl (fun ls hl => ?_)
  have w4 : ∀ (N4 : Nat) (v1 : Int32) (v2 : Int32) (H : Heap) (locs : List Loc) (ls : Array Slot), fI D 31 ad (cfM ad cy cz) z s H locs → lv_has ls 3 [(0, .ref (ad 0)), (1, .int v1), (2, .int v2)] → lX9_taken_4   z N4 v1 v2 = some r → W p l e rmX9_taken s m args below meth c H locs 0 0 Q (F0 m 4 ls []) := by
    intro N4
    induction N4 with
    | zero =>
      intro v1 v2 H locs ls hI hl h
      exact none_no h
    | succ N4 ih4 =>
      intro v1 v2 H locs ls hI hl h
      rw [lX9_taken_4.eq_2] at h
      refine lv_iload_n hx hb dX9_taken_4 rfl (lv_at hl 2 rfl) ?_
      refine lv_aload_n hx hb dX9_taken_5 rfl (lv_at hl 0 rfl) ?_
      refine gX9_sayings hC hI tw_863 dX9_taken_6 ?_
      refine lv_icmp_ge (tgt := 35) hx hb dX9_taken_9 (by decide) (fun c9 => ?_) (fun c9 => ?_)
      · replace h := if_t h c9
        refine lv_iload_n hx hb dX9_taken_35 rfl (lv_at hl 1 rfl) ?_
        exact hret (ret_p _ h) dX9_taken_36 hI
      · replace h := if_f h c9
        refine lv_iload_n hx hb dX9_taken_12 rfl (lv_at hl 1 rfl) ?_
        refine lv_aload_n hx hb dX9_taken_13 rfl (lv_at hl 0 rfl) ?_
        refine gX9_isTaken hC hI tw_862 dX9_taken_14 ?_
        refine lv_iload_n hx hb dX9_taken_17 rfl (lv_at hl 2 rfl) ?_
        have g18 := (gd_at h).1
        replace h := (gd_at h).2
        refine r_zald hC hI aM_8 g18 dX9_taken_18 ?_
        refine lv_if_eq (tgt := 26) hx hb dX9_taken_19 (by decide) (fun c19 => ?_) (fun c19 => ?_)
        · replace h := if_t h c19
          refine lv_iconst (v := 0) hx hb dX9_taken_26 (by decide) ?_
          refine lv_iadd hx hb dX9_taken_27 ?_
          refine lv_topi (fun x28 e28 => ?_)
          replace h := bnd_at h e28
          refine lv_istore_n (lv' := [(1, .int x28), (0, .ref (ad 0)), (2, .int v2)]) hx hb dX9_taken_28 rfl hl (by decide) rfl (fun ls hl => ?_)
          obtain ⟨x29, e29⟩ : ∃ y : Int32, y = (v2 + (1 : Int32)) := ⟨_, rfl⟩
          replace h := bnd_at h e29
          refine lv_iinc (v := x29) (lv' := [(2, .int x29), (1, .int x28), (0, .ref (ad 0))]) hx hb dX9_taken_29 hl (k := 2) rfl (by rw [e29]; rfl) (by decide) rfl (fun ls hl => ?_)
          refine lv_goto (tgt := 4) hx hb dX9_taken_32 (by decide) ?_
          exact ih4  x28 x29 _ _ _ hI (lv_sub hl [2, 1, 0] rfl) h
        · replace h := if_f h c19
          refine lv_iconst (v := 1) hx hb dX9_taken_22 (by decide) ?_
          refine lv_goto (tgt := 27) hx hb dX9_taken_23 (by decide) ?_
          refine lv_iadd hx hb dX9_taken_27 ?_
          refine lv_topi (fun x28 e28 => ?_)
          replace h := bnd_at h e28
          refine lv_istore_n (lv' := [(1, .int x28), (0, .ref (ad 0)), (2, .int v2)]) hx hb dX9_taken_28 rfl hl (by decide) rfl (fun ls hl => ?_)
          obtain ⟨x29, e29⟩ : ∃ y : Int32, y = (v2 + (1 : Int32)) := ⟨_, rfl⟩
          replace h := bnd_at h e29
          refine lv_iinc (v := x29) (lv' := [(2, .int x29), (1, .int x28), (0, .ref (ad 0))]) hx hb dX9_taken_29 hl (k := 2) rfl (by rw [e29]; rfl) (by decide) rfl (fun ls hl => ?_)
          refine lv_goto (tgt := 4) hx hb dX9_taken_32 (by decide) ?_
          exact ih4  x28 x29 _ _ _ hI (lv_sub hl [2, 1, 0] rfl) h
  exact w4 FU  (0 : Int32) (0 : Int32) _ _ _ hI (lv_sub hl [2, 1, 0] rfl) h
theorem dX9_classes_0 : decode cX9_classes 0 = .ok (.aload_n 0, 1) := by decide +kernel
theorem dX9_classes_1 : decode cX9_classes 1 = .ok (.invokevirtual 161, 3) := by decide +kernel
theorem dX9_classes_4 : decode cX9_classes 4 = .ok (.iconst 0, 1) := by decide +kernel
theorem dX9_classes_5 : decode cX9_classes 5 = .ok (.istore_n 1, 1) := by decide +kernel
theorem dX9_classes_6 : decode cX9_classes 6 = .ok (.iconst 0, 1) := by decide +kernel
theorem dX9_classes_7 : decode cX9_classes 7 = .ok (.istore_n 2, 1) := by decide +kernel
theorem dX9_classes_8 : decode cX9_classes 8 = .ok (.iload_n 2, 1) := by decide +kernel
theorem dX9_classes_9 : decode cX9_classes 9 = .ok (.aload_n 0, 1) := by decide +kernel
theorem dX9_classes_10 : decode cX9_classes 10 = .ok (.getfield 108, 3) := by decide +kernel
theorem dX9_classes_13 : decode cX9_classes 13 = .ok (.if_icmp .ge 27, 3) := by decide +kernel
theorem dX9_classes_16 : decode cX9_classes 16 = .ok (.iload_n 1, 1) := by decide +kernel
theorem dX9_classes_17 : decode cX9_classes 17 = .ok (.aload_n 0, 1) := by decide +kernel
theorem dX9_classes_18 : decode cX9_classes 18 = .ok (.getfield 72, 3) := by decide +kernel
theorem dX9_classes_21 : decode cX9_classes 21 = .ok (.iload_n 2, 1) := by decide +kernel
theorem dX9_classes_22 : decode cX9_classes 22 = .ok (.iaload, 1) := by decide +kernel
theorem dX9_classes_23 : decode cX9_classes 23 = .ok (.iload_n 2, 1) := by decide +kernel
theorem dX9_classes_24 : decode cX9_classes 24 = .ok (.if_icmp .ne 7, 3) := by decide +kernel
theorem dX9_classes_27 : decode cX9_classes 27 = .ok (.iconst 1, 1) := by decide +kernel
theorem dX9_classes_28 : decode cX9_classes 28 = .ok (.goto 4, 3) := by decide +kernel
theorem dX9_classes_31 : decode cX9_classes 31 = .ok (.iconst 0, 1) := by decide +kernel
theorem dX9_classes_32 : decode cX9_classes 32 = .ok (.iadd, 1) := by decide +kernel
theorem dX9_classes_33 : decode cX9_classes 33 = .ok (.istore_n 1, 1) := by decide +kernel
theorem dX9_classes_34 : decode cX9_classes 34 = .ok (.iinc 2 1, 3) := by decide +kernel
theorem dX9_classes_37 : decode cX9_classes 37 = .ok (.goto (-29), 3) := by decide +kernel
theorem dX9_classes_40 : decode cX9_classes 40 = .ok (.iload_n 1, 1) := by decide +kernel
theorem dX9_classes_41 : decode cX9_classes 41 = .ok (.ireturn, 1) := by decide +kernel
abbrev rmX9_classes : Room := { frames := 5, cells := 0, slots := 0, locals := 114 }
theorem ywX9_classes : fY yX9_classes "EqualCourtModel" cX9_classes 3 (some .int) 0 := ⟨tw_1047, tp_34, tw_11, tw_1048, by decide +kernel⟩
set_option maxHeartbeats 4000000 in
set_option maxRecDepth 100000 in
theorem cX9_classes_ok {D : va_G} {ad : Nat → Nat} {cy cz : ClassId} {l : Launch} {z : fS}  {r : Int32} {τ : fS} (h : fX9_classes z = some (r, τ)) : fMi D 31 ad (cfM ad cy cz) cy cz l yX9_classes cX9_classes 3 (some .int) rmX9_classes [.ref (ad 0)] z r τ := by
  refine f_bodyi (by decide) (Nat.le_of_ble_eq_true rfl) (fun p e s m args below meth c Q hC hret ls hl hI => ?_)
  have hx := hC.1
  have hb := hC.2.1
  have hl : lv_has ls 3 [(0, .ref (ad 0))] := hl
  unfold fX9_classes at h
  refine lv_aload_n hx hb dX9_classes_0 rfl (lv_at hl 0 rfl) ?_
  replace h := bp_at h
  obtain ⟨z1, e1, h⟩ := h
  refine r_callv (rest := []) hC hI oM_0 (C := "EqualCourtModel") rfl ywX9_court tw_1049 (cX9_court_ok  e1) ⟨Nat.le_of_ble_eq_true rfl, Nat.le_of_ble_eq_true rfl⟩ ⟨rfl, rfl⟩ rfl hl.1 rfl (Nat.le_of_ble_eq_true rfl) dX9_classes_1 (fun H locs hI => ?_)
  refine lv_iconst (v := 0) hx hb dX9_classes_4 (by decide) ?_
  refine lv_istore_n (lv' := [(1, .int (0 : Int32)), (0, .ref (ad 0))]) hx hb dX9_classes_5 rfl hl (by decide) rfl (fun ls hl => ?_)
  refine lv_iconst (v := 0) hx hb dX9_classes_6 (by decide) ?_
  refine lv_istore_n (lv' := [(2, .int (0 : Int32)), (1, .int (0 : Int32)), (0, .ref (ad 0))]) hx hb dX9_classes_7 rfl hl (by decide) rfl (fun ls hl => ?_)
  have w8 : ∀ (N8 : Nat) (z : fS) (v1 : Int32) (v2 : Int32) (H : Heap) (locs : List Loc) (ls : Array Slot), fI D 31 ad (cfM ad cy cz) z s H locs → lv_has ls 3 [(0, .ref (ad 0)), (1, .int v1), (2, .int v2)] → lX9_classes_8   z N8 v1 v2 = some (r, τ) → W p l e rmX9_classes s m args below meth c H locs 0 0 Q (F0 m 8 ls []) := by
    intro N8
    induction N8 with
    | zero =>
      intro z v1 v2 H locs ls hI hl h
      exact none_no h
    | succ N8 ih8 =>
      intro z v1 v2 H locs ls hI hl h
      rw [lX9_classes_8.eq_2] at h
      refine lv_iload_n hx hb dX9_classes_8 rfl (lv_at hl 2 rfl) ?_
      refine lv_aload_n hx hb dX9_classes_9 rfl (lv_at hl 0 rfl) ?_
      refine gX9_terms hC hI tw_858 dX9_classes_10 ?_
      refine lv_icmp_ge (tgt := 40) hx hb dX9_classes_13 (by decide) (fun c13 => ?_) (fun c13 => ?_)
      · replace h := if_t h c13
        refine lv_iload_n hx hb dX9_classes_40 rfl (lv_at hl 1 rfl) ?_
        exact hret h dX9_classes_41 hI
      · replace h := if_f h c13
        refine lv_iload_n hx hb dX9_classes_16 rfl (lv_at hl 1 rfl) ?_
        refine lv_aload_n hx hb dX9_classes_17 rfl (lv_at hl 0 rfl) ?_
        refine gX9_one hC hI tw_882 dX9_classes_18 ?_
        refine lv_iload_n hx hb dX9_classes_21 rfl (lv_at hl 2 rfl) ?_
        have g22 := (gd_at h).1
        replace h := (gd_at h).2
        refine r_iald hC hI aM_20 g22 dX9_classes_22 ?_
        refine lv_iload_n hx hb dX9_classes_23 rfl (lv_at hl 2 rfl) ?_
        refine lv_icmp_ne (tgt := 31) hx hb dX9_classes_24 (by decide) (fun c24 => ?_) (fun c24 => ?_)
        · replace h := if_f h c24
          refine lv_iconst (v := 0) hx hb dX9_classes_31 (by decide) ?_
          refine lv_iadd hx hb dX9_classes_32 ?_
          refine lv_topi (fun x33 e33 => ?_)
          replace h := bnd_at h e33
          refine lv_istore_n (lv' := [(1, .int x33), (0, .ref (ad 0)), (2, .int v2)]) hx hb dX9_classes_33 rfl hl (by decide) rfl (fun ls hl => ?_)
          obtain ⟨x34, e34⟩ : ∃ y : Int32, y = (v2 + (1 : Int32)) := ⟨_, rfl⟩
          replace h := bnd_at h e34
          refine lv_iinc (v := x34) (lv' := [(2, .int x34), (1, .int x33), (0, .ref (ad 0))]) hx hb dX9_classes_34 hl (k := 2) rfl (by rw [e34]; rfl) (by decide) rfl (fun ls hl => ?_)
          refine lv_goto (tgt := 8) hx hb dX9_classes_37 (by decide) ?_
          exact ih8 z x33 x34 _ _ _ hI (lv_sub hl [2, 1, 0] rfl) h
        · replace h := if_t h c24
          refine lv_iconst (v := 1) hx hb dX9_classes_27 (by decide) ?_
          refine lv_goto (tgt := 32) hx hb dX9_classes_28 (by decide) ?_
          refine lv_iadd hx hb dX9_classes_32 ?_
          refine lv_topi (fun x33 e33 => ?_)
          replace h := bnd_at h e33
          refine lv_istore_n (lv' := [(1, .int x33), (0, .ref (ad 0)), (2, .int v2)]) hx hb dX9_classes_33 rfl hl (by decide) rfl (fun ls hl => ?_)
          obtain ⟨x34, e34⟩ : ∃ y : Int32, y = (v2 + (1 : Int32)) := ⟨_, rfl⟩
          replace h := bnd_at h e34
          refine lv_iinc (v := x34) (lv' := [(2, .int x34), (1, .int x33), (0, .ref (ad 0))]) hx hb dX9_classes_34 hl (k := 2) rfl (by rw [e34]; rfl) (by decide) rfl (fun ls hl => ?_)
          refine lv_goto (tgt := 8) hx hb dX9_classes_37 (by decide) ?_
          exact ih8 z x33 x34 _ _ _ hI (lv_sub hl [2, 1, 0] rfl) h
  exact w8 FU z1 (0 : Int32) (0 : Int32) _ _ _ hI (lv_sub hl [2, 1, 0] rfl) h
theorem dX9_many_0 : decode cX9_many 0 = .ok (.iload_n 1, 1) := by decide +kernel
theorem dX9_many_1 : decode cX9_many 1 = .ok (.tableswitch 78 0 6 #[43, 48, 53, 58, 63, 68, 73], 43) := by decide +kernel
theorem dX9_many_44 : decode cX9_many 44 = .ok (.aload_n 0, 1) := by decide +kernel
theorem dX9_many_45 : decode cX9_many 45 = .ok (.getfield 108, 3) := by decide +kernel
theorem dX9_many_48 : decode cX9_many 48 = .ok (.ireturn, 1) := by decide +kernel
theorem dX9_many_49 : decode cX9_many 49 = .ok (.aload_n 0, 1) := by decide +kernel
theorem dX9_many_50 : decode cX9_many 50 = .ok (.getfield 155, 3) := by decide +kernel
theorem dX9_many_53 : decode cX9_many 53 = .ok (.ireturn, 1) := by decide +kernel
theorem dX9_many_54 : decode cX9_many 54 = .ok (.aload_n 0, 1) := by decide +kernel
theorem dX9_many_55 : decode cX9_many 55 = .ok (.invokevirtual 169, 3) := by decide +kernel
theorem dX9_many_58 : decode cX9_many 58 = .ok (.ireturn, 1) := by decide +kernel
theorem dX9_many_59 : decode cX9_many 59 = .ok (.aload_n 0, 1) := by decide +kernel
theorem dX9_many_60 : decode cX9_many 60 = .ok (.getfield 173, 3) := by decide +kernel
theorem dX9_many_63 : decode cX9_many 63 = .ok (.ireturn, 1) := by decide +kernel
theorem dX9_many_64 : decode cX9_many 64 = .ok (.aload_n 0, 1) := by decide +kernel
theorem dX9_many_65 : decode cX9_many 65 = .ok (.getfield 176, 3) := by decide +kernel
theorem dX9_many_68 : decode cX9_many 68 = .ok (.ireturn, 1) := by decide +kernel
theorem dX9_many_69 : decode cX9_many 69 = .ok (.aload_n 0, 1) := by decide +kernel
theorem dX9_many_70 : decode cX9_many 70 = .ok (.getfield 179, 3) := by decide +kernel
theorem dX9_many_73 : decode cX9_many 73 = .ok (.ireturn, 1) := by decide +kernel
theorem dX9_many_74 : decode cX9_many 74 = .ok (.aload_n 0, 1) := by decide +kernel
theorem dX9_many_75 : decode cX9_many 75 = .ok (.invokevirtual 182, 3) := by decide +kernel
theorem dX9_many_78 : decode cX9_many 78 = .ok (.ireturn, 1) := by decide +kernel
theorem dX9_many_79 : decode cX9_many 79 = .ok (.iconst (-1), 1) := by decide +kernel
theorem dX9_many_80 : decode cX9_many 80 = .ok (.ireturn, 1) := by decide +kernel
abbrev rmX9_many : Room := { frames := 6, cells := 0, slots := 0, locals := 136 }
theorem ywX9_many : fY yX9_many "EqualCourtModel" cX9_many 2 (some .int) 1 := ⟨tw_1038, tw_1039, tw_11, tw_1040, by decide +kernel⟩
set_option maxHeartbeats 4000000 in
set_option maxRecDepth 100000 in
theorem cX9_many_ok {D : va_G} {ad : Nat → Nat} {cy cz : ClassId} {l : Launch} {z : fS} {v1 : Int32} {r : Int32} {τ : fS} (h : fX9_many z v1 = some (r, τ)) : fMi D 31 ad (cfM ad cy cz) cy cz l yX9_many cX9_many 2 (some .int) rmX9_many [.ref (ad 0), .int v1] z r τ := by
  refine f_bodyi (by decide) (Nat.le_of_ble_eq_true rfl) (fun p e s m args below meth c Q hC hret ls hl hI => ?_)
  have hx := hC.1
  have hb := hC.2.1
  have hl : lv_has ls 2 [(0, .ref (ad 0)), (1, .int v1)] := hl
  unfold fX9_many at h
  refine lv_iload_n hx hb dX9_many_0 rfl (lv_at hl 1 rfl) ?_
  refine lv_topi (fun y1 e1 => ?_)
  by_cases b1_0 : y1 = (0 : Int32)
  · replace h := if_t h (e1.symm.trans b1_0)
    refine lv_tableIn (tgt := 44) hx hb dX9_many_1 (by rw [b1_0]; decide) (by rw [b1_0]; decide) (by rw [b1_0]; rfl) (by decide) ?_
    refine lv_aload_n hx hb dX9_many_44 rfl (lv_at hl 0 rfl) ?_
    refine gX9_terms hC hI tw_858 dX9_many_45 ?_
    exact hret h dX9_many_48 hI
  replace h := if_f h (fun q => b1_0 (e1.trans q))
  by_cases b1_1 : y1 = (1 : Int32)
  · replace h := if_t h (e1.symm.trans b1_1)
    refine lv_tableIn (tgt := 49) hx hb dX9_many_1 (by rw [b1_1]; decide) (by rw [b1_1]; decide) (by rw [b1_1]; rfl) (by decide) ?_
    refine lv_aload_n hx hb dX9_many_49 rfl (lv_at hl 0 rfl) ?_
    refine gX9_sayings hC hI tw_863 dX9_many_50 ?_
    exact hret h dX9_many_53 hI
  replace h := if_f h (fun q => b1_1 (e1.trans q))
  by_cases b1_2 : y1 = (2 : Int32)
  · replace h := if_t h (e1.symm.trans b1_2)
    refine lv_tableIn (tgt := 54) hx hb dX9_many_1 (by rw [b1_2]; decide) (by rw [b1_2]; decide) (by rw [b1_2]; rfl) (by decide) ?_
    refine lv_aload_n hx hb dX9_many_54 rfl (lv_at hl 0 rfl) ?_
    replace h := bp_at h
    obtain ⟨r55, e55, h⟩ := h
    refine r_calli (rest := []) hC hI oM_0 (C := "EqualCourtModel") rfl ywX9_taken tw_1041 (cX9_taken_ok  e55) ⟨Nat.le_of_ble_eq_true rfl, Nat.le_of_ble_eq_true rfl⟩ ⟨rfl, rfl⟩ rfl hl.1 rfl (Nat.le_of_ble_eq_true rfl) dX9_many_55 (fun H locs hI => ?_)
    exact hret h dX9_many_58 hI
  replace h := if_f h (fun q => b1_2 (e1.trans q))
  by_cases b1_3 : y1 = (3 : Int32)
  · replace h := if_t h (e1.symm.trans b1_3)
    refine lv_tableIn (tgt := 59) hx hb dX9_many_1 (by rw [b1_3]; decide) (by rw [b1_3]; decide) (by rw [b1_3]; rfl) (by decide) ?_
    refine lv_aload_n hx hb dX9_many_59 rfl (lv_at hl 0 rfl) ?_
    refine gX9_laws hC hI tw_868 dX9_many_60 ?_
    exact hret h dX9_many_63 hI
  replace h := if_f h (fun q => b1_3 (e1.trans q))
  by_cases b1_4 : y1 = (4 : Int32)
  · replace h := if_t h (e1.symm.trans b1_4)
    refine lv_tableIn (tgt := 64) hx hb dX9_many_1 (by rw [b1_4]; decide) (by rw [b1_4]; decide) (by rw [b1_4]; rfl) (by decide) ?_
    refine lv_aload_n hx hb dX9_many_64 rfl (lv_at hl 0 rfl) ?_
    refine gX9_steps hC hI tw_874 dX9_many_65 ?_
    exact hret h dX9_many_68 hI
  replace h := if_f h (fun q => b1_4 (e1.trans q))
  by_cases b1_5 : y1 = (5 : Int32)
  · replace h := if_t h (e1.symm.trans b1_5)
    refine lv_tableIn (tgt := 69) hx hb dX9_many_1 (by rw [b1_5]; decide) (by rw [b1_5]; decide) (by rw [b1_5]; rfl) (by decide) ?_
    refine lv_aload_n hx hb dX9_many_69 rfl (lv_at hl 0 rfl) ?_
    refine gX9_levels hC hI tw_865 dX9_many_70 ?_
    exact hret h dX9_many_73 hI
  replace h := if_f h (fun q => b1_5 (e1.trans q))
  by_cases b1_6 : y1 = (6 : Int32)
  · replace h := if_t h (e1.symm.trans b1_6)
    refine lv_tableIn (tgt := 74) hx hb dX9_many_1 (by rw [b1_6]; decide) (by rw [b1_6]; decide) (by rw [b1_6]; rfl) (by decide) ?_
    refine lv_aload_n hx hb dX9_many_74 rfl (lv_at hl 0 rfl) ?_
    replace h := bd_at h
    obtain ⟨r75, z75, e75, h⟩ := h
    refine r_calli (rest := []) hC hI oM_0 (C := "EqualCourtModel") rfl ywX9_classes tw_1045 (cX9_classes_ok  e75) ⟨Nat.le_of_ble_eq_true rfl, Nat.le_of_ble_eq_true rfl⟩ ⟨rfl, rfl⟩ rfl hl.1 rfl (Nat.le_of_ble_eq_true rfl) dX9_many_75 (fun H locs hI => ?_)
    exact hret h dX9_many_78 hI
  replace h := if_f h (fun q => b1_6 (e1.trans q))
  refine lv_tableOut (tgt := 79) hx hb dX9_many_1 (by have q0 := lv_neT b1_0 (a := 0) (by decide); have q1 := lv_neT b1_1 (a := 1) (by decide); have q2 := lv_neT b1_2 (a := 2) (by decide); have q3 := lv_neT b1_3 (a := 3) (by decide); have q4 := lv_neT b1_4 (a := 4) (by decide); have q5 := lv_neT b1_5 (a := 5) (by decide); have q6 := lv_neT b1_6 (a := 6) (by decide); omega) (by decide) ?_
  refine lv_iconst (v := -1) hx hb dX9_many_79 (by decide) ?_
  exact hret h dX9_many_80 hI
theorem dX9_wouldClash_0 : decode cX9_wouldClash 0 = .ok (.aload_n 0, 1) := by decide +kernel
theorem dX9_wouldClash_1 : decode cX9_wouldClash 1 = .ok (.invokevirtual 158, 3) := by decide +kernel
theorem dX9_wouldClash_4 : decode cX9_wouldClash 4 = .ok (.aload_n 0, 1) := by decide +kernel
theorem dX9_wouldClash_5 : decode cX9_wouldClash 5 = .ok (.iload_n 1, 1) := by decide +kernel
theorem dX9_wouldClash_6 : decode cX9_wouldClash 6 = .ok (.iload_n 2, 1) := by decide +kernel
theorem dX9_wouldClash_7 : decode cX9_wouldClash 7 = .ok (.iload_n 3, 1) := by decide +kernel
theorem dX9_wouldClash_8 : decode cX9_wouldClash 8 = .ok (.invokevirtual 185, 3) := by decide +kernel
theorem dX9_wouldClash_11 : decode cX9_wouldClash 11 = .ok (.aload_n 0, 1) := by decide +kernel
theorem dX9_wouldClash_12 : decode cX9_wouldClash 12 = .ok (.invokevirtual 163, 3) := by decide +kernel
theorem dX9_wouldClash_15 : decode cX9_wouldClash 15 = .ok (.ifCond .ne 5, 3) := by decide +kernel
theorem dX9_wouldClash_18 : decode cX9_wouldClash 18 = .ok (.iconst 0, 1) := by decide +kernel
theorem dX9_wouldClash_19 : decode cX9_wouldClash 19 = .ok (.ireturn, 1) := by decide +kernel
theorem dX9_wouldClash_20 : decode cX9_wouldClash 20 = .ok (.aload_n 0, 1) := by decide +kernel
theorem dX9_wouldClash_21 : decode cX9_wouldClash 21 = .ok (.aload_n 0, 1) := by decide +kernel
theorem dX9_wouldClash_22 : decode cX9_wouldClash 22 = .ok (.iconst (-1), 1) := by decide +kernel
theorem dX9_wouldClash_23 : decode cX9_wouldClash 23 = .ok (.iconst (-1), 1) := by decide +kernel
theorem dX9_wouldClash_24 : decode cX9_wouldClash 24 = .ok (.aload_n 0, 1) := by decide +kernel
theorem dX9_wouldClash_25 : decode cX9_wouldClash 25 = .ok (.getfield 59, 3) := by decide +kernel
theorem dX9_wouldClash_28 : decode cX9_wouldClash 28 = .ok (.invokevirtual 189, 3) := by decide +kernel
theorem dX9_wouldClash_31 : decode cX9_wouldClash 31 = .ok (.putfield 193, 3) := by decide +kernel
theorem dX9_wouldClash_34 : decode cX9_wouldClash 34 = .ok (.iconst 1, 1) := by decide +kernel
theorem dX9_wouldClash_35 : decode cX9_wouldClash 35 = .ok (.ireturn, 1) := by decide +kernel
abbrev rmX9_wouldClash : Room := { frames := 7, cells := 0, slots := 0, locals := 164 }
theorem ywX9_wouldClash : fY yX9_wouldClash "EqualCourtModel" cX9_wouldClash 4 (some .boolean) 3 := ⟨tw_1087, tp_43, tw_11, tw_1088, by decide +kernel⟩
set_option maxHeartbeats 4000000 in
set_option maxRecDepth 100000 in
theorem cX9_wouldClash_ok {D : va_G} {ad : Nat → Nat} {cy cz : ClassId} {l : Launch} {z : fS} {v1 : Int32} {v2 : Int32} {v3 : Int32} {r : Int32} {τ : fS} (h : fX9_wouldClash z v1 v2 v3 = some (r, τ)) : fMi D 31 ad (cfM ad cy cz) cy cz l yX9_wouldClash cX9_wouldClash 4 (some .boolean) rmX9_wouldClash [.ref (ad 0), .int v1, .int v2, .int v3] z r τ := by
  refine f_bodyz (by decide) (Nat.le_of_ble_eq_true rfl) (fun p e s m args below meth c Q hC hret ls hl hI => ?_)
  have hx := hC.1
  have hb := hC.2.1
  have hl : lv_has ls 4 [(0, .ref (ad 0)), (1, .int v1), (2, .int v2), (3, .int v3)] := hl
  unfold fX9_wouldClash at h
  refine lv_aload_n hx hb dX9_wouldClash_0 rfl (lv_at hl 0 rfl) ?_
  replace h := bp_at h
  obtain ⟨z1, e1, h⟩ := h
  refine r_callv (rest := []) hC hI oM_0 (C := "EqualCourtModel") rfl ywX9_takeCourt tw_1053 (cX9_takeCourt_ok  e1) ⟨Nat.le_of_ble_eq_true rfl, Nat.le_of_ble_eq_true rfl⟩ ⟨rfl, rfl⟩ rfl hl.1 rfl (Nat.le_of_ble_eq_true rfl) dX9_wouldClash_1 (fun H locs hI => ?_)
  refine lv_aload_n hx hb dX9_wouldClash_4 rfl (lv_at hl 0 rfl) ?_
  refine lv_iload_n hx hb dX9_wouldClash_5 rfl (lv_at hl 1 rfl) ?_
  refine lv_iload_n hx hb dX9_wouldClash_6 rfl (lv_at hl 2 rfl) ?_
  refine lv_iload_n hx hb dX9_wouldClash_7 rfl (lv_at hl 3 rfl) ?_
  replace h := bp_at h
  obtain ⟨z8, e8, h⟩ := h
  refine r_callv (rest := []) hC hI oM_0 (C := "EqualCourtModel") rfl ywX9_add tw_1089 (cX9_add_ok  e8) ⟨Nat.le_of_ble_eq_true rfl, Nat.le_of_ble_eq_true rfl⟩ ⟨rfl, rfl⟩ rfl hl.1 rfl (Nat.le_of_ble_eq_true rfl) dX9_wouldClash_8 (fun H locs hI => ?_)
  refine lv_aload_n hx hb dX9_wouldClash_11 rfl (lv_at hl 0 rfl) ?_
  replace h := bd_at h
  obtain ⟨r12, z12, e12, h⟩ := h
  refine r_calli (rest := []) hC hI oM_0 (C := "EqualCourtModel") rfl ywX9_clashes tw_1093 (cX9_clashes_ok  e12) ⟨Nat.le_of_ble_eq_true rfl, Nat.le_of_ble_eq_true rfl⟩ ⟨rfl, rfl⟩ rfl hl.1 rfl (Nat.le_of_ble_eq_true rfl) dX9_wouldClash_12 (fun H locs hI => ?_)
  refine lv_if_ne (tgt := 20) hx hb dX9_wouldClash_15 (by decide) (fun c15 => ?_) (fun c15 => ?_)
  · replace h := if_f h c15
    refine lv_aload_n hx hb dX9_wouldClash_20 rfl (lv_at hl 0 rfl) ?_
    refine lv_aload_n hx hb dX9_wouldClash_21 rfl (lv_at hl 0 rfl) ?_
    refine lv_iconst (v := -1) hx hb dX9_wouldClash_22 (by decide) ?_
    refine lv_iconst (v := -1) hx hb dX9_wouldClash_23 (by decide) ?_
    refine lv_aload_n hx hb dX9_wouldClash_24 rfl (lv_at hl 0 rfl) ?_
    refine gX9_clashRow hC hI tw_875 dX9_wouldClash_25 ?_
    replace h := bd_at h
    obtain ⟨r28, z28, e28, h⟩ := h
    refine r_calli (rest := [.ref (ad 0)]) hC hI oM_0 (C := "EqualCourtModel") rfl ywX9_thin tw_1097 (cX9_thin_ok aM_17 e28) ⟨Nat.le_of_ble_eq_true rfl, Nat.le_of_ble_eq_true rfl⟩ ⟨rfl, rfl⟩ rfl hl.1 rfl (Nat.le_of_ble_eq_true rfl) dX9_wouldClash_28 (fun H locs hI => ?_)
    refine pX9_clashMany hC hI tw_876 dX9_wouldClash_31 (fun z31 H locs e31 hI => ?_)
    replace h := bnd_at h e31
    refine lv_iconst (v := 1) hx hb dX9_wouldClash_34 (by decide) ?_
    exact hret h (by decide) dX9_wouldClash_35 hI
  · replace h := if_t h c15
    refine lv_iconst (v := 0) hx hb dX9_wouldClash_18 (by decide) ?_
    exact hret h (by decide) dX9_wouldClash_19 hI
theorem dX9_take_0 : decode cX9_take 0 = .ok (.aload_n 0, 1) := by decide +kernel
theorem dX9_take_1 : decode cX9_take 1 = .ok (.getfield 22, 3) := by decide +kernel
theorem dX9_take_4 : decode cX9_take 4 = .ok (.aload_n 0, 1) := by decide +kernel
theorem dX9_take_5 : decode cX9_take 5 = .ok (.getfield 155, 3) := by decide +kernel
theorem dX9_take_8 : decode cX9_take 8 = .ok (.iload_n 1, 1) := by decide +kernel
theorem dX9_take_9 : decode cX9_take 9 = .ok (.iastore, 1) := by decide +kernel
theorem dX9_take_10 : decode cX9_take 10 = .ok (.aload_n 0, 1) := by decide +kernel
theorem dX9_take_11 : decode cX9_take 11 = .ok (.getfield 25, 3) := by decide +kernel
theorem dX9_take_14 : decode cX9_take 14 = .ok (.aload_n 0, 1) := by decide +kernel
theorem dX9_take_15 : decode cX9_take 15 = .ok (.getfield 155, 3) := by decide +kernel
theorem dX9_take_18 : decode cX9_take 18 = .ok (.iload_n 2, 1) := by decide +kernel
theorem dX9_take_19 : decode cX9_take 19 = .ok (.iastore, 1) := by decide +kernel
theorem dX9_take_20 : decode cX9_take 20 = .ok (.aload_n 0, 1) := by decide +kernel
theorem dX9_take_21 : decode cX9_take 21 = .ok (.getfield 28, 3) := by decide +kernel
theorem dX9_take_24 : decode cX9_take 24 = .ok (.aload_n 0, 1) := by decide +kernel
theorem dX9_take_25 : decode cX9_take 25 = .ok (.getfield 155, 3) := by decide +kernel
theorem dX9_take_28 : decode cX9_take 28 = .ok (.iload_n 3, 1) := by decide +kernel
theorem dX9_take_29 : decode cX9_take 29 = .ok (.bastore, 1) := by decide +kernel
theorem dX9_take_30 : decode cX9_take 30 = .ok (.aload_n 0, 1) := by decide +kernel
theorem dX9_take_31 : decode cX9_take 31 = .ok (.getfield 32, 3) := by decide +kernel
theorem dX9_take_34 : decode cX9_take 34 = .ok (.aload_n 0, 1) := by decide +kernel
theorem dX9_take_35 : decode cX9_take 35 = .ok (.getfield 155, 3) := by decide +kernel
theorem dX9_take_38 : decode cX9_take 38 = .ok (.iconst 1, 1) := by decide +kernel
theorem dX9_take_39 : decode cX9_take 39 = .ok (.bastore, 1) := by decide +kernel
theorem dX9_take_40 : decode cX9_take 40 = .ok (.aload_n 0, 1) := by decide +kernel
theorem dX9_take_41 : decode cX9_take 41 = .ok (.dup, 1) := by decide +kernel
theorem dX9_take_42 : decode cX9_take 42 = .ok (.getfield 155, 3) := by decide +kernel
theorem dX9_take_45 : decode cX9_take 45 = .ok (.iconst 1, 1) := by decide +kernel
theorem dX9_take_46 : decode cX9_take 46 = .ok (.iadd, 1) := by decide +kernel
theorem dX9_take_47 : decode cX9_take 47 = .ok (.putfield 155, 3) := by decide +kernel
theorem dX9_take_50 : decode cX9_take 50 = .ok (.aload_n 0, 1) := by decide +kernel
theorem dX9_take_51 : decode cX9_take 51 = .ok (.iconst 0, 1) := by decide +kernel
theorem dX9_take_52 : decode cX9_take 52 = .ok (.putfield 115, 3) := by decide +kernel
theorem dX9_take_55 : decode cX9_take 55 = .ok (.aload_n 0, 1) := by decide +kernel
theorem dX9_take_56 : decode cX9_take 56 = .ok (.getfield 155, 3) := by decide +kernel
theorem dX9_take_59 : decode cX9_take 59 = .ok (.iconst 1, 1) := by decide +kernel
theorem dX9_take_60 : decode cX9_take 60 = .ok (.isub, 1) := by decide +kernel
theorem dX9_take_61 : decode cX9_take 61 = .ok (.ireturn, 1) := by decide +kernel
abbrev rmX9_take : Room := { frames := 0, cells := 0, slots := 0, locals := 0 }
theorem ywX9_take : fY yX9_take "EqualCourtModel" cX9_take 4 (some .int) 3 := ⟨tw_1107, tp_48, tw_11, tw_1108, by decide +kernel⟩
set_option maxHeartbeats 4000000 in
set_option maxRecDepth 100000 in
theorem cX9_take_ok {D : va_G} {ad : Nat → Nat} {cy cz : ClassId} {l : Launch} {z : fS} {v1 : Int32} {v2 : Int32} {v3 : Int32} {r : Int32} {τ : fS} (h : fX9_take z v1 v2 v3 = some (r, τ)) : fMi D 31 ad (cfM ad cy cz) cy cz l yX9_take cX9_take 4 (some .int) rmX9_take [.ref (ad 0), .int v1, .int v2, .int v3] z r τ := by
  refine f_bodyi (by decide) (Nat.le_of_ble_eq_true rfl) (fun p e s m args below meth c Q hC hret ls hl hI => ?_)
  have hx := hC.1
  have hb := hC.2.1
  have hl : lv_has ls 4 [(0, .ref (ad 0)), (1, .int v1), (2, .int v2), (3, .int v3)] := hl
  unfold fX9_take at h
  refine lv_aload_n hx hb dX9_take_0 rfl (lv_at hl 0 rfl) ?_
  refine gX9_sayA hC hI tw_859 dX9_take_1 ?_
  refine lv_aload_n hx hb dX9_take_4 rfl (lv_at hl 0 rfl) ?_
  refine gX9_sayings hC hI tw_863 dX9_take_5 ?_
  refine lv_iload_n hx hb dX9_take_8 rfl (lv_at hl 1 rfl) ?_
  have g9 := (gd_at h).1
  replace h := (gd_at h).2
  refine r_iast hC hI aM_5 g9 dX9_take_9 (fun z9 H locs e9 hI => ?_)
  replace h := bnd_at h e9
  refine lv_aload_n hx hb dX9_take_10 rfl (lv_at hl 0 rfl) ?_
  refine gX9_sayB hC hI tw_860 dX9_take_11 ?_
  refine lv_aload_n hx hb dX9_take_14 rfl (lv_at hl 0 rfl) ?_
  refine gX9_sayings hC hI tw_863 dX9_take_15 ?_
  refine lv_iload_n hx hb dX9_take_18 rfl (lv_at hl 2 rfl) ?_
  have g19 := (gd_at h).1
  replace h := (gd_at h).2
  refine r_iast hC hI aM_6 g19 dX9_take_19 (fun z19 H locs e19 hI => ?_)
  replace h := bnd_at h e19
  refine lv_aload_n hx hb dX9_take_20 rfl (lv_at hl 0 rfl) ?_
  refine gX9_isSame hC hI tw_861 dX9_take_21 ?_
  refine lv_aload_n hx hb dX9_take_24 rfl (lv_at hl 0 rfl) ?_
  refine gX9_sayings hC hI tw_863 dX9_take_25 ?_
  refine lv_iload_n hx hb dX9_take_28 rfl (lv_at hl 3 rfl) ?_
  have g29 := (gd_at h).1
  replace h := (gd_at h).2
  refine r_zast hC hI aM_7 g29 dX9_take_29 (fun z29 H locs e29 hI => ?_)
  replace h := bnd_at h e29
  refine lv_aload_n hx hb dX9_take_30 rfl (lv_at hl 0 rfl) ?_
  refine gX9_isTaken hC hI tw_862 dX9_take_31 ?_
  refine lv_aload_n hx hb dX9_take_34 rfl (lv_at hl 0 rfl) ?_
  refine gX9_sayings hC hI tw_863 dX9_take_35 ?_
  refine lv_iconst (v := 1) hx hb dX9_take_38 (by decide) ?_
  have g39 := (gd_at h).1
  replace h := (gd_at h).2
  refine r_zast hC hI aM_8 g39 dX9_take_39 (fun z39 H locs e39 hI => ?_)
  replace h := bnd_at h e39
  refine lv_aload_n hx hb dX9_take_40 rfl (lv_at hl 0 rfl) ?_
  refine lv_dup hx hb dX9_take_41 rfl ?_
  refine gX9_sayings hC hI tw_863 dX9_take_42 ?_
  refine lv_iconst (v := 1) hx hb dX9_take_45 (by decide) ?_
  refine lv_iadd hx hb dX9_take_46 ?_
  refine pX9_sayings hC hI tw_863 dX9_take_47 (fun z47 H locs e47 hI => ?_)
  replace h := bnd_at h e47
  refine lv_aload_n hx hb dX9_take_50 rfl (lv_at hl 0 rfl) ?_
  refine lv_iconst (v := 0) hx hb dX9_take_51 (by decide) ?_
  refine pX9_isFresh hC hI tw_884 (by decide) dX9_take_52 (fun z52 H locs e52 hI => ?_)
  replace h := bnd_at h e52
  refine lv_aload_n hx hb dX9_take_55 rfl (lv_at hl 0 rfl) ?_
  refine gX9_sayings hC hI tw_863 dX9_take_56 ?_
  refine lv_iconst (v := 1) hx hb dX9_take_59 (by decide) ?_
  refine lv_isub hx hb dX9_take_60 ?_
  exact hret h dX9_take_61 hI
theorem dX9_saidNow_0 : decode cX9_saidNow 0 = .ok (.aload_n 0, 1) := by decide +kernel
theorem dX9_saidNow_1 : decode cX9_saidNow 1 = .ok (.iload_n 1, 1) := by decide +kernel
theorem dX9_saidNow_2 : decode cX9_saidNow 2 = .ok (.invokevirtual 132, 3) := by decide +kernel
theorem dX9_saidNow_5 : decode cX9_saidNow 5 = .ok (.ifCond .eq 11, 3) := by decide +kernel
theorem dX9_saidNow_8 : decode cX9_saidNow 8 = .ok (.aload_n 0, 1) := by decide +kernel
theorem dX9_saidNow_9 : decode cX9_saidNow 9 = .ok (.iload_n 2, 1) := by decide +kernel
theorem dX9_saidNow_10 : decode cX9_saidNow 10 = .ok (.invokevirtual 132, 3) := by decide +kernel
theorem dX9_saidNow_13 : decode cX9_saidNow 13 = .ok (.ifCond .ne 9, 3) := by decide +kernel
theorem dX9_saidNow_16 : decode cX9_saidNow 16 = .ok (.aload_n 0, 1) := by decide +kernel
theorem dX9_saidNow_17 : decode cX9_saidNow 17 = .ok (.iconst 1, 1) := by decide +kernel
theorem dX9_saidNow_18 : decode cX9_saidNow 18 = .ok (.invokevirtual 119, 3) := by decide +kernel
theorem dX9_saidNow_21 : decode cX9_saidNow 21 = .ok (.ireturn, 1) := by decide +kernel
theorem dX9_saidNow_22 : decode cX9_saidNow 22 = .ok (.aload_n 0, 1) := by decide +kernel
theorem dX9_saidNow_23 : decode cX9_saidNow 23 = .ok (.getfield 155, 3) := by decide +kernel
theorem dX9_saidNow_26 : decode cX9_saidNow 26 = .ok (.bipush 100, 2) := by decide +kernel
theorem dX9_saidNow_28 : decode cX9_saidNow 28 = .ok (.if_icmp .ne 9, 3) := by decide +kernel
theorem dX9_saidNow_31 : decode cX9_saidNow 31 = .ok (.aload_n 0, 1) := by decide +kernel
theorem dX9_saidNow_32 : decode cX9_saidNow 32 = .ok (.iconst 3, 1) := by decide +kernel
theorem dX9_saidNow_33 : decode cX9_saidNow 33 = .ok (.invokevirtual 119, 3) := by decide +kernel
theorem dX9_saidNow_36 : decode cX9_saidNow 36 = .ok (.ireturn, 1) := by decide +kernel
theorem dX9_saidNow_37 : decode cX9_saidNow 37 = .ok (.aload_n 0, 1) := by decide +kernel
theorem dX9_saidNow_38 : decode cX9_saidNow 38 = .ok (.iload_n 1, 1) := by decide +kernel
theorem dX9_saidNow_39 : decode cX9_saidNow 39 = .ok (.iload_n 2, 1) := by decide +kernel
theorem dX9_saidNow_40 : decode cX9_saidNow 40 = .ok (.iload_n 3, 1) := by decide +kernel
theorem dX9_saidNow_41 : decode cX9_saidNow 41 = .ok (.invokevirtual 196, 3) := by decide +kernel
theorem dX9_saidNow_44 : decode cX9_saidNow 44 = .ok (.ifCond .eq 11, 3) := by decide +kernel
theorem dX9_saidNow_47 : decode cX9_saidNow 47 = .ok (.aload_n 0, 1) := by decide +kernel
theorem dX9_saidNow_48 : decode cX9_saidNow 48 = .ok (.iconst 4, 1) := by decide +kernel
theorem dX9_saidNow_49 : decode cX9_saidNow 49 = .ok (.invokevirtual 119, 3) := by decide +kernel
theorem dX9_saidNow_52 : decode cX9_saidNow 52 = .ok (.goto 14, 3) := by decide +kernel
theorem dX9_saidNow_55 : decode cX9_saidNow 55 = .ok (.aload_n 0, 1) := by decide +kernel
theorem dX9_saidNow_56 : decode cX9_saidNow 56 = .ok (.aload_n 0, 1) := by decide +kernel
theorem dX9_saidNow_57 : decode cX9_saidNow 57 = .ok (.iload_n 1, 1) := by decide +kernel
theorem dX9_saidNow_58 : decode cX9_saidNow 58 = .ok (.iload_n 2, 1) := by decide +kernel
theorem dX9_saidNow_59 : decode cX9_saidNow 59 = .ok (.iload_n 3, 1) := by decide +kernel
theorem dX9_saidNow_60 : decode cX9_saidNow 60 = .ok (.invokevirtual 200, 3) := by decide +kernel
theorem dX9_saidNow_63 : decode cX9_saidNow 63 = .ok (.invokevirtual 123, 3) := by decide +kernel
theorem dX9_saidNow_66 : decode cX9_saidNow 66 = .ok (.ireturn, 1) := by decide +kernel
abbrev rmX9_saidNow : Room := { frames := 8, cells := 0, slots := 0, locals := 187 }
theorem ywX9_saidNow : fY yX9_saidNow "EqualCourtModel" cX9_saidNow 4 (some .int) 3 := ⟨tw_1083, tp_42, tw_11, tw_1084, by decide +kernel⟩
set_option maxHeartbeats 4000000 in
set_option maxRecDepth 100000 in
theorem cX9_saidNow_ok {D : va_G} {ad : Nat → Nat} {cy cz : ClassId} {l : Launch} {z : fS} {v1 : Int32} {v2 : Int32} {v3 : Int32} {r : Int32} {τ : fS} (h : fX9_saidNow z v1 v2 v3 = some (r, τ)) : fMi D 31 ad (cfM ad cy cz) cy cz l yX9_saidNow cX9_saidNow 4 (some .int) rmX9_saidNow [.ref (ad 0), .int v1, .int v2, .int v3] z r τ := by
  refine f_bodyi (by decide) (Nat.le_of_ble_eq_true rfl) (fun p e s m args below meth c Q hC hret ls hl hI => ?_)
  have hx := hC.1
  have hb := hC.2.1
  have hl : lv_has ls 4 [(0, .ref (ad 0)), (1, .int v1), (2, .int v2), (3, .int v3)] := hl
  unfold fX9_saidNow at h
  refine lv_aload_n hx hb dX9_saidNow_0 rfl (lv_at hl 0 rfl) ?_
  refine lv_iload_n hx hb dX9_saidNow_1 rfl (lv_at hl 1 rfl) ?_
  replace h := bp_at h
  obtain ⟨r2, e2, h⟩ := h
  refine r_calli (rest := []) hC hI oM_0 (C := "EqualCourtModel") rfl ywX9_isTerm tw_1013 (cX9_isTerm_ok  e2) ⟨Nat.le_of_ble_eq_true rfl, Nat.le_of_ble_eq_true rfl⟩ ⟨rfl, rfl⟩ rfl hl.1 rfl (Nat.le_of_ble_eq_true rfl) dX9_saidNow_2 (fun H locs hI => ?_)
  refine lv_if_eq (tgt := 16) hx hb dX9_saidNow_5 (by decide) (fun c5 => ?_) (fun c5 => ?_)
  · replace h := if_t h c5
    refine lv_aload_n hx hb dX9_saidNow_16 rfl (lv_at hl 0 rfl) ?_
    refine lv_iconst (v := 1) hx hb dX9_saidNow_17 (by decide) ?_
    replace h := bd_at h
    obtain ⟨r18, z18, e18, h⟩ := h
    refine r_calli (rest := []) hC hI oM_0 (C := "EqualCourtModel") rfl ywX9_refuse tw_985 (cX9_refuse_ok  e18) ⟨Nat.le_of_ble_eq_true rfl, Nat.le_of_ble_eq_true rfl⟩ ⟨rfl, rfl⟩ rfl hl.1 rfl (Nat.le_of_ble_eq_true rfl) dX9_saidNow_18 (fun H locs hI => ?_)
    exact hret h dX9_saidNow_21 hI
  · replace h := if_f h c5
    refine lv_aload_n hx hb dX9_saidNow_8 rfl (lv_at hl 0 rfl) ?_
    refine lv_iload_n hx hb dX9_saidNow_9 rfl (lv_at hl 2 rfl) ?_
    replace h := bp_at h
    obtain ⟨r10, e10, h⟩ := h
    refine r_calli (rest := []) hC hI oM_0 (C := "EqualCourtModel") rfl ywX9_isTerm tw_1013 (cX9_isTerm_ok  e10) ⟨Nat.le_of_ble_eq_true rfl, Nat.le_of_ble_eq_true rfl⟩ ⟨rfl, rfl⟩ rfl hl.1 rfl (Nat.le_of_ble_eq_true rfl) dX9_saidNow_10 (fun H locs hI => ?_)
    refine lv_if_ne (tgt := 22) hx hb dX9_saidNow_13 (by decide) (fun c13 => ?_) (fun c13 => ?_)
    · replace h := if_f h c13
      refine lv_aload_n hx hb dX9_saidNow_22 rfl (lv_at hl 0 rfl) ?_
      refine gX9_sayings hC hI tw_863 dX9_saidNow_23 ?_
      refine lv_bipush (v := 100) hx hb dX9_saidNow_26 (by decide) ?_
      refine lv_icmp_ne (tgt := 37) hx hb dX9_saidNow_28 (by decide) (fun c28 => ?_) (fun c28 => ?_)
      · replace h := if_f h c28
        refine lv_aload_n hx hb dX9_saidNow_37 rfl (lv_at hl 0 rfl) ?_
        refine lv_iload_n hx hb dX9_saidNow_38 rfl (lv_at hl 1 rfl) ?_
        refine lv_iload_n hx hb dX9_saidNow_39 rfl (lv_at hl 2 rfl) ?_
        refine lv_iload_n hx hb dX9_saidNow_40 rfl (lv_at hl 3 rfl) ?_
        replace h := bd_at h
        obtain ⟨r41, z41, e41, h⟩ := h
        refine r_calli (rest := []) hC hI oM_0 (C := "EqualCourtModel") rfl ywX9_wouldClash tw_1085 (cX9_wouldClash_ok  e41) ⟨Nat.le_of_ble_eq_true rfl, Nat.le_of_ble_eq_true rfl⟩ ⟨rfl, rfl⟩ rfl hl.1 rfl (Nat.le_of_ble_eq_true rfl) dX9_saidNow_41 (fun H locs hI => ?_)
        refine lv_if_eq (tgt := 55) hx hb dX9_saidNow_44 (by decide) (fun c44 => ?_) (fun c44 => ?_)
        · replace h := if_t h c44
          refine lv_aload_n hx hb dX9_saidNow_55 rfl (lv_at hl 0 rfl) ?_
          refine lv_aload_n hx hb dX9_saidNow_56 rfl (lv_at hl 0 rfl) ?_
          refine lv_iload_n hx hb dX9_saidNow_57 rfl (lv_at hl 1 rfl) ?_
          refine lv_iload_n hx hb dX9_saidNow_58 rfl (lv_at hl 2 rfl) ?_
          refine lv_iload_n hx hb dX9_saidNow_59 rfl (lv_at hl 3 rfl) ?_
          replace h := bd_at h
          obtain ⟨r60, z60, e60, h⟩ := h
          refine r_calli (rest := [.ref (ad 0)]) hC hI oM_0 (C := "EqualCourtModel") rfl ywX9_take tw_1105 (cX9_take_ok  e60) ⟨Nat.le_of_ble_eq_true rfl, Nat.le_of_ble_eq_true rfl⟩ ⟨rfl, rfl⟩ rfl hl.1 rfl (Nat.le_of_ble_eq_true rfl) dX9_saidNow_60 (fun H locs hI => ?_)
          replace h := bd_at h
          obtain ⟨r63, z63, e63, h⟩ := h
          refine r_calli (rest := []) hC hI oM_0 (C := "EqualCourtModel") rfl ywX9_done tw_1001 (cX9_done_ok  e63) ⟨Nat.le_of_ble_eq_true rfl, Nat.le_of_ble_eq_true rfl⟩ ⟨rfl, rfl⟩ rfl hl.1 rfl (Nat.le_of_ble_eq_true rfl) dX9_saidNow_63 (fun H locs hI => ?_)
          exact hret h dX9_saidNow_66 hI
        · replace h := if_f h c44
          refine lv_aload_n hx hb dX9_saidNow_47 rfl (lv_at hl 0 rfl) ?_
          refine lv_iconst (v := 4) hx hb dX9_saidNow_48 (by decide) ?_
          replace h := bd_at h
          obtain ⟨r49, z49, e49, h⟩ := h
          refine r_calli (rest := []) hC hI oM_0 (C := "EqualCourtModel") rfl ywX9_refuse tw_985 (cX9_refuse_ok  e49) ⟨Nat.le_of_ble_eq_true rfl, Nat.le_of_ble_eq_true rfl⟩ ⟨rfl, rfl⟩ rfl hl.1 rfl (Nat.le_of_ble_eq_true rfl) dX9_saidNow_49 (fun H locs hI => ?_)
          refine lv_goto (tgt := 66) hx hb dX9_saidNow_52 (by decide) ?_
          exact hret h dX9_saidNow_66 hI
      · replace h := if_t h c28
        refine lv_aload_n hx hb dX9_saidNow_31 rfl (lv_at hl 0 rfl) ?_
        refine lv_iconst (v := 3) hx hb dX9_saidNow_32 (by decide) ?_
        replace h := bd_at h
        obtain ⟨r33, z33, e33, h⟩ := h
        refine r_calli (rest := []) hC hI oM_0 (C := "EqualCourtModel") rfl ywX9_refuse tw_985 (cX9_refuse_ok  e33) ⟨Nat.le_of_ble_eq_true rfl, Nat.le_of_ble_eq_true rfl⟩ ⟨rfl, rfl⟩ rfl hl.1 rfl (Nat.le_of_ble_eq_true rfl) dX9_saidNow_33 (fun H locs hI => ?_)
        exact hret h dX9_saidNow_36 hI
    · replace h := if_t h c13
      refine lv_aload_n hx hb dX9_saidNow_16 rfl (lv_at hl 0 rfl) ?_
      refine lv_iconst (v := 1) hx hb dX9_saidNow_17 (by decide) ?_
      replace h := bd_at h
      obtain ⟨r18, z18, e18, h⟩ := h
      refine r_calli (rest := []) hC hI oM_0 (C := "EqualCourtModel") rfl ywX9_refuse tw_985 (cX9_refuse_ok  e18) ⟨Nat.le_of_ble_eq_true rfl, Nat.le_of_ble_eq_true rfl⟩ ⟨rfl, rfl⟩ rfl hl.1 rfl (Nat.le_of_ble_eq_true rfl) dX9_saidNow_18 (fun H locs hI => ?_)
      exact hret h dX9_saidNow_21 hI
theorem dX9_say_0 : decode cX9_say 0 = .ok (.aload_n 0, 1) := by decide +kernel
theorem dX9_say_1 : decode cX9_say 1 = .ok (.iload_n 1, 1) := by decide +kernel
theorem dX9_say_2 : decode cX9_say 2 = .ok (.iload_n 2, 1) := by decide +kernel
theorem dX9_say_3 : decode cX9_say 3 = .ok (.iconst 1, 1) := by decide +kernel
theorem dX9_say_4 : decode cX9_say 4 = .ok (.invokevirtual 204, 3) := by decide +kernel
theorem dX9_say_7 : decode cX9_say 7 = .ok (.ireturn, 1) := by decide +kernel
abbrev rmX9_say : Room := { frames := 9, cells := 0, slots := 0, locals := 210 }
theorem ywX9_say : fY yX9_say "EqualCourtModel" cX9_say 3 (some .int) 2 := ⟨tw_1078, tw_1079, tw_11, tw_1080, by decide +kernel⟩
set_option maxHeartbeats 4000000 in
set_option maxRecDepth 100000 in
theorem cX9_say_ok {D : va_G} {ad : Nat → Nat} {cy cz : ClassId} {l : Launch} {z : fS} {v1 : Int32} {v2 : Int32} {r : Int32} {τ : fS} (h : fX9_say z v1 v2 = some (r, τ)) : fMi D 31 ad (cfM ad cy cz) cy cz l yX9_say cX9_say 3 (some .int) rmX9_say [.ref (ad 0), .int v1, .int v2] z r τ := by
  refine f_bodyi (by decide) (Nat.le_of_ble_eq_true rfl) (fun p e s m args below meth c Q hC hret ls hl hI => ?_)
  have hx := hC.1
  have hb := hC.2.1
  have hl : lv_has ls 3 [(0, .ref (ad 0)), (1, .int v1), (2, .int v2)] := hl
  unfold fX9_say at h
  refine lv_aload_n hx hb dX9_say_0 rfl (lv_at hl 0 rfl) ?_
  refine lv_iload_n hx hb dX9_say_1 rfl (lv_at hl 1 rfl) ?_
  refine lv_iload_n hx hb dX9_say_2 rfl (lv_at hl 2 rfl) ?_
  refine lv_iconst (v := 1) hx hb dX9_say_3 (by decide) ?_
  replace h := bd_at h
  obtain ⟨r4, z4, e4, h⟩ := h
  refine r_calli (rest := []) hC hI oM_0 (C := "EqualCourtModel") rfl ywX9_saidNow tw_1081 (cX9_saidNow_ok  e4) ⟨Nat.le_of_ble_eq_true rfl, Nat.le_of_ble_eq_true rfl⟩ ⟨rfl, rfl⟩ rfl hl.1 rfl (Nat.le_of_ble_eq_true rfl) dX9_say_4 (fun H locs hI => ?_)
  exact hret h dX9_say_7 hI
theorem dX9_unlike_0 : decode cX9_unlike 0 = .ok (.aload_n 0, 1) := by decide +kernel
theorem dX9_unlike_1 : decode cX9_unlike 1 = .ok (.iload_n 1, 1) := by decide +kernel
theorem dX9_unlike_2 : decode cX9_unlike 2 = .ok (.iload_n 2, 1) := by decide +kernel
theorem dX9_unlike_3 : decode cX9_unlike 3 = .ok (.iconst 0, 1) := by decide +kernel
theorem dX9_unlike_4 : decode cX9_unlike 4 = .ok (.invokevirtual 204, 3) := by decide +kernel
theorem dX9_unlike_7 : decode cX9_unlike 7 = .ok (.ireturn, 1) := by decide +kernel
abbrev rmX9_unlike : Room := { frames := 9, cells := 0, slots := 0, locals := 210 }
theorem ywX9_unlike : fY yX9_unlike "EqualCourtModel" cX9_unlike 3 (some .int) 2 := ⟨tw_1110, tw_1111, tw_11, tw_1112, by decide +kernel⟩
set_option maxHeartbeats 4000000 in
set_option maxRecDepth 100000 in
theorem cX9_unlike_ok {D : va_G} {ad : Nat → Nat} {cy cz : ClassId} {l : Launch} {z : fS} {v1 : Int32} {v2 : Int32} {r : Int32} {τ : fS} (h : fX9_unlike z v1 v2 = some (r, τ)) : fMi D 31 ad (cfM ad cy cz) cy cz l yX9_unlike cX9_unlike 3 (some .int) rmX9_unlike [.ref (ad 0), .int v1, .int v2] z r τ := by
  refine f_bodyi (by decide) (Nat.le_of_ble_eq_true rfl) (fun p e s m args below meth c Q hC hret ls hl hI => ?_)
  have hx := hC.1
  have hb := hC.2.1
  have hl : lv_has ls 3 [(0, .ref (ad 0)), (1, .int v1), (2, .int v2)] := hl
  unfold fX9_unlike at h
  refine lv_aload_n hx hb dX9_unlike_0 rfl (lv_at hl 0 rfl) ?_
  refine lv_iload_n hx hb dX9_unlike_1 rfl (lv_at hl 1 rfl) ?_
  refine lv_iload_n hx hb dX9_unlike_2 rfl (lv_at hl 2 rfl) ?_
  refine lv_iconst (v := 0) hx hb dX9_unlike_3 (by decide) ?_
  replace h := bd_at h
  obtain ⟨r4, z4, e4, h⟩ := h
  refine r_calli (rest := []) hC hI oM_0 (C := "EqualCourtModel") rfl ywX9_saidNow tw_1081 (cX9_saidNow_ok  e4) ⟨Nat.le_of_ble_eq_true rfl, Nat.le_of_ble_eq_true rfl⟩ ⟨rfl, rfl⟩ rfl hl.1 rfl (Nat.le_of_ble_eq_true rfl) dX9_unlike_4 (fun H locs hI => ?_)
  exact hret h dX9_unlike_7 hI
theorem dX9_drop_0 : decode cX9_drop 0 = .ok (.iload_n 1, 1) := by decide +kernel
theorem dX9_drop_1 : decode cX9_drop 1 = .ok (.ifCond .lt 11, 3) := by decide +kernel
theorem dX9_drop_4 : decode cX9_drop 4 = .ok (.iload_n 1, 1) := by decide +kernel
theorem dX9_drop_5 : decode cX9_drop 5 = .ok (.aload_n 0, 1) := by decide +kernel
theorem dX9_drop_6 : decode cX9_drop 6 = .ok (.getfield 155, 3) := by decide +kernel
theorem dX9_drop_9 : decode cX9_drop 9 = .ok (.if_icmp .lt 9, 3) := by decide +kernel
theorem dX9_drop_12 : decode cX9_drop 12 = .ok (.aload_n 0, 1) := by decide +kernel
theorem dX9_drop_13 : decode cX9_drop 13 = .ok (.iconst 1, 1) := by decide +kernel
theorem dX9_drop_14 : decode cX9_drop 14 = .ok (.invokevirtual 119, 3) := by decide +kernel
theorem dX9_drop_17 : decode cX9_drop 17 = .ok (.ireturn, 1) := by decide +kernel
theorem dX9_drop_18 : decode cX9_drop 18 = .ok (.aload_n 0, 1) := by decide +kernel
theorem dX9_drop_19 : decode cX9_drop 19 = .ok (.getfield 32, 3) := by decide +kernel
theorem dX9_drop_22 : decode cX9_drop 22 = .ok (.iload_n 1, 1) := by decide +kernel
theorem dX9_drop_23 : decode cX9_drop 23 = .ok (.baload, 1) := by decide +kernel
theorem dX9_drop_24 : decode cX9_drop 24 = .ok (.ifCond .ne 9, 3) := by decide +kernel
theorem dX9_drop_27 : decode cX9_drop 27 = .ok (.aload_n 0, 1) := by decide +kernel
theorem dX9_drop_28 : decode cX9_drop 28 = .ok (.iconst 5, 1) := by decide +kernel
theorem dX9_drop_29 : decode cX9_drop 29 = .ok (.invokevirtual 119, 3) := by decide +kernel
theorem dX9_drop_32 : decode cX9_drop 32 = .ok (.ireturn, 1) := by decide +kernel
theorem dX9_drop_33 : decode cX9_drop 33 = .ok (.aload_n 0, 1) := by decide +kernel
theorem dX9_drop_34 : decode cX9_drop 34 = .ok (.getfield 32, 3) := by decide +kernel
theorem dX9_drop_37 : decode cX9_drop 37 = .ok (.iload_n 1, 1) := by decide +kernel
theorem dX9_drop_38 : decode cX9_drop 38 = .ok (.iconst 0, 1) := by decide +kernel
theorem dX9_drop_39 : decode cX9_drop 39 = .ok (.bastore, 1) := by decide +kernel
theorem dX9_drop_40 : decode cX9_drop 40 = .ok (.aload_n 0, 1) := by decide +kernel
theorem dX9_drop_41 : decode cX9_drop 41 = .ok (.iconst 0, 1) := by decide +kernel
theorem dX9_drop_42 : decode cX9_drop 42 = .ok (.putfield 115, 3) := by decide +kernel
theorem dX9_drop_45 : decode cX9_drop 45 = .ok (.aload_n 0, 1) := by decide +kernel
theorem dX9_drop_46 : decode cX9_drop 46 = .ok (.aload_n 0, 1) := by decide +kernel
theorem dX9_drop_47 : decode cX9_drop 47 = .ok (.invokevirtual 169, 3) := by decide +kernel
theorem dX9_drop_50 : decode cX9_drop 50 = .ok (.invokevirtual 123, 3) := by decide +kernel
theorem dX9_drop_53 : decode cX9_drop 53 = .ok (.ireturn, 1) := by decide +kernel
abbrev rmX9_drop : Room := { frames := 1, cells := 0, slots := 0, locals := 22 }
theorem ywX9_drop : fY yX9_drop "EqualCourtModel" cX9_drop 2 (some .int) 1 := ⟨tw_1114, tw_1115, tw_11, tw_1116, by decide +kernel⟩
set_option maxHeartbeats 4000000 in
set_option maxRecDepth 100000 in
theorem cX9_drop_ok {D : va_G} {ad : Nat → Nat} {cy cz : ClassId} {l : Launch} {z : fS} {v1 : Int32} {r : Int32} {τ : fS} (h : fX9_drop z v1 = some (r, τ)) : fMi D 31 ad (cfM ad cy cz) cy cz l yX9_drop cX9_drop 2 (some .int) rmX9_drop [.ref (ad 0), .int v1] z r τ := by
  refine f_bodyi (by decide) (Nat.le_of_ble_eq_true rfl) (fun p e s m args below meth c Q hC hret ls hl hI => ?_)
  have hx := hC.1
  have hb := hC.2.1
  have hl : lv_has ls 2 [(0, .ref (ad 0)), (1, .int v1)] := hl
  unfold fX9_drop at h
  refine lv_iload_n hx hb dX9_drop_0 rfl (lv_at hl 1 rfl) ?_
  refine lv_if_lt (tgt := 12) hx hb dX9_drop_1 (by decide) (fun c1 => ?_) (fun c1 => ?_)
  · replace h := if_t h c1
    refine lv_aload_n hx hb dX9_drop_12 rfl (lv_at hl 0 rfl) ?_
    refine lv_iconst (v := 1) hx hb dX9_drop_13 (by decide) ?_
    replace h := bd_at h
    obtain ⟨r14, z14, e14, h⟩ := h
    refine r_calli (rest := []) hC hI oM_0 (C := "EqualCourtModel") rfl ywX9_refuse tw_985 (cX9_refuse_ok  e14) ⟨Nat.le_of_ble_eq_true rfl, Nat.le_of_ble_eq_true rfl⟩ ⟨rfl, rfl⟩ rfl hl.1 rfl (Nat.le_of_ble_eq_true rfl) dX9_drop_14 (fun H locs hI => ?_)
    exact hret h dX9_drop_17 hI
  · replace h := if_f h c1
    refine lv_iload_n hx hb dX9_drop_4 rfl (lv_at hl 1 rfl) ?_
    refine lv_aload_n hx hb dX9_drop_5 rfl (lv_at hl 0 rfl) ?_
    refine gX9_sayings hC hI tw_863 dX9_drop_6 ?_
    refine lv_icmp_lt (tgt := 18) hx hb dX9_drop_9 (by decide) (fun c9 => ?_) (fun c9 => ?_)
    · replace h := if_t h c9
      refine lv_aload_n hx hb dX9_drop_18 rfl (lv_at hl 0 rfl) ?_
      refine gX9_isTaken hC hI tw_862 dX9_drop_19 ?_
      refine lv_iload_n hx hb dX9_drop_22 rfl (lv_at hl 1 rfl) ?_
      have g23 := (gd_at h).1
      replace h := (gd_at h).2
      refine r_zald hC hI aM_8 g23 dX9_drop_23 ?_
      refine lv_if_ne (tgt := 33) hx hb dX9_drop_24 (by decide) (fun c24 => ?_) (fun c24 => ?_)
      · replace h := if_f h c24
        refine lv_aload_n hx hb dX9_drop_33 rfl (lv_at hl 0 rfl) ?_
        refine gX9_isTaken hC hI tw_862 dX9_drop_34 ?_
        refine lv_iload_n hx hb dX9_drop_37 rfl (lv_at hl 1 rfl) ?_
        refine lv_iconst (v := 0) hx hb dX9_drop_38 (by decide) ?_
        have g39 := (gd_at h).1
        replace h := (gd_at h).2
        refine r_zast hC hI aM_8 g39 dX9_drop_39 (fun z39 H locs e39 hI => ?_)
        replace h := bnd_at h e39
        refine lv_aload_n hx hb dX9_drop_40 rfl (lv_at hl 0 rfl) ?_
        refine lv_iconst (v := 0) hx hb dX9_drop_41 (by decide) ?_
        refine pX9_isFresh hC hI tw_884 (by decide) dX9_drop_42 (fun z42 H locs e42 hI => ?_)
        replace h := bnd_at h e42
        refine lv_aload_n hx hb dX9_drop_45 rfl (lv_at hl 0 rfl) ?_
        refine lv_aload_n hx hb dX9_drop_46 rfl (lv_at hl 0 rfl) ?_
        replace h := bp_at h
        obtain ⟨r47, e47, h⟩ := h
        refine r_calli (rest := [.ref (ad 0)]) hC hI oM_0 (C := "EqualCourtModel") rfl ywX9_taken tw_1041 (cX9_taken_ok  e47) ⟨Nat.le_of_ble_eq_true rfl, Nat.le_of_ble_eq_true rfl⟩ ⟨rfl, rfl⟩ rfl hl.1 rfl (Nat.le_of_ble_eq_true rfl) dX9_drop_47 (fun H locs hI => ?_)
        replace h := bd_at h
        obtain ⟨r50, z50, e50, h⟩ := h
        refine r_calli (rest := []) hC hI oM_0 (C := "EqualCourtModel") rfl ywX9_done tw_1001 (cX9_done_ok  e50) ⟨Nat.le_of_ble_eq_true rfl, Nat.le_of_ble_eq_true rfl⟩ ⟨rfl, rfl⟩ rfl hl.1 rfl (Nat.le_of_ble_eq_true rfl) dX9_drop_50 (fun H locs hI => ?_)
        exact hret h dX9_drop_53 hI
      · replace h := if_t h c24
        refine lv_aload_n hx hb dX9_drop_27 rfl (lv_at hl 0 rfl) ?_
        refine lv_iconst (v := 5) hx hb dX9_drop_28 (by decide) ?_
        replace h := bd_at h
        obtain ⟨r29, z29, e29, h⟩ := h
        refine r_calli (rest := []) hC hI oM_0 (C := "EqualCourtModel") rfl ywX9_refuse tw_985 (cX9_refuse_ok  e29) ⟨Nat.le_of_ble_eq_true rfl, Nat.le_of_ble_eq_true rfl⟩ ⟨rfl, rfl⟩ rfl hl.1 rfl (Nat.le_of_ble_eq_true rfl) dX9_drop_29 (fun H locs hI => ?_)
        exact hret h dX9_drop_32 hI
    · replace h := if_f h c9
      refine lv_aload_n hx hb dX9_drop_12 rfl (lv_at hl 0 rfl) ?_
      refine lv_iconst (v := 1) hx hb dX9_drop_13 (by decide) ?_
      replace h := bd_at h
      obtain ⟨r14, z14, e14, h⟩ := h
      refine r_calli (rest := []) hC hI oM_0 (C := "EqualCourtModel") rfl ywX9_refuse tw_985 (cX9_refuse_ok  e14) ⟨Nat.le_of_ble_eq_true rfl, Nat.le_of_ble_eq_true rfl⟩ ⟨rfl, rfl⟩ rfl hl.1 rfl (Nat.le_of_ble_eq_true rfl) dX9_drop_14 (fun H locs hI => ?_)
      exact hret h dX9_drop_17 hI
theorem dX9_said_0 : decode cX9_said 0 = .ok (.iload_n 1, 1) := by decide +kernel
theorem dX9_said_1 : decode cX9_said 1 = .ok (.ifCond .lt 11, 3) := by decide +kernel
theorem dX9_said_4 : decode cX9_said 4 = .ok (.iload_n 1, 1) := by decide +kernel
theorem dX9_said_5 : decode cX9_said 5 = .ok (.aload_n 0, 1) := by decide +kernel
theorem dX9_said_6 : decode cX9_said 6 = .ok (.getfield 155, 3) := by decide +kernel
theorem dX9_said_9 : decode cX9_said 9 = .ok (.if_icmp .lt 5, 3) := by decide +kernel
theorem dX9_said_12 : decode cX9_said 12 = .ok (.iconst (-1), 1) := by decide +kernel
theorem dX9_said_13 : decode cX9_said 13 = .ok (.ireturn, 1) := by decide +kernel
theorem dX9_said_14 : decode cX9_said 14 = .ok (.iload_n 2, 1) := by decide +kernel
theorem dX9_said_15 : decode cX9_said 15 = .ok (.tableswitch 73 0 3 #[29, 44, 51, 58], 29) := by decide +kernel
theorem dX9_said_44 : decode cX9_said 44 = .ok (.aload_n 0, 1) := by decide +kernel
theorem dX9_said_45 : decode cX9_said 45 = .ok (.getfield 28, 3) := by decide +kernel
theorem dX9_said_48 : decode cX9_said 48 = .ok (.iload_n 1, 1) := by decide +kernel
theorem dX9_said_49 : decode cX9_said 49 = .ok (.baload, 1) := by decide +kernel
theorem dX9_said_50 : decode cX9_said 50 = .ok (.ifCond .eq 7, 3) := by decide +kernel
theorem dX9_said_53 : decode cX9_said 53 = .ok (.iconst 1, 1) := by decide +kernel
theorem dX9_said_54 : decode cX9_said 54 = .ok (.goto 4, 3) := by decide +kernel
theorem dX9_said_57 : decode cX9_said 57 = .ok (.iconst 0, 1) := by decide +kernel
theorem dX9_said_58 : decode cX9_said 58 = .ok (.ireturn, 1) := by decide +kernel
theorem dX9_said_59 : decode cX9_said 59 = .ok (.aload_n 0, 1) := by decide +kernel
theorem dX9_said_60 : decode cX9_said 60 = .ok (.getfield 22, 3) := by decide +kernel
theorem dX9_said_63 : decode cX9_said 63 = .ok (.iload_n 1, 1) := by decide +kernel
theorem dX9_said_64 : decode cX9_said 64 = .ok (.iaload, 1) := by decide +kernel
theorem dX9_said_65 : decode cX9_said 65 = .ok (.ireturn, 1) := by decide +kernel
theorem dX9_said_66 : decode cX9_said 66 = .ok (.aload_n 0, 1) := by decide +kernel
theorem dX9_said_67 : decode cX9_said 67 = .ok (.getfield 25, 3) := by decide +kernel
theorem dX9_said_70 : decode cX9_said 70 = .ok (.iload_n 1, 1) := by decide +kernel
theorem dX9_said_71 : decode cX9_said 71 = .ok (.iaload, 1) := by decide +kernel
theorem dX9_said_72 : decode cX9_said 72 = .ok (.ireturn, 1) := by decide +kernel
theorem dX9_said_73 : decode cX9_said 73 = .ok (.aload_n 0, 1) := by decide +kernel
theorem dX9_said_74 : decode cX9_said 74 = .ok (.getfield 32, 3) := by decide +kernel
theorem dX9_said_77 : decode cX9_said 77 = .ok (.iload_n 1, 1) := by decide +kernel
theorem dX9_said_78 : decode cX9_said 78 = .ok (.baload, 1) := by decide +kernel
theorem dX9_said_79 : decode cX9_said 79 = .ok (.ifCond .eq 7, 3) := by decide +kernel
theorem dX9_said_82 : decode cX9_said 82 = .ok (.iconst 1, 1) := by decide +kernel
theorem dX9_said_83 : decode cX9_said 83 = .ok (.goto 4, 3) := by decide +kernel
theorem dX9_said_86 : decode cX9_said 86 = .ok (.iconst 0, 1) := by decide +kernel
theorem dX9_said_87 : decode cX9_said 87 = .ok (.ireturn, 1) := by decide +kernel
theorem dX9_said_88 : decode cX9_said 88 = .ok (.iconst (-1), 1) := by decide +kernel
theorem dX9_said_89 : decode cX9_said 89 = .ok (.ireturn, 1) := by decide +kernel
abbrev rmX9_said : Room := { frames := 0, cells := 0, slots := 0, locals := 0 }
theorem ywX9_said : fY yX9_said "EqualCourtModel" cX9_said 3 (some .int) 2 := ⟨tw_1118, tw_1119, tw_11, tw_1120, by decide +kernel⟩
set_option maxHeartbeats 4000000 in
set_option maxRecDepth 100000 in
theorem cX9_said_ok {D : va_G} {ad : Nat → Nat} {cy cz : ClassId} {l : Launch} {z : fS} {v1 : Int32} {v2 : Int32} {r : Int32} (h : fX9_said z v1 v2 = some r) : fMi D 31 ad (cfM ad cy cz) cy cz l yX9_said cX9_said 3 (some .int) rmX9_said [.ref (ad 0), .int v1, .int v2] z r z := by
  refine f_bodyi (by decide) (Nat.le_of_ble_eq_true rfl) (fun p e s m args below meth c Q hC hret ls hl hI => ?_)
  have hx := hC.1
  have hb := hC.2.1
  have hl : lv_has ls 3 [(0, .ref (ad 0)), (1, .int v1), (2, .int v2)] := hl
  unfold fX9_said at h
  refine lv_iload_n hx hb dX9_said_0 rfl (lv_at hl 1 rfl) ?_
  refine lv_if_lt (tgt := 12) hx hb dX9_said_1 (by decide) (fun c1 => ?_) (fun c1 => ?_)
  · replace h := if_t h c1
    refine lv_iconst (v := -1) hx hb dX9_said_12 (by decide) ?_
    exact hret (ret_p _ h) dX9_said_13 hI
  · replace h := if_f h c1
    refine lv_iload_n hx hb dX9_said_4 rfl (lv_at hl 1 rfl) ?_
    refine lv_aload_n hx hb dX9_said_5 rfl (lv_at hl 0 rfl) ?_
    refine gX9_sayings hC hI tw_863 dX9_said_6 ?_
    refine lv_icmp_lt (tgt := 14) hx hb dX9_said_9 (by decide) (fun c9 => ?_) (fun c9 => ?_)
    · replace h := if_t h c9
      refine lv_iload_n hx hb dX9_said_14 rfl (lv_at hl 2 rfl) ?_
      refine lv_topi (fun y15 e15 => ?_)
      by_cases b15_0 : y15 = (0 : Int32)
      · replace h := if_t h (e15.symm.trans b15_0)
        refine lv_tableIn (tgt := 44) hx hb dX9_said_15 (by rw [b15_0]; decide) (by rw [b15_0]; decide) (by rw [b15_0]; rfl) (by decide) ?_
        refine lv_aload_n hx hb dX9_said_44 rfl (lv_at hl 0 rfl) ?_
        refine gX9_isSame hC hI tw_861 dX9_said_45 ?_
        refine lv_iload_n hx hb dX9_said_48 rfl (lv_at hl 1 rfl) ?_
        have g49 := (gd_at h).1
        replace h := (gd_at h).2
        refine r_zald hC hI aM_7 g49 dX9_said_49 ?_
        refine lv_if_eq (tgt := 57) hx hb dX9_said_50 (by decide) (fun c50 => ?_) (fun c50 => ?_)
        · replace h := if_t h c50
          refine lv_iconst (v := 0) hx hb dX9_said_57 (by decide) ?_
          exact hret (ret_p _ h) dX9_said_58 hI
        · replace h := if_f h c50
          refine lv_iconst (v := 1) hx hb dX9_said_53 (by decide) ?_
          refine lv_goto (tgt := 58) hx hb dX9_said_54 (by decide) ?_
          exact hret (ret_p _ h) dX9_said_58 hI
      replace h := if_f h (fun q => b15_0 (e15.trans q))
      by_cases b15_1 : y15 = (1 : Int32)
      · replace h := if_t h (e15.symm.trans b15_1)
        refine lv_tableIn (tgt := 59) hx hb dX9_said_15 (by rw [b15_1]; decide) (by rw [b15_1]; decide) (by rw [b15_1]; rfl) (by decide) ?_
        refine lv_aload_n hx hb dX9_said_59 rfl (lv_at hl 0 rfl) ?_
        refine gX9_sayA hC hI tw_859 dX9_said_60 ?_
        refine lv_iload_n hx hb dX9_said_63 rfl (lv_at hl 1 rfl) ?_
        have g64 := (gd_at h).1
        replace h := (gd_at h).2
        refine r_iald hC hI aM_5 g64 dX9_said_64 ?_
        exact hret (ret_p _ h) dX9_said_65 hI
      replace h := if_f h (fun q => b15_1 (e15.trans q))
      by_cases b15_2 : y15 = (2 : Int32)
      · replace h := if_t h (e15.symm.trans b15_2)
        refine lv_tableIn (tgt := 66) hx hb dX9_said_15 (by rw [b15_2]; decide) (by rw [b15_2]; decide) (by rw [b15_2]; rfl) (by decide) ?_
        refine lv_aload_n hx hb dX9_said_66 rfl (lv_at hl 0 rfl) ?_
        refine gX9_sayB hC hI tw_860 dX9_said_67 ?_
        refine lv_iload_n hx hb dX9_said_70 rfl (lv_at hl 1 rfl) ?_
        have g71 := (gd_at h).1
        replace h := (gd_at h).2
        refine r_iald hC hI aM_6 g71 dX9_said_71 ?_
        exact hret (ret_p _ h) dX9_said_72 hI
      replace h := if_f h (fun q => b15_2 (e15.trans q))
      by_cases b15_3 : y15 = (3 : Int32)
      · replace h := if_t h (e15.symm.trans b15_3)
        refine lv_tableIn (tgt := 73) hx hb dX9_said_15 (by rw [b15_3]; decide) (by rw [b15_3]; decide) (by rw [b15_3]; rfl) (by decide) ?_
        refine lv_aload_n hx hb dX9_said_73 rfl (lv_at hl 0 rfl) ?_
        refine gX9_isTaken hC hI tw_862 dX9_said_74 ?_
        refine lv_iload_n hx hb dX9_said_77 rfl (lv_at hl 1 rfl) ?_
        have g78 := (gd_at h).1
        replace h := (gd_at h).2
        refine r_zald hC hI aM_8 g78 dX9_said_78 ?_
        refine lv_if_eq (tgt := 86) hx hb dX9_said_79 (by decide) (fun c79 => ?_) (fun c79 => ?_)
        · replace h := if_t h c79
          refine lv_iconst (v := 0) hx hb dX9_said_86 (by decide) ?_
          exact hret (ret_p _ h) dX9_said_87 hI
        · replace h := if_f h c79
          refine lv_iconst (v := 1) hx hb dX9_said_82 (by decide) ?_
          refine lv_goto (tgt := 87) hx hb dX9_said_83 (by decide) ?_
          exact hret (ret_p _ h) dX9_said_87 hI
      replace h := if_f h (fun q => b15_3 (e15.trans q))
      refine lv_tableOut (tgt := 88) hx hb dX9_said_15 (by have q0 := lv_neT b15_0 (a := 0) (by decide); have q1 := lv_neT b15_1 (a := 1) (by decide); have q2 := lv_neT b15_2 (a := 2) (by decide); have q3 := lv_neT b15_3 (a := 3) (by decide); omega) (by decide) ?_
      refine lv_iconst (v := -1) hx hb dX9_said_88 (by decide) ?_
      exact hret (ret_p _ h) dX9_said_89 hI
    · replace h := if_f h c9
      refine lv_iconst (v := -1) hx hb dX9_said_12 (by decide) ?_
      exact hret (ret_p _ h) dX9_said_13 hI
theorem dX9_clashed_0 : decode cX9_clashed 0 = .ok (.iload_n 1, 1) := by decide +kernel
theorem dX9_clashed_1 : decode cX9_clashed 1 = .ok (.ifCond .lt 20, 3) := by decide +kernel
theorem dX9_clashed_4 : decode cX9_clashed 4 = .ok (.iload_n 1, 1) := by decide +kernel
theorem dX9_clashed_5 : decode cX9_clashed 5 = .ok (.aload_n 0, 1) := by decide +kernel
theorem dX9_clashed_6 : decode cX9_clashed 6 = .ok (.getfield 193, 3) := by decide +kernel
theorem dX9_clashed_9 : decode cX9_clashed 9 = .ok (.if_icmp .ge 12, 3) := by decide +kernel
theorem dX9_clashed_12 : decode cX9_clashed 12 = .ok (.aload_n 0, 1) := by decide +kernel
theorem dX9_clashed_13 : decode cX9_clashed 13 = .ok (.getfield 59, 3) := by decide +kernel
theorem dX9_clashed_16 : decode cX9_clashed 16 = .ok (.iload_n 1, 1) := by decide +kernel
theorem dX9_clashed_17 : decode cX9_clashed 17 = .ok (.iaload, 1) := by decide +kernel
theorem dX9_clashed_18 : decode cX9_clashed 18 = .ok (.goto 4, 3) := by decide +kernel
theorem dX9_clashed_21 : decode cX9_clashed 21 = .ok (.iconst (-1), 1) := by decide +kernel
theorem dX9_clashed_22 : decode cX9_clashed 22 = .ok (.ireturn, 1) := by decide +kernel
abbrev rmX9_clashed : Room := { frames := 0, cells := 0, slots := 0, locals := 0 }
theorem ywX9_clashed : fY yX9_clashed "EqualCourtModel" cX9_clashed 2 (some .int) 1 := ⟨tw_1122, tw_1123, tw_11, tw_1124, by decide +kernel⟩
set_option maxHeartbeats 4000000 in
set_option maxRecDepth 100000 in
theorem cX9_clashed_ok {D : va_G} {ad : Nat → Nat} {cy cz : ClassId} {l : Launch} {z : fS} {v1 : Int32} {r : Int32} (h : fX9_clashed z v1 = some r) : fMi D 31 ad (cfM ad cy cz) cy cz l yX9_clashed cX9_clashed 2 (some .int) rmX9_clashed [.ref (ad 0), .int v1] z r z := by
  refine f_bodyi (by decide) (Nat.le_of_ble_eq_true rfl) (fun p e s m args below meth c Q hC hret ls hl hI => ?_)
  have hx := hC.1
  have hb := hC.2.1
  have hl : lv_has ls 2 [(0, .ref (ad 0)), (1, .int v1)] := hl
  unfold fX9_clashed at h
  refine lv_iload_n hx hb dX9_clashed_0 rfl (lv_at hl 1 rfl) ?_
  refine lv_if_lt (tgt := 21) hx hb dX9_clashed_1 (by decide) (fun c1 => ?_) (fun c1 => ?_)
  · replace h := if_t h c1
    refine lv_iconst (v := -1) hx hb dX9_clashed_21 (by decide) ?_
    exact hret (ret_p _ h) dX9_clashed_22 hI
  · replace h := if_f h c1
    refine lv_iload_n hx hb dX9_clashed_4 rfl (lv_at hl 1 rfl) ?_
    refine lv_aload_n hx hb dX9_clashed_5 rfl (lv_at hl 0 rfl) ?_
    refine gX9_clashMany hC hI tw_876 dX9_clashed_6 ?_
    refine lv_icmp_ge (tgt := 21) hx hb dX9_clashed_9 (by decide) (fun c9 => ?_) (fun c9 => ?_)
    · replace h := if_t h c9
      refine lv_iconst (v := -1) hx hb dX9_clashed_21 (by decide) ?_
      exact hret (ret_p _ h) dX9_clashed_22 hI
    · replace h := if_f h c9
      refine lv_aload_n hx hb dX9_clashed_12 rfl (lv_at hl 0 rfl) ?_
      refine gX9_clashRow hC hI tw_875 dX9_clashed_13 ?_
      refine lv_iload_n hx hb dX9_clashed_16 rfl (lv_at hl 1 rfl) ?_
      have g17 := (gd_at h).1
      replace h := (gd_at h).2
      refine r_iald hC hI aM_17 g17 dX9_clashed_17 ?_
      refine lv_goto (tgt := 22) hx hb dX9_clashed_18 (by decide) ?_
      exact hret (ret_p _ h) dX9_clashed_22 hI
theorem dX9_judge_0 : decode cX9_judge 0 = .ok (.aload_n 0, 1) := by decide +kernel
theorem dX9_judge_1 : decode cX9_judge 1 = .ok (.iload_n 1, 1) := by decide +kernel
theorem dX9_judge_2 : decode cX9_judge 2 = .ok (.invokevirtual 132, 3) := by decide +kernel
theorem dX9_judge_5 : decode cX9_judge 5 = .ok (.ifCond .eq 11, 3) := by decide +kernel
theorem dX9_judge_8 : decode cX9_judge 8 = .ok (.aload_n 0, 1) := by decide +kernel
theorem dX9_judge_9 : decode cX9_judge 9 = .ok (.iload_n 2, 1) := by decide +kernel
theorem dX9_judge_10 : decode cX9_judge 10 = .ok (.invokevirtual 132, 3) := by decide +kernel
theorem dX9_judge_13 : decode cX9_judge 13 = .ok (.ifCond .ne 5, 3) := by decide +kernel
theorem dX9_judge_16 : decode cX9_judge 16 = .ok (.iconst (-1), 1) := by decide +kernel
theorem dX9_judge_17 : decode cX9_judge 17 = .ok (.ireturn, 1) := by decide +kernel
theorem dX9_judge_18 : decode cX9_judge 18 = .ok (.aload_n 0, 1) := by decide +kernel
theorem dX9_judge_19 : decode cX9_judge 19 = .ok (.iload_n 1, 1) := by decide +kernel
theorem dX9_judge_20 : decode cX9_judge 20 = .ok (.iload_n 2, 1) := by decide +kernel
theorem dX9_judge_21 : decode cX9_judge 21 = .ok (.invokevirtual 207, 3) := by decide +kernel
theorem dX9_judge_24 : decode cX9_judge 24 = .ok (.ifCond .eq 5, 3) := by decide +kernel
theorem dX9_judge_27 : decode cX9_judge 27 = .ok (.iconst 1, 1) := by decide +kernel
theorem dX9_judge_28 : decode cX9_judge 28 = .ok (.ireturn, 1) := by decide +kernel
theorem dX9_judge_29 : decode cX9_judge 29 = .ok (.aload_n 0, 1) := by decide +kernel
theorem dX9_judge_30 : decode cX9_judge 30 = .ok (.invokevirtual 158, 3) := by decide +kernel
theorem dX9_judge_33 : decode cX9_judge 33 = .ok (.aload_n 0, 1) := by decide +kernel
theorem dX9_judge_34 : decode cX9_judge 34 = .ok (.iload_n 1, 1) := by decide +kernel
theorem dX9_judge_35 : decode cX9_judge 35 = .ok (.iload_n 2, 1) := by decide +kernel
theorem dX9_judge_36 : decode cX9_judge 36 = .ok (.iconst 1, 1) := by decide +kernel
theorem dX9_judge_37 : decode cX9_judge 37 = .ok (.invokevirtual 185, 3) := by decide +kernel
theorem dX9_judge_40 : decode cX9_judge 40 = .ok (.aload_n 0, 1) := by decide +kernel
theorem dX9_judge_41 : decode cX9_judge 41 = .ok (.invokevirtual 163, 3) := by decide +kernel
theorem dX9_judge_44 : decode cX9_judge 44 = .ok (.ifCond .eq 7, 3) := by decide +kernel
theorem dX9_judge_47 : decode cX9_judge 47 = .ok (.iconst 0, 1) := by decide +kernel
theorem dX9_judge_48 : decode cX9_judge 48 = .ok (.goto 4, 3) := by decide +kernel
theorem dX9_judge_51 : decode cX9_judge 51 = .ok (.iconst 2, 1) := by decide +kernel
theorem dX9_judge_52 : decode cX9_judge 52 = .ok (.ireturn, 1) := by decide +kernel
abbrev rmX9_judge : Room := { frames := 6, cells := 0, slots := 0, locals := 136 }
theorem ywX9_judge : fY yX9_judge "EqualCourtModel" cX9_judge 3 (some .int) 2 := ⟨tw_1126, tw_1127, tw_11, tw_1128, by decide +kernel⟩
set_option maxHeartbeats 4000000 in
set_option maxRecDepth 100000 in
theorem cX9_judge_ok {D : va_G} {ad : Nat → Nat} {cy cz : ClassId} {l : Launch} {z : fS} {v1 : Int32} {v2 : Int32} {r : Int32} {τ : fS} (h : fX9_judge z v1 v2 = some (r, τ)) : fMi D 31 ad (cfM ad cy cz) cy cz l yX9_judge cX9_judge 3 (some .int) rmX9_judge [.ref (ad 0), .int v1, .int v2] z r τ := by
  refine f_bodyi (by decide) (Nat.le_of_ble_eq_true rfl) (fun p e s m args below meth c Q hC hret ls hl hI => ?_)
  have hx := hC.1
  have hb := hC.2.1
  have hl : lv_has ls 3 [(0, .ref (ad 0)), (1, .int v1), (2, .int v2)] := hl
  unfold fX9_judge at h
  refine lv_aload_n hx hb dX9_judge_0 rfl (lv_at hl 0 rfl) ?_
  refine lv_iload_n hx hb dX9_judge_1 rfl (lv_at hl 1 rfl) ?_
  replace h := bp_at h
  obtain ⟨r2, e2, h⟩ := h
  refine r_calli (rest := []) hC hI oM_0 (C := "EqualCourtModel") rfl ywX9_isTerm tw_1013 (cX9_isTerm_ok  e2) ⟨Nat.le_of_ble_eq_true rfl, Nat.le_of_ble_eq_true rfl⟩ ⟨rfl, rfl⟩ rfl hl.1 rfl (Nat.le_of_ble_eq_true rfl) dX9_judge_2 (fun H locs hI => ?_)
  refine lv_if_eq (tgt := 16) hx hb dX9_judge_5 (by decide) (fun c5 => ?_) (fun c5 => ?_)
  · replace h := if_t h c5
    refine lv_iconst (v := -1) hx hb dX9_judge_16 (by decide) ?_
    exact hret h dX9_judge_17 hI
  · replace h := if_f h c5
    refine lv_aload_n hx hb dX9_judge_8 rfl (lv_at hl 0 rfl) ?_
    refine lv_iload_n hx hb dX9_judge_9 rfl (lv_at hl 2 rfl) ?_
    replace h := bp_at h
    obtain ⟨r10, e10, h⟩ := h
    refine r_calli (rest := []) hC hI oM_0 (C := "EqualCourtModel") rfl ywX9_isTerm tw_1013 (cX9_isTerm_ok  e10) ⟨Nat.le_of_ble_eq_true rfl, Nat.le_of_ble_eq_true rfl⟩ ⟨rfl, rfl⟩ rfl hl.1 rfl (Nat.le_of_ble_eq_true rfl) dX9_judge_10 (fun H locs hI => ?_)
    refine lv_if_ne (tgt := 18) hx hb dX9_judge_13 (by decide) (fun c13 => ?_) (fun c13 => ?_)
    · replace h := if_f h c13
      refine lv_aload_n hx hb dX9_judge_18 rfl (lv_at hl 0 rfl) ?_
      refine lv_iload_n hx hb dX9_judge_19 rfl (lv_at hl 1 rfl) ?_
      refine lv_iload_n hx hb dX9_judge_20 rfl (lv_at hl 2 rfl) ?_
      replace h := bd_at h
      obtain ⟨r21, z21, e21, h⟩ := h
      refine r_calli (rest := []) hC hI oM_0 (C := "EqualCourtModel") rfl ywX9_areOne tw_1129 (cX9_areOne_ok  e21) ⟨Nat.le_of_ble_eq_true rfl, Nat.le_of_ble_eq_true rfl⟩ ⟨rfl, rfl⟩ rfl hl.1 rfl (Nat.le_of_ble_eq_true rfl) dX9_judge_21 (fun H locs hI => ?_)
      refine lv_if_eq (tgt := 29) hx hb dX9_judge_24 (by decide) (fun c24 => ?_) (fun c24 => ?_)
      · replace h := if_t h c24
        refine lv_aload_n hx hb dX9_judge_29 rfl (lv_at hl 0 rfl) ?_
        replace h := bp_at h
        obtain ⟨z30, e30, h⟩ := h
        refine r_callv (rest := []) hC hI oM_0 (C := "EqualCourtModel") rfl ywX9_takeCourt tw_1053 (cX9_takeCourt_ok  e30) ⟨Nat.le_of_ble_eq_true rfl, Nat.le_of_ble_eq_true rfl⟩ ⟨rfl, rfl⟩ rfl hl.1 rfl (Nat.le_of_ble_eq_true rfl) dX9_judge_30 (fun H locs hI => ?_)
        refine lv_aload_n hx hb dX9_judge_33 rfl (lv_at hl 0 rfl) ?_
        refine lv_iload_n hx hb dX9_judge_34 rfl (lv_at hl 1 rfl) ?_
        refine lv_iload_n hx hb dX9_judge_35 rfl (lv_at hl 2 rfl) ?_
        refine lv_iconst (v := 1) hx hb dX9_judge_36 (by decide) ?_
        replace h := bp_at h
        obtain ⟨z37, e37, h⟩ := h
        refine r_callv (rest := []) hC hI oM_0 (C := "EqualCourtModel") rfl ywX9_add tw_1089 (cX9_add_ok  e37) ⟨Nat.le_of_ble_eq_true rfl, Nat.le_of_ble_eq_true rfl⟩ ⟨rfl, rfl⟩ rfl hl.1 rfl (Nat.le_of_ble_eq_true rfl) dX9_judge_37 (fun H locs hI => ?_)
        refine lv_aload_n hx hb dX9_judge_40 rfl (lv_at hl 0 rfl) ?_
        replace h := bd_at h
        obtain ⟨r41, z41, e41, h⟩ := h
        refine r_calli (rest := []) hC hI oM_0 (C := "EqualCourtModel") rfl ywX9_clashes tw_1093 (cX9_clashes_ok  e41) ⟨Nat.le_of_ble_eq_true rfl, Nat.le_of_ble_eq_true rfl⟩ ⟨rfl, rfl⟩ rfl hl.1 rfl (Nat.le_of_ble_eq_true rfl) dX9_judge_41 (fun H locs hI => ?_)
        refine lv_if_eq (tgt := 51) hx hb dX9_judge_44 (by decide) (fun c44 => ?_) (fun c44 => ?_)
        · replace h := if_t h c44
          refine lv_iconst (v := 2) hx hb dX9_judge_51 (by decide) ?_
          exact hret h dX9_judge_52 hI
        · replace h := if_f h c44
          refine lv_iconst (v := 0) hx hb dX9_judge_47 (by decide) ?_
          refine lv_goto (tgt := 52) hx hb dX9_judge_48 (by decide) ?_
          exact hret h dX9_judge_52 hI
      · replace h := if_f h c24
        refine lv_iconst (v := 1) hx hb dX9_judge_27 (by decide) ?_
        exact hret h dX9_judge_28 hI
    · replace h := if_t h c13
      refine lv_iconst (v := -1) hx hb dX9_judge_16 (by decide) ?_
      exact hret h dX9_judge_17 hI
