noncomputable def F_Mo_buildSimple_207 (p1 : Int32) (p2 : Int32) (p3 : Int32) (known_h0 : Int32) (thrown_h0 : Int32) (wrong_h0 : Int32) (lastEnd_h0 : Int32) (at_h0 : Int32) (bad_h0 : Int32) (levels_h0 : Int32) (least_h0 : Int32) (found_h0 : Int32) (size_m6 : Int32) (n_a_all_m6 : Nat) (b_a_all_m6 : Nat → Int32) (size_m24 : Int32) (n_a_all_m24 : Nat) (b_a_all_m24 : Nat → Int32) (size_m25 : Int32) (n_a_all_m25 : Nat) (b_a_all_m25 : Nat → Int32) (size_m26 : Int32) (n_a_all_m26 : Nat) (b_a_all_m26 : Nat → Int32) (size_m27 : Int32) (n_a_all_m27 : Nat) (b_a_all_m27 : Nat → Int32) (size_m28 : Int32) (n_a_all_m28 : Nat) (b_a_all_m28 : Nat → Int32) (size_m29 : Int32) (n_a_all_m29 : Nat) (b_a_all_m29 : Nat → Int32) (size_m30 : Int32) (n_a_all_m30 : Nat) (b_a_all_m30 : Nat → Int32) (size_m31 : Int32) (n_a_all_m31 : Nat) (b_a_all_m31 : Nat → Int32) (size_m33 : Int32) (n_a_all_m33 : Nat) (b_a_all_m33 : Nat → Int32) (v4_207 : Int32) : Option ((Int32 × Int32 × Int32 × Int32 × Int32 × Int32 × Int32 × Int32 × Int32 × Nat × (Nat → Int32) × Nat × (Nat → Int32) × Nat × (Nat → Int32) × Nat × (Nat → Int32) × Nat × (Nat → Int32) × Nat × (Nat → Int32) × Nat × (Nat → Int32) × Nat × (Nat → Int32) × Nat × (Nat → Int32)) × Nat × Nat) :=
    if v4_207 = p3 then (bw (F_Mo_leafNode p1 20 p2 known_h0 thrown_h0 wrong_h0 lastEnd_h0 at_h0 bad_h0 levels_h0 least_h0 found_h0 size_m6 n_a_all_m6 b_a_all_m6 size_m24 n_a_all_m24 b_a_all_m24 size_m25 n_a_all_m25 b_a_all_m25 size_m26 n_a_all_m26 b_a_all_m26 size_m27 n_a_all_m27 b_a_all_m27 size_m28 n_a_all_m28 b_a_all_m28 size_m29 n_a_all_m29 b_a_all_m29 size_m30 n_a_all_m30 b_a_all_m30 size_m31 n_a_all_m31 b_a_all_m31) fun ⟨r52, r53, r54, r55, r56, r57, r58, r59, r60, r61, r62, r63, r64, r65, r66, r67, r68, r69, r70⟩ =>
      bw (F_Mo_task 1 size_m24 p2 p3 1 known_h0 thrown_h0 wrong_h0 lastEnd_h0 at_h0 bad_h0 levels_h0 least_h0 found_h0 size_m33 n_a_all_m33 b_a_all_m33) fun ⟨r84, r85⟩ =>
      (some ((size_m24 + 1, size_m25 + 1, size_m26 + 1, size_m27 + 1, r52, r53, r54, size_m31 + 1, ((((size_m33 + 1) + 1) + 1) + 1) + 1, r55, r56, r57, r58, r59, r60, r61, r62, r63, r64, r65, r66, r67, r68, r69, r70, r84, r85), 0, 0)))
    else (Option.bind (F_Mo_placeOf v4_207 known_h0 thrown_h0 wrong_h0 lastEnd_h0 at_h0 bad_h0 levels_h0 least_h0 found_h0 size_m6 n_a_all_m6 b_a_all_m6) fun _ =>
      Option.bind (F_Mo_placeOf p2 known_h0 thrown_h0 wrong_h0 lastEnd_h0 at_h0 bad_h0 levels_h0 least_h0 found_h0 size_m6 n_a_all_m6 b_a_all_m6) fun _ =>
      bw (F_Mo_newNode p1 21 (b_a_all_m6 (Int32.toNatClampNeg v4_207)) (b_a_all_m6 (Int32.toNatClampNeg p2)) v4_207 known_h0 thrown_h0 wrong_h0 lastEnd_h0 at_h0 bad_h0 levels_h0 least_h0 found_h0 size_m24 n_a_all_m24 b_a_all_m24 size_m25 n_a_all_m25 b_a_all_m25 size_m26 n_a_all_m26 b_a_all_m26 size_m27 n_a_all_m27 b_a_all_m27 size_m28 n_a_all_m28 b_a_all_m28 size_m29 n_a_all_m29 b_a_all_m29 size_m30 n_a_all_m30 b_a_all_m30 size_m31 n_a_all_m31 b_a_all_m31) fun ⟨r4, r5, r6, r7, r8, r9, r10, r11, r12, r13, r14, r15, r16, r17, r18, r19, r20, r21, r22⟩ =>
      bw (F_Mo_task 1 size_m24 p2 v4_207 1 known_h0 thrown_h0 wrong_h0 lastEnd_h0 at_h0 bad_h0 levels_h0 least_h0 found_h0 size_m33 n_a_all_m33 b_a_all_m33) fun ⟨r36, r37⟩ =>
      bw (F_Mo_task 1 size_m24 (v4_207 + 1) p3 1 known_h0 thrown_h0 wrong_h0 lastEnd_h0 at_h0 bad_h0 levels_h0 least_h0 found_h0 (((((size_m33 + 1) + 1) + 1) + 1) + 1) r36 r37) fun ⟨r44, r45⟩ =>
      (some ((size_m24 + 1, size_m25 + 1, size_m26 + 1, size_m27 + 1, r4, r5, r6, size_m31 + 1, (((((((((size_m33 + 1) + 1) + 1) + 1) + 1) + 1) + 1) + 1) + 1) + 1, r7, r8, r9, r10, r11, r12, r13, r14, r15, r16, r17, r18, r19, r20, r21, r22, r44, r45), 0, 0)))
noncomputable def F_Mo_buildSimple_139 (p1 : Int32) (p2 : Int32) (p3 : Int32) (known_h0 : Int32) (thrown_h0 : Int32) (wrong_h0 : Int32) (lastEnd_h0 : Int32) (at_h0 : Int32) (bad_h0 : Int32) (levels_h0 : Int32) (least_h0 : Int32) (found_h0 : Int32) (size_m5 : Int32) (n_a_all_m5 : Nat) (b_a_all_m5 : Nat → Int32) (size_m6 : Int32) (n_a_all_m6 : Nat) (b_a_all_m6 : Nat → Int32) (size_m24 : Int32) (n_a_all_m24 : Nat) (b_a_all_m24 : Nat → Int32) (size_m25 : Int32) (n_a_all_m25 : Nat) (b_a_all_m25 : Nat → Int32) (size_m26 : Int32) (n_a_all_m26 : Nat) (b_a_all_m26 : Nat → Int32) (size_m27 : Int32) (n_a_all_m27 : Nat) (b_a_all_m27 : Nat → Int32) (size_m28 : Int32) (n_a_all_m28 : Nat) (b_a_all_m28 : Nat → Int32) (size_m29 : Int32) (n_a_all_m29 : Nat) (b_a_all_m29 : Nat → Int32) (size_m30 : Int32) (n_a_all_m30 : Nat) (b_a_all_m30 : Nat → Int32) (size_m31 : Int32) (n_a_all_m31 : Nat) (b_a_all_m31 : Nat → Int32) (size_m33 : Int32) (n_a_all_m33 : Nat) (b_a_all_m33 : Nat → Int32) : Nat → Int32 → Option ((Int32 × Int32 × Int32 × Int32 × Int32 × Int32 × Int32 × Int32 × Int32 × Nat × (Nat → Int32) × Nat × (Nat → Int32) × Nat × (Nat → Int32) × Nat × (Nat → Int32) × Nat × (Nat → Int32) × Nat × (Nat → Int32) × Nat × (Nat → Int32) × Nat × (Nat → Int32) × Nat × (Nat → Int32)) × Nat × Nat)
  | 0, _ => none
  | k_139 + 1, v4_139 =>
    if p3 ≤ v4_139 then (F_Mo_buildSimple_207 p1 p2 p3 known_h0 thrown_h0 wrong_h0 lastEnd_h0 at_h0 bad_h0 levels_h0 least_h0 found_h0 size_m6 n_a_all_m6 b_a_all_m6 size_m24 n_a_all_m24 b_a_all_m24 size_m25 n_a_all_m25 b_a_all_m25 size_m26 n_a_all_m26 b_a_all_m26 size_m27 n_a_all_m27 b_a_all_m27 size_m28 n_a_all_m28 b_a_all_m28 size_m29 n_a_all_m29 b_a_all_m29 size_m30 n_a_all_m30 b_a_all_m30 size_m31 n_a_all_m31 b_a_all_m31 size_m33 n_a_all_m33 b_a_all_m33   v4_139)
    else (Option.bind (F_Nm_at v4_139 size_m5 n_a_all_m5 b_a_all_m5) fun _ =>
      if (b_a_all_m5 (Int32.toNatClampNeg v4_139)) = 56 then (F_Mo_buildSimple_207 p1 p2 p3 known_h0 thrown_h0 wrong_h0 lastEnd_h0 at_h0 bad_h0 levels_h0 least_h0 found_h0 size_m6 n_a_all_m6 b_a_all_m6 size_m24 n_a_all_m24 b_a_all_m24 size_m25 n_a_all_m25 b_a_all_m25 size_m26 n_a_all_m26 b_a_all_m26 size_m27 n_a_all_m27 b_a_all_m27 size_m28 n_a_all_m28 b_a_all_m28 size_m29 n_a_all_m29 b_a_all_m29 size_m30 n_a_all_m30 b_a_all_m30 size_m31 n_a_all_m31 b_a_all_m31 size_m33 n_a_all_m33 b_a_all_m33   v4_139)
      else (Option.bind (F_Nm_at v4_139 size_m5 n_a_all_m5 b_a_all_m5) fun _ =>
        if (b_a_all_m5 (Int32.toNatClampNeg v4_139)) = 50 then (Option.bind (F_Mo_closing v4_139 known_h0 thrown_h0 wrong_h0 lastEnd_h0 at_h0 bad_h0 levels_h0 least_h0 found_h0 size_m5 n_a_all_m5 b_a_all_m5) fun r97 =>
          F_Mo_buildSimple_139 p1 p2 p3 known_h0 thrown_h0 wrong_h0 lastEnd_h0 at_h0 bad_h0 levels_h0 least_h0 found_h0 size_m5 n_a_all_m5 b_a_all_m5 size_m6 n_a_all_m6 b_a_all_m6 size_m24 n_a_all_m24 b_a_all_m24 size_m25 n_a_all_m25 b_a_all_m25 size_m26 n_a_all_m26 b_a_all_m26 size_m27 n_a_all_m27 b_a_all_m27 size_m28 n_a_all_m28 b_a_all_m28 size_m29 n_a_all_m29 b_a_all_m29 size_m30 n_a_all_m30 b_a_all_m30 size_m31 n_a_all_m31 b_a_all_m31 size_m33 n_a_all_m33 b_a_all_m33  k_139 (r97 + 1))
        else (Option.bind (F_Nm_at v4_139 size_m5 n_a_all_m5 b_a_all_m5) fun _ =>
          if (b_a_all_m5 (Int32.toNatClampNeg v4_139)) = 52 then (Option.bind (F_Mo_closing v4_139 known_h0 thrown_h0 wrong_h0 lastEnd_h0 at_h0 bad_h0 levels_h0 least_h0 found_h0 size_m5 n_a_all_m5 b_a_all_m5) fun r101 =>
            F_Mo_buildSimple_139 p1 p2 p3 known_h0 thrown_h0 wrong_h0 lastEnd_h0 at_h0 bad_h0 levels_h0 least_h0 found_h0 size_m5 n_a_all_m5 b_a_all_m5 size_m6 n_a_all_m6 b_a_all_m6 size_m24 n_a_all_m24 b_a_all_m24 size_m25 n_a_all_m25 b_a_all_m25 size_m26 n_a_all_m26 b_a_all_m26 size_m27 n_a_all_m27 b_a_all_m27 size_m28 n_a_all_m28 b_a_all_m28 size_m29 n_a_all_m29 b_a_all_m29 size_m30 n_a_all_m30 b_a_all_m30 size_m31 n_a_all_m31 b_a_all_m31 size_m33 n_a_all_m33 b_a_all_m33  k_139 (r101 + 1))
          else (F_Mo_buildSimple_139 p1 p2 p3 known_h0 thrown_h0 wrong_h0 lastEnd_h0 at_h0 bad_h0 levels_h0 least_h0 found_h0 size_m5 n_a_all_m5 b_a_all_m5 size_m6 n_a_all_m6 b_a_all_m6 size_m24 n_a_all_m24 b_a_all_m24 size_m25 n_a_all_m25 b_a_all_m25 size_m26 n_a_all_m26 b_a_all_m26 size_m27 n_a_all_m27 b_a_all_m27 size_m28 n_a_all_m28 b_a_all_m28 size_m29 n_a_all_m29 b_a_all_m29 size_m30 n_a_all_m30 b_a_all_m30 size_m31 n_a_all_m31 b_a_all_m31 size_m33 n_a_all_m33 b_a_all_m33  k_139 (v4_139 + 1)))))
noncomputable def F_Mo_buildSimple (p1 : Int32) (p2 : Int32) (p3 : Int32) (known_h0 : Int32) (thrown_h0 : Int32) (wrong_h0 : Int32) (lastEnd_h0 : Int32) (at_h0 : Int32) (bad_h0 : Int32) (levels_h0 : Int32) (least_h0 : Int32) (found_h0 : Int32) (size_m5 : Int32) (n_a_all_m5 : Nat) (b_a_all_m5 : Nat → Int32) (size_m6 : Int32) (n_a_all_m6 : Nat) (b_a_all_m6 : Nat → Int32) (size_m24 : Int32) (n_a_all_m24 : Nat) (b_a_all_m24 : Nat → Int32) (size_m25 : Int32) (n_a_all_m25 : Nat) (b_a_all_m25 : Nat → Int32) (size_m26 : Int32) (n_a_all_m26 : Nat) (b_a_all_m26 : Nat → Int32) (size_m27 : Int32) (n_a_all_m27 : Nat) (b_a_all_m27 : Nat → Int32) (size_m28 : Int32) (n_a_all_m28 : Nat) (b_a_all_m28 : Nat → Int32) (size_m29 : Int32) (n_a_all_m29 : Nat) (b_a_all_m29 : Nat → Int32) (size_m30 : Int32) (n_a_all_m30 : Nat) (b_a_all_m30 : Nat → Int32) (size_m31 : Int32) (n_a_all_m31 : Nat) (b_a_all_m31 : Nat → Int32) (size_m33 : Int32) (n_a_all_m33 : Nat) (b_a_all_m33 : Nat → Int32) : Option ((Int32 × Int32 × Int32 × Int32 × Int32 × Int32 × Int32 × Int32 × Int32 × Nat × (Nat → Int32) × Nat × (Nat → Int32) × Nat × (Nat → Int32) × Nat × (Nat → Int32) × Nat × (Nat → Int32) × Nat × (Nat → Int32) × Nat × (Nat → Int32) × Nat × (Nat → Int32) × Nat × (Nat → Int32)) × Nat × Nat) :=
  Option.bind (F_Nm_at p2 size_m5 n_a_all_m5 b_a_all_m5) fun _ =>
  if (b_a_all_m5 (Int32.toNatClampNeg p2)) = 52 then (Option.bind (F_Mo_closing p2 known_h0 thrown_h0 wrong_h0 lastEnd_h0 at_h0 bad_h0 levels_h0 least_h0 found_h0 size_m5 n_a_all_m5 b_a_all_m5) fun r105 =>
    Option.bind (F_Nm_at (r105 + 1) size_m5 n_a_all_m5 b_a_all_m5) fun _ =>
    if (b_a_all_m5 (Int32.toNatClampNeg (r105 + 1))) = 56 then (Option.bind (F_Mo_closing p2 known_h0 thrown_h0 wrong_h0 lastEnd_h0 at_h0 bad_h0 levels_h0 least_h0 found_h0 size_m5 n_a_all_m5 b_a_all_m5) fun r109 =>
      Option.bind (F_Mo_placeOf (r109 + 1) known_h0 thrown_h0 wrong_h0 lastEnd_h0 at_h0 bad_h0 levels_h0 least_h0 found_h0 size_m6 n_a_all_m6 b_a_all_m6) fun _ =>
      Option.bind (F_Mo_placeOf p2 known_h0 thrown_h0 wrong_h0 lastEnd_h0 at_h0 bad_h0 levels_h0 least_h0 found_h0 size_m6 n_a_all_m6 b_a_all_m6) fun _ =>
      bw (F_Mo_newNode p1 10 (b_a_all_m6 (Int32.toNatClampNeg (r109 + 1))) (b_a_all_m6 (Int32.toNatClampNeg p2)) (r109 + 1) known_h0 thrown_h0 wrong_h0 lastEnd_h0 at_h0 bad_h0 levels_h0 least_h0 found_h0 size_m24 n_a_all_m24 b_a_all_m24 size_m25 n_a_all_m25 b_a_all_m25 size_m26 n_a_all_m26 b_a_all_m26 size_m27 n_a_all_m27 b_a_all_m27 size_m28 n_a_all_m28 b_a_all_m28 size_m29 n_a_all_m29 b_a_all_m29 size_m30 n_a_all_m30 b_a_all_m30 size_m31 n_a_all_m31 b_a_all_m31) fun ⟨r113, r114, r115, r116, r117, r118, r119, r120, r121, r122, r123, r124, r125, r126, r127, r128, r129, r130, r131⟩ =>
      Option.bind (F_Mo_placeOf p2 known_h0 thrown_h0 wrong_h0 lastEnd_h0 at_h0 bad_h0 levels_h0 least_h0 found_h0 size_m6 n_a_all_m6 b_a_all_m6) fun _ =>
      bw (F_Mo_newNode size_m24 2 (b_a_all_m6 (Int32.toNatClampNeg p2)) (-1) (-1) known_h0 thrown_h0 wrong_h0 lastEnd_h0 at_h0 bad_h0 levels_h0 least_h0 found_h0 (size_m24 + 1) r116 r117 (size_m25 + 1) r118 r119 (size_m26 + 1) r120 r121 (size_m27 + 1) r122 r123 r113 r124 r125 r114 r126 r127 r115 r128 r129 (size_m31 + 1) r130 r131) fun ⟨r146, r147, r148, r149, r150, r151, r152, r153, r154, r155, r156, r157, r158, r159, r160, r161, r162, r163, r164⟩ =>
      bw (F_Mo_nameNodes (size_m24 + 1) (p2 + 1) ((r109 + 1) - 1) known_h0 thrown_h0 wrong_h0 lastEnd_h0 at_h0 bad_h0 levels_h0 least_h0 found_h0 size_m5 n_a_all_m5 b_a_all_m5 size_m6 n_a_all_m6 b_a_all_m6 ((size_m24 + 1) + 1) r149 r150 ((size_m25 + 1) + 1) r151 r152 ((size_m26 + 1) + 1) r153 r154 ((size_m27 + 1) + 1) r155 r156 r146 r157 r158 r147 r159 r160 r148 r161 r162 ((size_m31 + 1) + 1) r163 r164) fun ⟨r178, r179, r180, r181, r182, r183, r184, r185, r186, r187, r188, r189, r190, r191, r192, r193, r194, r195, r196, r197, r198, r199, r200, r201⟩ =>
      Option.bind (F_Mo_placeOf ((r109 + 1) + 1) known_h0 thrown_h0 wrong_h0 lastEnd_h0 at_h0 bad_h0 levels_h0 least_h0 found_h0 size_m6 n_a_all_m6 b_a_all_m6) fun _ =>
      Option.bind (F_Mo_placeOf ((r109 + 1) + 2) known_h0 thrown_h0 wrong_h0 lastEnd_h0 at_h0 bad_h0 levels_h0 least_h0 found_h0 size_m6 n_a_all_m6 b_a_all_m6) fun _ =>
      bw (F_Mo_newNode size_m24 33 (b_a_all_m6 (Int32.toNatClampNeg ((r109 + 1) + 1))) (b_a_all_m6 (Int32.toNatClampNeg ((r109 + 1) + 2))) ((r109 + 1) + 1) known_h0 thrown_h0 wrong_h0 lastEnd_h0 at_h0 bad_h0 levels_h0 least_h0 found_h0 r178 r186 r187 r179 r188 r189 r180 r190 r191 r181 r192 r193 r182 r194 r195 r183 r196 r197 r184 r198 r199 r185 r200 r201) fun ⟨r217, r218, r219, r220, r221, r222, r223, r224, r225, r226, r227, r228, r229, r230, r231, r232, r233, r234, r235⟩ =>
      bw (F_Mo_expressions r178 ((r109 + 1) + 3) (p3 - 1) known_h0 thrown_h0 wrong_h0 lastEnd_h0 at_h0 bad_h0 levels_h0 least_h0 found_h0 size_m33 n_a_all_m33 b_a_all_m33 size_m5 n_a_all_m5 b_a_all_m5) fun ⟨r249, r250, r251⟩ =>
      (some ((r178 + 1, r179 + 1, r180 + 1, r181 + 1, r217, r218, r219, r185 + 1, r249, r220, r221, r222, r223, r224, r225, r226, r227, r228, r229, r230, r231, r232, r233, r234, r235, r250, r251), 0, 0)))
    else (F_Mo_buildSimple_139 p1 p2 p3 known_h0 thrown_h0 wrong_h0 lastEnd_h0 at_h0 bad_h0 levels_h0 least_h0 found_h0 size_m5 n_a_all_m5 b_a_all_m5 size_m6 n_a_all_m6 b_a_all_m6 size_m24 n_a_all_m24 b_a_all_m24 size_m25 n_a_all_m25 b_a_all_m25 size_m26 n_a_all_m26 b_a_all_m26 size_m27 n_a_all_m27 b_a_all_m27 size_m28 n_a_all_m28 b_a_all_m28 size_m29 n_a_all_m29 b_a_all_m29 size_m30 n_a_all_m30 b_a_all_m30 size_m31 n_a_all_m31 b_a_all_m31 size_m33 n_a_all_m33 b_a_all_m33  FU p2))
  else (F_Mo_buildSimple_139 p1 p2 p3 known_h0 thrown_h0 wrong_h0 lastEnd_h0 at_h0 bad_h0 levels_h0 least_h0 found_h0 size_m5 n_a_all_m5 b_a_all_m5 size_m6 n_a_all_m6 b_a_all_m6 size_m24 n_a_all_m24 b_a_all_m24 size_m25 n_a_all_m25 b_a_all_m25 size_m26 n_a_all_m26 b_a_all_m26 size_m27 n_a_all_m27 b_a_all_m27 size_m28 n_a_all_m28 b_a_all_m28 size_m29 n_a_all_m29 b_a_all_m29 size_m30 n_a_all_m30 b_a_all_m30 size_m31 n_a_all_m31 b_a_all_m31 size_m33 n_a_all_m33 b_a_all_m33  FU p2)
theorem d_Mo_buildSimple_0 : decode prog_12_method_65_code 0 = .ok (.aload_n 0, 1) := by decide +kernel
theorem d_Mo_buildSimple_1 : decode prog_12_method_65_code 1 = .ok (.getfield 114, 3) := by decide +kernel
theorem d_Mo_buildSimple_4 : decode prog_12_method_65_code 4 = .ok (.iload_n 2, 1) := by decide +kernel
theorem d_Mo_buildSimple_5 : decode prog_12_method_65_code 5 = .ok (.invokevirtual 214, 3) := by decide +kernel
theorem d_Mo_buildSimple_8 : decode prog_12_method_65_code 8 = .ok (.bipush 52, 2) := by decide +kernel
theorem d_Mo_buildSimple_10 : decode prog_12_method_65_code 10 = .ok (.if_icmp .ne 126, 3) := by decide +kernel
theorem d_Mo_buildSimple_13 : decode prog_12_method_65_code 13 = .ok (.aload_n 0, 1) := by decide +kernel
theorem d_Mo_buildSimple_14 : decode prog_12_method_65_code 14 = .ok (.getfield 114, 3) := by decide +kernel
theorem d_Mo_buildSimple_17 : decode prog_12_method_65_code 17 = .ok (.aload_n 0, 1) := by decide +kernel
theorem d_Mo_buildSimple_18 : decode prog_12_method_65_code 18 = .ok (.iload_n 2, 1) := by decide +kernel
theorem d_Mo_buildSimple_19 : decode prog_12_method_65_code 19 = .ok (.invokevirtual 350, 3) := by decide +kernel
theorem d_Mo_buildSimple_22 : decode prog_12_method_65_code 22 = .ok (.iconst 1, 1) := by decide +kernel
theorem d_Mo_buildSimple_23 : decode prog_12_method_65_code 23 = .ok (.iadd, 1) := by decide +kernel
theorem d_Mo_buildSimple_24 : decode prog_12_method_65_code 24 = .ok (.invokevirtual 214, 3) := by decide +kernel
theorem d_Mo_buildSimple_27 : decode prog_12_method_65_code 27 = .ok (.bipush 56, 2) := by decide +kernel
theorem d_Mo_buildSimple_29 : decode prog_12_method_65_code 29 = .ok (.if_icmp .ne 107, 3) := by decide +kernel
theorem d_Mo_buildSimple_32 : decode prog_12_method_65_code 32 = .ok (.aload_n 0, 1) := by decide +kernel
theorem d_Mo_buildSimple_33 : decode prog_12_method_65_code 33 = .ok (.iload_n 2, 1) := by decide +kernel
theorem d_Mo_buildSimple_34 : decode prog_12_method_65_code 34 = .ok (.invokevirtual 350, 3) := by decide +kernel
theorem d_Mo_buildSimple_37 : decode prog_12_method_65_code 37 = .ok (.iconst 1, 1) := by decide +kernel
theorem d_Mo_buildSimple_38 : decode prog_12_method_65_code 38 = .ok (.iadd, 1) := by decide +kernel
theorem d_Mo_buildSimple_39 : decode prog_12_method_65_code 39 = .ok (.istore 4, 2) := by decide +kernel
theorem d_Mo_buildSimple_41 : decode prog_12_method_65_code 41 = .ok (.aload_n 0, 1) := by decide +kernel
theorem d_Mo_buildSimple_42 : decode prog_12_method_65_code 42 = .ok (.iload_n 1, 1) := by decide +kernel
theorem d_Mo_buildSimple_43 : decode prog_12_method_65_code 43 = .ok (.bipush 10, 2) := by decide +kernel
theorem d_Mo_buildSimple_45 : decode prog_12_method_65_code 45 = .ok (.aload_n 0, 1) := by decide +kernel
theorem d_Mo_buildSimple_46 : decode prog_12_method_65_code 46 = .ok (.iload 4, 2) := by decide +kernel
theorem d_Mo_buildSimple_48 : decode prog_12_method_65_code 48 = .ok (.invokevirtual 411, 3) := by decide +kernel
theorem d_Mo_buildSimple_51 : decode prog_12_method_65_code 51 = .ok (.aload_n 0, 1) := by decide +kernel
theorem d_Mo_buildSimple_52 : decode prog_12_method_65_code 52 = .ok (.iload_n 2, 1) := by decide +kernel
theorem d_Mo_buildSimple_53 : decode prog_12_method_65_code 53 = .ok (.invokevirtual 411, 3) := by decide +kernel
theorem d_Mo_buildSimple_56 : decode prog_12_method_65_code 56 = .ok (.iload 4, 2) := by decide +kernel
theorem d_Mo_buildSimple_58 : decode prog_12_method_65_code 58 = .ok (.invokevirtual 386, 3) := by decide +kernel
theorem d_Mo_buildSimple_61 : decode prog_12_method_65_code 61 = .ok (.istore 5, 2) := by decide +kernel
theorem d_Mo_buildSimple_63 : decode prog_12_method_65_code 63 = .ok (.aload_n 0, 1) := by decide +kernel
theorem d_Mo_buildSimple_64 : decode prog_12_method_65_code 64 = .ok (.iload 5, 2) := by decide +kernel
theorem d_Mo_buildSimple_66 : decode prog_12_method_65_code 66 = .ok (.iconst 2, 1) := by decide +kernel
theorem d_Mo_buildSimple_67 : decode prog_12_method_65_code 67 = .ok (.aload_n 0, 1) := by decide +kernel
theorem d_Mo_buildSimple_68 : decode prog_12_method_65_code 68 = .ok (.iload_n 2, 1) := by decide +kernel
theorem d_Mo_buildSimple_69 : decode prog_12_method_65_code 69 = .ok (.invokevirtual 411, 3) := by decide +kernel
theorem d_Mo_buildSimple_72 : decode prog_12_method_65_code 72 = .ok (.iconst (-1), 1) := by decide +kernel
theorem d_Mo_buildSimple_73 : decode prog_12_method_65_code 73 = .ok (.iconst (-1), 1) := by decide +kernel
theorem d_Mo_buildSimple_74 : decode prog_12_method_65_code 74 = .ok (.invokevirtual 386, 3) := by decide +kernel
theorem d_Mo_buildSimple_77 : decode prog_12_method_65_code 77 = .ok (.istore 6, 2) := by decide +kernel
theorem d_Mo_buildSimple_79 : decode prog_12_method_65_code 79 = .ok (.aload_n 0, 1) := by decide +kernel
theorem d_Mo_buildSimple_80 : decode prog_12_method_65_code 80 = .ok (.iload 6, 2) := by decide +kernel
theorem d_Mo_buildSimple_82 : decode prog_12_method_65_code 82 = .ok (.iload_n 2, 1) := by decide +kernel
theorem d_Mo_buildSimple_83 : decode prog_12_method_65_code 83 = .ok (.iconst 1, 1) := by decide +kernel
theorem d_Mo_buildSimple_84 : decode prog_12_method_65_code 84 = .ok (.iadd, 1) := by decide +kernel
theorem d_Mo_buildSimple_85 : decode prog_12_method_65_code 85 = .ok (.iload 4, 2) := by decide +kernel
theorem d_Mo_buildSimple_87 : decode prog_12_method_65_code 87 = .ok (.iconst 1, 1) := by decide +kernel
theorem d_Mo_buildSimple_88 : decode prog_12_method_65_code 88 = .ok (.isub, 1) := by decide +kernel
theorem d_Mo_buildSimple_89 : decode prog_12_method_65_code 89 = .ok (.invokevirtual 445, 3) := by decide +kernel
theorem d_Mo_buildSimple_92 : decode prog_12_method_65_code 92 = .ok (.aload_n 0, 1) := by decide +kernel
theorem d_Mo_buildSimple_93 : decode prog_12_method_65_code 93 = .ok (.iload 5, 2) := by decide +kernel
theorem d_Mo_buildSimple_95 : decode prog_12_method_65_code 95 = .ok (.bipush 33, 2) := by decide +kernel
theorem d_Mo_buildSimple_97 : decode prog_12_method_65_code 97 = .ok (.aload_n 0, 1) := by decide +kernel
theorem d_Mo_buildSimple_98 : decode prog_12_method_65_code 98 = .ok (.iload 4, 2) := by decide +kernel
theorem d_Mo_buildSimple_100 : decode prog_12_method_65_code 100 = .ok (.iconst 1, 1) := by decide +kernel
theorem d_Mo_buildSimple_101 : decode prog_12_method_65_code 101 = .ok (.iadd, 1) := by decide +kernel
theorem d_Mo_buildSimple_102 : decode prog_12_method_65_code 102 = .ok (.invokevirtual 411, 3) := by decide +kernel
theorem d_Mo_buildSimple_105 : decode prog_12_method_65_code 105 = .ok (.aload_n 0, 1) := by decide +kernel
theorem d_Mo_buildSimple_106 : decode prog_12_method_65_code 106 = .ok (.iload 4, 2) := by decide +kernel
theorem d_Mo_buildSimple_108 : decode prog_12_method_65_code 108 = .ok (.iconst 2, 1) := by decide +kernel
theorem d_Mo_buildSimple_109 : decode prog_12_method_65_code 109 = .ok (.iadd, 1) := by decide +kernel
theorem d_Mo_buildSimple_110 : decode prog_12_method_65_code 110 = .ok (.invokevirtual 411, 3) := by decide +kernel
theorem d_Mo_buildSimple_113 : decode prog_12_method_65_code 113 = .ok (.iload 4, 2) := by decide +kernel
theorem d_Mo_buildSimple_115 : decode prog_12_method_65_code 115 = .ok (.iconst 1, 1) := by decide +kernel
theorem d_Mo_buildSimple_116 : decode prog_12_method_65_code 116 = .ok (.iadd, 1) := by decide +kernel
theorem d_Mo_buildSimple_117 : decode prog_12_method_65_code 117 = .ok (.invokevirtual 386, 3) := by decide +kernel
theorem d_Mo_buildSimple_120 : decode prog_12_method_65_code 120 = .ok (.istore 7, 2) := by decide +kernel
theorem d_Mo_buildSimple_122 : decode prog_12_method_65_code 122 = .ok (.aload_n 0, 1) := by decide +kernel
theorem d_Mo_buildSimple_123 : decode prog_12_method_65_code 123 = .ok (.iload 7, 2) := by decide +kernel
theorem d_Mo_buildSimple_125 : decode prog_12_method_65_code 125 = .ok (.iload 4, 2) := by decide +kernel
theorem d_Mo_buildSimple_127 : decode prog_12_method_65_code 127 = .ok (.iconst 3, 1) := by decide +kernel
theorem d_Mo_buildSimple_128 : decode prog_12_method_65_code 128 = .ok (.iadd, 1) := by decide +kernel
theorem d_Mo_buildSimple_129 : decode prog_12_method_65_code 129 = .ok (.iload_n 3, 1) := by decide +kernel
theorem d_Mo_buildSimple_130 : decode prog_12_method_65_code 130 = .ok (.iconst 1, 1) := by decide +kernel
theorem d_Mo_buildSimple_131 : decode prog_12_method_65_code 131 = .ok (.isub, 1) := by decide +kernel
theorem d_Mo_buildSimple_132 : decode prog_12_method_65_code 132 = .ok (.invokevirtual 439, 3) := by decide +kernel
theorem d_Mo_buildSimple_135 : decode prog_12_method_65_code 135 = .ok (.return_, 1) := by decide +kernel
theorem d_Mo_buildSimple_136 : decode prog_12_method_65_code 136 = .ok (.iload_n 2, 1) := by decide +kernel
theorem d_Mo_buildSimple_137 : decode prog_12_method_65_code 137 = .ok (.istore 4, 2) := by decide +kernel
theorem d_Mo_buildSimple_139 : decode prog_12_method_65_code 139 = .ok (.iload 4, 2) := by decide +kernel
theorem d_Mo_buildSimple_141 : decode prog_12_method_65_code 141 = .ok (.iload_n 3, 1) := by decide +kernel
theorem d_Mo_buildSimple_142 : decode prog_12_method_65_code 142 = .ok (.if_icmp .ge 65, 3) := by decide +kernel
theorem d_Mo_buildSimple_145 : decode prog_12_method_65_code 145 = .ok (.aload_n 0, 1) := by decide +kernel
theorem d_Mo_buildSimple_146 : decode prog_12_method_65_code 146 = .ok (.getfield 114, 3) := by decide +kernel
theorem d_Mo_buildSimple_149 : decode prog_12_method_65_code 149 = .ok (.iload 4, 2) := by decide +kernel
theorem d_Mo_buildSimple_151 : decode prog_12_method_65_code 151 = .ok (.invokevirtual 214, 3) := by decide +kernel
theorem d_Mo_buildSimple_154 : decode prog_12_method_65_code 154 = .ok (.bipush 56, 2) := by decide +kernel
theorem d_Mo_buildSimple_156 : decode prog_12_method_65_code 156 = .ok (.if_icmp .eq 51, 3) := by decide +kernel
theorem d_Mo_buildSimple_159 : decode prog_12_method_65_code 159 = .ok (.aload_n 0, 1) := by decide +kernel
theorem d_Mo_buildSimple_160 : decode prog_12_method_65_code 160 = .ok (.getfield 114, 3) := by decide +kernel
theorem d_Mo_buildSimple_163 : decode prog_12_method_65_code 163 = .ok (.iload 4, 2) := by decide +kernel
theorem d_Mo_buildSimple_165 : decode prog_12_method_65_code 165 = .ok (.invokevirtual 214, 3) := by decide +kernel
theorem d_Mo_buildSimple_168 : decode prog_12_method_65_code 168 = .ok (.bipush 50, 2) := by decide +kernel
theorem d_Mo_buildSimple_170 : decode prog_12_method_65_code 170 = .ok (.if_icmp .eq 17, 3) := by decide +kernel
theorem d_Mo_buildSimple_173 : decode prog_12_method_65_code 173 = .ok (.aload_n 0, 1) := by decide +kernel
theorem d_Mo_buildSimple_174 : decode prog_12_method_65_code 174 = .ok (.getfield 114, 3) := by decide +kernel
theorem d_Mo_buildSimple_177 : decode prog_12_method_65_code 177 = .ok (.iload 4, 2) := by decide +kernel
theorem d_Mo_buildSimple_179 : decode prog_12_method_65_code 179 = .ok (.invokevirtual 214, 3) := by decide +kernel
theorem d_Mo_buildSimple_182 : decode prog_12_method_65_code 182 = .ok (.bipush 52, 2) := by decide +kernel
theorem d_Mo_buildSimple_184 : decode prog_12_method_65_code 184 = .ok (.if_icmp .ne 14, 3) := by decide +kernel
theorem d_Mo_buildSimple_187 : decode prog_12_method_65_code 187 = .ok (.aload_n 0, 1) := by decide +kernel
theorem d_Mo_buildSimple_188 : decode prog_12_method_65_code 188 = .ok (.iload 4, 2) := by decide +kernel
theorem d_Mo_buildSimple_190 : decode prog_12_method_65_code 190 = .ok (.invokevirtual 350, 3) := by decide +kernel
theorem d_Mo_buildSimple_193 : decode prog_12_method_65_code 193 = .ok (.iconst 1, 1) := by decide +kernel
theorem d_Mo_buildSimple_194 : decode prog_12_method_65_code 194 = .ok (.iadd, 1) := by decide +kernel
theorem d_Mo_buildSimple_195 : decode prog_12_method_65_code 195 = .ok (.goto 7, 3) := by decide +kernel
theorem d_Mo_buildSimple_198 : decode prog_12_method_65_code 198 = .ok (.iload 4, 2) := by decide +kernel
theorem d_Mo_buildSimple_200 : decode prog_12_method_65_code 200 = .ok (.iconst 1, 1) := by decide +kernel
theorem d_Mo_buildSimple_201 : decode prog_12_method_65_code 201 = .ok (.iadd, 1) := by decide +kernel
theorem d_Mo_buildSimple_202 : decode prog_12_method_65_code 202 = .ok (.istore 4, 2) := by decide +kernel
theorem d_Mo_buildSimple_204 : decode prog_12_method_65_code 204 = .ok (.goto (-65), 3) := by decide +kernel
theorem d_Mo_buildSimple_207 : decode prog_12_method_65_code 207 = .ok (.iload 4, 2) := by decide +kernel
theorem d_Mo_buildSimple_209 : decode prog_12_method_65_code 209 = .ok (.iload_n 3, 1) := by decide +kernel
theorem d_Mo_buildSimple_210 : decode prog_12_method_65_code 210 = .ok (.if_icmp .ne 24, 3) := by decide +kernel
theorem d_Mo_buildSimple_213 : decode prog_12_method_65_code 213 = .ok (.aload_n 0, 1) := by decide +kernel
theorem d_Mo_buildSimple_214 : decode prog_12_method_65_code 214 = .ok (.iload_n 1, 1) := by decide +kernel
theorem d_Mo_buildSimple_215 : decode prog_12_method_65_code 215 = .ok (.bipush 20, 2) := by decide +kernel
theorem d_Mo_buildSimple_217 : decode prog_12_method_65_code 217 = .ok (.iload_n 2, 1) := by decide +kernel
theorem d_Mo_buildSimple_218 : decode prog_12_method_65_code 218 = .ok (.invokevirtual 426, 3) := by decide +kernel
theorem d_Mo_buildSimple_221 : decode prog_12_method_65_code 221 = .ok (.istore 5, 2) := by decide +kernel
theorem d_Mo_buildSimple_223 : decode prog_12_method_65_code 223 = .ok (.aload_n 0, 1) := by decide +kernel
theorem d_Mo_buildSimple_224 : decode prog_12_method_65_code 224 = .ok (.iconst 1, 1) := by decide +kernel
theorem d_Mo_buildSimple_225 : decode prog_12_method_65_code 225 = .ok (.iload 5, 2) := by decide +kernel
theorem d_Mo_buildSimple_227 : decode prog_12_method_65_code 227 = .ok (.iload_n 2, 1) := by decide +kernel
theorem d_Mo_buildSimple_228 : decode prog_12_method_65_code 228 = .ok (.iload_n 3, 1) := by decide +kernel
theorem d_Mo_buildSimple_229 : decode prog_12_method_65_code 229 = .ok (.iconst 1, 1) := by decide +kernel
theorem d_Mo_buildSimple_230 : decode prog_12_method_65_code 230 = .ok (.invokevirtual 390, 3) := by decide +kernel
theorem d_Mo_buildSimple_233 : decode prog_12_method_65_code 233 = .ok (.return_, 1) := by decide +kernel
theorem d_Mo_buildSimple_234 : decode prog_12_method_65_code 234 = .ok (.aload_n 0, 1) := by decide +kernel
theorem d_Mo_buildSimple_235 : decode prog_12_method_65_code 235 = .ok (.iload_n 1, 1) := by decide +kernel
theorem d_Mo_buildSimple_236 : decode prog_12_method_65_code 236 = .ok (.bipush 21, 2) := by decide +kernel
theorem d_Mo_buildSimple_238 : decode prog_12_method_65_code 238 = .ok (.aload_n 0, 1) := by decide +kernel
theorem d_Mo_buildSimple_239 : decode prog_12_method_65_code 239 = .ok (.iload 4, 2) := by decide +kernel
theorem d_Mo_buildSimple_241 : decode prog_12_method_65_code 241 = .ok (.invokevirtual 411, 3) := by decide +kernel
theorem d_Mo_buildSimple_244 : decode prog_12_method_65_code 244 = .ok (.aload_n 0, 1) := by decide +kernel
theorem d_Mo_buildSimple_245 : decode prog_12_method_65_code 245 = .ok (.iload_n 2, 1) := by decide +kernel
theorem d_Mo_buildSimple_246 : decode prog_12_method_65_code 246 = .ok (.invokevirtual 411, 3) := by decide +kernel
theorem d_Mo_buildSimple_249 : decode prog_12_method_65_code 249 = .ok (.iload 4, 2) := by decide +kernel
theorem d_Mo_buildSimple_251 : decode prog_12_method_65_code 251 = .ok (.invokevirtual 386, 3) := by decide +kernel
theorem d_Mo_buildSimple_254 : decode prog_12_method_65_code 254 = .ok (.istore 5, 2) := by decide +kernel
theorem d_Mo_buildSimple_256 : decode prog_12_method_65_code 256 = .ok (.aload_n 0, 1) := by decide +kernel
theorem d_Mo_buildSimple_257 : decode prog_12_method_65_code 257 = .ok (.iconst 1, 1) := by decide +kernel
theorem d_Mo_buildSimple_258 : decode prog_12_method_65_code 258 = .ok (.iload 5, 2) := by decide +kernel
theorem d_Mo_buildSimple_260 : decode prog_12_method_65_code 260 = .ok (.iload_n 2, 1) := by decide +kernel
theorem d_Mo_buildSimple_261 : decode prog_12_method_65_code 261 = .ok (.iload 4, 2) := by decide +kernel
theorem d_Mo_buildSimple_263 : decode prog_12_method_65_code 263 = .ok (.iconst 1, 1) := by decide +kernel
theorem d_Mo_buildSimple_264 : decode prog_12_method_65_code 264 = .ok (.invokevirtual 390, 3) := by decide +kernel
theorem d_Mo_buildSimple_267 : decode prog_12_method_65_code 267 = .ok (.aload_n 0, 1) := by decide +kernel
theorem d_Mo_buildSimple_268 : decode prog_12_method_65_code 268 = .ok (.iconst 1, 1) := by decide +kernel
theorem d_Mo_buildSimple_269 : decode prog_12_method_65_code 269 = .ok (.iload 5, 2) := by decide +kernel
theorem d_Mo_buildSimple_271 : decode prog_12_method_65_code 271 = .ok (.iload 4, 2) := by decide +kernel
theorem d_Mo_buildSimple_273 : decode prog_12_method_65_code 273 = .ok (.iconst 1, 1) := by decide +kernel
theorem d_Mo_buildSimple_274 : decode prog_12_method_65_code 274 = .ok (.iadd, 1) := by decide +kernel
theorem d_Mo_buildSimple_275 : decode prog_12_method_65_code 275 = .ok (.iload_n 3, 1) := by decide +kernel
theorem d_Mo_buildSimple_276 : decode prog_12_method_65_code 276 = .ok (.iconst 1, 1) := by decide +kernel
theorem d_Mo_buildSimple_277 : decode prog_12_method_65_code 277 = .ok (.invokevirtual 390, 3) := by decide +kernel
theorem d_Mo_buildSimple_280 : decode prog_12_method_65_code 280 = .ok (.return_, 1) := by decide +kernel
set_option maxHeartbeats 4000000 in
set_option maxRecDepth 100000 in
theorem L_Mo_buildSimple_207 (l : Launch) (D : va_G) (cI cB cJ cS : ClassId) (h0 : Nat) (am : Nat → Nat) (a_all_m5 : Nat) (a_all_m6 : Nat) (a_all_m24 : Nat) (a_all_m25 : Nat) (a_all_m26 : Nat) (a_all_m27 : Nat) (a_all_m28 : Nat) (a_all_m29 : Nat) (a_all_m30 : Nat) (a_all_m31 : Nat) (a_all_m33 : Nat) (p1 : Int32) (p2 : Int32) (p3 : Int32) (known_h0 : Int32) (thrown_h0 : Int32) (wrong_h0 : Int32) (lastEnd_h0 : Int32) (at_h0 : Int32) (bad_h0 : Int32) (levels_h0 : Int32) (least_h0 : Int32) (found_h0 : Int32) (size_m5 : Int32) (n_a_all_m5 : Nat) (b_a_all_m5 : Nat → Int32) (size_m6 : Int32) (n_a_all_m6 : Nat) (b_a_all_m6 : Nat → Int32) (size_m24 : Int32) (n_a_all_m24 : Nat) (b_a_all_m24 : Nat → Int32) (size_m25 : Int32) (n_a_all_m25 : Nat) (b_a_all_m25 : Nat → Int32) (size_m26 : Int32) (n_a_all_m26 : Nat) (b_a_all_m26 : Nat → Int32) (size_m27 : Int32) (n_a_all_m27 : Nat) (b_a_all_m27 : Nat → Int32) (size_m28 : Int32) (n_a_all_m28 : Nat) (b_a_all_m28 : Nat → Int32) (size_m29 : Int32) (n_a_all_m29 : Nat) (b_a_all_m29 : Nat → Int32) (size_m30 : Int32) (n_a_all_m30 : Nat) (b_a_all_m30 : Nat → Int32) (size_m31 : Int32) (n_a_all_m31 : Nat) (b_a_all_m31 : Nat → Int32) (size_m33 : Int32) (n_a_all_m33 : Nat) (b_a_all_m33 : Nat → Int32) (o_5_1 : Int32) (o_7_1 : Int32) (o_9_1 : Int32) (o_11_1 : Int32) (o_13_1 : Int32) (o_15_1 : Int32) (o_17_1 : Int32) (o_19_1 : Int32) (o_21_1 : Int32) (on_nq_5_0 : Nat) (ob_nq_5_0 : Nat → Int32) (on_nq_7_0 : Nat) (ob_nq_7_0 : Nat → Int32) (on_nq_9_0 : Nat) (ob_nq_9_0 : Nat → Int32) (on_nq_11_0 : Nat) (ob_nq_11_0 : Nat → Int32) (on_nq_13_0 : Nat) (ob_nq_13_0 : Nat → Int32) (on_nq_15_0 : Nat) (ob_nq_15_0 : Nat → Int32) (on_nq_17_0 : Nat) (ob_nq_17_0 : Nat → Int32) (on_nq_19_0 : Nat) (ob_nq_19_0 : Nat → Int32) (on_nq_21_0 : Nat) (ob_nq_21_0 : Nat → Int32) (mc ms : Nat) (p : Program) (e : Env) (s : State) (m : MethodId) (below : List Frame) (meth : Method) (c : Code) (hr : meth.sig.returnType = (Option.none : Option Jvm.ClassFile.FieldType)) (hnm : meth.name = y_Mo_buildSimple.name) : ∀ (v4_207 : Int32) (cl_207 sl_207 C_207 S_207 : Nat), F_Mo_buildSimple_207 p1 p2 p3 known_h0 thrown_h0 wrong_h0 lastEnd_h0 at_h0 bad_h0 levels_h0 least_h0 found_h0 size_m6 n_a_all_m6 b_a_all_m6 size_m24 n_a_all_m24 b_a_all_m24 size_m25 n_a_all_m25 b_a_all_m25 size_m26 n_a_all_m26 b_a_all_m26 size_m27 n_a_all_m27 b_a_all_m27 size_m28 n_a_all_m28 b_a_all_m28 size_m29 n_a_all_m29 b_a_all_m29 size_m30 n_a_all_m30 b_a_all_m30 size_m31 n_a_all_m31 b_a_all_m31 size_m33 n_a_all_m33 b_a_all_m33   v4_207 = some ((o_5_1, o_7_1, o_9_1, o_11_1, o_13_1, o_15_1, o_17_1, o_19_1, o_21_1, on_nq_5_0, ob_nq_5_0, on_nq_7_0, ob_nq_7_0, on_nq_9_0, ob_nq_9_0, on_nq_11_0, ob_nq_11_0, on_nq_13_0, ob_nq_13_0, on_nq_15_0, ob_nq_15_0, on_nq_17_0, ob_nq_17_0, on_nq_19_0, ob_nq_19_0, on_nq_21_0, ob_nq_21_0), C_207, S_207) → cl_207 + C_207 ≤ mc → sl_207 + S_207 ≤ ms → J (KxOf p l e { frames := 4, cells := mc, slots := ms, locals := 97 } s m [.ref h0, .int p1, .int p2, .int p3].toArray below meth c D (gT cI cB cJ cS) [(h0, .inr (9, moF am known_h0 thrown_h0 wrong_h0 lastEnd_h0 at_h0 bad_h0 levels_h0 least_h0 found_h0)), ((am 5), .inr (8, [.ref a_all_m5, .int size_m5])), (a_all_m5, .inl (cI, n_a_all_m5, .inl b_a_all_m5)), ((am 6), .inr (8, [.ref a_all_m6, .int size_m6])), (a_all_m6, .inl (cI, n_a_all_m6, .inl b_a_all_m6)), ((am 24), .inr (8, [.ref a_all_m24, .int size_m24])), (a_all_m24, .inl (cI, n_a_all_m24, .inl b_a_all_m24)), ((am 25), .inr (8, [.ref a_all_m25, .int size_m25])), (a_all_m25, .inl (cI, n_a_all_m25, .inl b_a_all_m25)), ((am 26), .inr (8, [.ref a_all_m26, .int size_m26])), (a_all_m26, .inl (cI, n_a_all_m26, .inl b_a_all_m26)), ((am 27), .inr (8, [.ref a_all_m27, .int size_m27])), (a_all_m27, .inl (cI, n_a_all_m27, .inl b_a_all_m27)), ((am 28), .inr (8, [.ref a_all_m28, .int size_m28])), (a_all_m28, .inl (cI, n_a_all_m28, .inl b_a_all_m28)), ((am 29), .inr (8, [.ref a_all_m29, .int size_m29])), (a_all_m29, .inl (cI, n_a_all_m29, .inl b_a_all_m29)), ((am 30), .inr (8, [.ref a_all_m30, .int size_m30])), (a_all_m30, .inl (cI, n_a_all_m30, .inl b_a_all_m30)), ((am 31), .inr (8, [.ref a_all_m31, .int size_m31])), (a_all_m31, .inl (cI, n_a_all_m31, .inl b_a_all_m31)), ((am 33), .inr (8, [.ref a_all_m33, .int size_m33])), (a_all_m33, .inl (cI, n_a_all_m33, .inl b_a_all_m33))] (fun v w => ∃ nq_5_0 : Nat, ∃ nq_7_0 : Nat, ∃ nq_9_0 : Nat, ∃ nq_11_0 : Nat, ∃ nq_13_0 : Nat, ∃ nq_15_0 : Nat, ∃ nq_17_0 : Nat, ∃ nq_19_0 : Nat, ∃ nq_21_0 : Nat, v = none ∧ w = [(h0, .inr (9, moF am known_h0 thrown_h0 wrong_h0 lastEnd_h0 at_h0 bad_h0 levels_h0 least_h0 found_h0)), ((am 5), .inr (8, [.ref a_all_m5, .int size_m5])), (a_all_m5, .inl (cI, n_a_all_m5, .inl b_a_all_m5)), ((am 6), .inr (8, [.ref a_all_m6, .int size_m6])), (a_all_m6, .inl (cI, n_a_all_m6, .inl b_a_all_m6)), ((am 24), .inr (8, [.ref nq_5_0, .int o_5_1])), ((am 25), .inr (8, [.ref nq_7_0, .int o_7_1])), ((am 26), .inr (8, [.ref nq_9_0, .int o_9_1])), ((am 27), .inr (8, [.ref nq_11_0, .int o_11_1])), ((am 28), .inr (8, [.ref nq_13_0, .int o_13_1])), ((am 29), .inr (8, [.ref nq_15_0, .int o_15_1])), ((am 30), .inr (8, [.ref nq_17_0, .int o_17_1])), ((am 31), .inr (8, [.ref nq_19_0, .int o_19_1])), ((am 33), .inr (8, [.ref nq_21_0, .int o_21_1])), (nq_5_0, .inl (cI, on_nq_5_0, .inl ob_nq_5_0)), (nq_7_0, .inl (cI, on_nq_7_0, .inl ob_nq_7_0)), (nq_9_0, .inl (cI, on_nq_9_0, .inl ob_nq_9_0)), (nq_11_0, .inl (cI, on_nq_11_0, .inl ob_nq_11_0)), (nq_13_0, .inl (cI, on_nq_13_0, .inl ob_nq_13_0)), (nq_15_0, .inl (cI, on_nq_15_0, .inl ob_nq_15_0)), (nq_17_0, .inl (cI, on_nq_17_0, .inl ob_nq_17_0)), (nq_19_0, .inl (cI, on_nq_19_0, .inl ob_nq_19_0)), (nq_21_0, .inl (cI, on_nq_21_0, .inl ob_nq_21_0))]) mc ms) prog_12_method_65_code 8 R_Mo 207 [(4, .int v4_207), (0, .ref h0), (1, .int p1), (2, .int p2), (3, .int p3)] [] [(h0, .inr (9, moF am known_h0 thrown_h0 wrong_h0 lastEnd_h0 at_h0 bad_h0 levels_h0 least_h0 found_h0)), ((am 6), .inr (8, [.ref a_all_m6, .int size_m6])), (a_all_m6, .inl (cI, n_a_all_m6, .inl b_a_all_m6)), ((am 24), .inr (8, [.ref a_all_m24, .int size_m24])), (a_all_m24, .inl (cI, n_a_all_m24, .inl b_a_all_m24)), ((am 25), .inr (8, [.ref a_all_m25, .int size_m25])), (a_all_m25, .inl (cI, n_a_all_m25, .inl b_a_all_m25)), ((am 26), .inr (8, [.ref a_all_m26, .int size_m26])), (a_all_m26, .inl (cI, n_a_all_m26, .inl b_a_all_m26)), ((am 27), .inr (8, [.ref a_all_m27, .int size_m27])), (a_all_m27, .inl (cI, n_a_all_m27, .inl b_a_all_m27)), ((am 28), .inr (8, [.ref a_all_m28, .int size_m28])), (a_all_m28, .inl (cI, n_a_all_m28, .inl b_a_all_m28)), ((am 29), .inr (8, [.ref a_all_m29, .int size_m29])), (a_all_m29, .inl (cI, n_a_all_m29, .inl b_a_all_m29)), ((am 30), .inr (8, [.ref a_all_m30, .int size_m30])), (a_all_m30, .inl (cI, n_a_all_m30, .inl b_a_all_m30)), ((am 31), .inr (8, [.ref a_all_m31, .int size_m31])), (a_all_m31, .inl (cI, n_a_all_m31, .inl b_a_all_m31)), ((am 33), .inr (8, [.ref a_all_m33, .int size_m33])), (a_all_m33, .inl (cI, n_a_all_m33, .inl b_a_all_m33)), ((am 5), .inr (8, [.ref a_all_m5, .int size_m5])), (a_all_m5, .inl (cI, n_a_all_m5, .inl b_a_all_m5))] cl_207 sl_207 := by
  intro v4_207 cl_207 sl_207 C_207 S_207 h hC hS
  unfold F_Mo_buildSimple_207 at h
  refine j_iload d_Mo_buildSimple_207 0 rfl ?_
  refine j_iload_n d_Mo_buildSimple_209 rfl 4 rfl ?_
  refine j_icmp_ne (tgt := 234) d_Mo_buildSimple_210 (by decide) (fun c1 => ?_) (fun c1 => ?_)
  · replace h := it_f c1 h
    refine j_aload_n d_Mo_buildSimple_234 rfl 1 rfl ?_
    refine j_iload_n d_Mo_buildSimple_235 rfl 2 rfl ?_
    refine j_bipush (v := 21) d_Mo_buildSimple_236 (by decide) ?_
    refine j_aload_n d_Mo_buildSimple_238 rfl 1 rfl ?_
    refine j_iload d_Mo_buildSimple_239 0 rfl ?_
    replace h := bd_s h
    obtain ⟨_, k2, h⟩ := h
    refine j_callV (n := 1) (As := [.int v4_207]) (rest := [.int 21, .int p1, .ref h0]) (wr := [((am 24), .inr (8, [.ref a_all_m24, .int size_m24])), (a_all_m24, .inl (cI, n_a_all_m24, .inl b_a_all_m24)), ((am 25), .inr (8, [.ref a_all_m25, .int size_m25])), (a_all_m25, .inl (cI, n_a_all_m25, .inl b_a_all_m25)), ((am 26), .inr (8, [.ref a_all_m26, .int size_m26])), (a_all_m26, .inl (cI, n_a_all_m26, .inl b_a_all_m26)), ((am 27), .inr (8, [.ref a_all_m27, .int size_m27])), (a_all_m27, .inl (cI, n_a_all_m27, .inl b_a_all_m27)), ((am 28), .inr (8, [.ref a_all_m28, .int size_m28])), (a_all_m28, .inl (cI, n_a_all_m28, .inl b_a_all_m28)), ((am 29), .inr (8, [.ref a_all_m29, .int size_m29])), (a_all_m29, .inl (cI, n_a_all_m29, .inl b_a_all_m29)), ((am 30), .inr (8, [.ref a_all_m30, .int size_m30])), (a_all_m30, .inl (cI, n_a_all_m30, .inl b_a_all_m30)), ((am 31), .inr (8, [.ref a_all_m31, .int size_m31])), (a_all_m31, .inl (cI, n_a_all_m31, .inl b_a_all_m31)), ((am 33), .inr (8, [.ref a_all_m33, .int size_m33])), (a_all_m33, .inl (cI, n_a_all_m33, .inl b_a_all_m33)), ((am 5), .inr (8, [.ref a_all_m5, .int size_m5])), (a_all_m5, .inl (cI, n_a_all_m5, .inl b_a_all_m5))]) (c_Mo_placeOf l D cI cB cJ cS h0 am a_all_m6 v4_207 known_h0 thrown_h0 wrong_h0 lastEnd_h0 at_h0 bad_h0 levels_h0 least_h0 found_h0 size_m6 n_a_all_m6 b_a_all_m6  k2) k_Mo_411 (by decide) ⟨Nat.le_of_ble_eq_true rfl, Nat.le_of_ble_eq_true rfl⟩ rfl 0 rfl [0, 1, 2] [3, 4, 5, 6, 7, 8, 9, 10, 11, 12, 13, 14, 15, 16, 17, 18, 19, 20, 21, 22] rfl (by decide +kernel) rfl (by decide +kernel) (by decide +kernel) rfl rfl (Nat.le_of_ble_eq_true rfl) d_Mo_buildSimple_241 ⟨show cl_207 + 0 ≤ mc by omega, show sl_207 + 0 ≤ ms by omega⟩ (fun v w hq => ?_)
    obtain ⟨rfl, rfl⟩ := hq
    refine j_norm (pc' := 244) (st' := [.int (b_a_all_m6 (Int32.toNatClampNeg v4_207)), .int 21, .int p1, .ref h0]) (ws' := [((am 24), .inr (8, [.ref a_all_m24, .int size_m24])), (a_all_m24, .inl (cI, n_a_all_m24, .inl b_a_all_m24)), ((am 25), .inr (8, [.ref a_all_m25, .int size_m25])), (a_all_m25, .inl (cI, n_a_all_m25, .inl b_a_all_m25)), ((am 26), .inr (8, [.ref a_all_m26, .int size_m26])), (a_all_m26, .inl (cI, n_a_all_m26, .inl b_a_all_m26)), ((am 27), .inr (8, [.ref a_all_m27, .int size_m27])), (a_all_m27, .inl (cI, n_a_all_m27, .inl b_a_all_m27)), ((am 28), .inr (8, [.ref a_all_m28, .int size_m28])), (a_all_m28, .inl (cI, n_a_all_m28, .inl b_a_all_m28)), ((am 29), .inr (8, [.ref a_all_m29, .int size_m29])), (a_all_m29, .inl (cI, n_a_all_m29, .inl b_a_all_m29)), ((am 30), .inr (8, [.ref a_all_m30, .int size_m30])), (a_all_m30, .inl (cI, n_a_all_m30, .inl b_a_all_m30)), ((am 31), .inr (8, [.ref a_all_m31, .int size_m31])), (a_all_m31, .inl (cI, n_a_all_m31, .inl b_a_all_m31)), ((am 33), .inr (8, [.ref a_all_m33, .int size_m33])), (a_all_m33, .inl (cI, n_a_all_m33, .inl b_a_all_m33)), ((am 5), .inr (8, [.ref a_all_m5, .int size_m5])), (a_all_m5, .inl (cI, n_a_all_m5, .inl b_a_all_m5)), (h0, .inr (9, moF am known_h0 thrown_h0 wrong_h0 lastEnd_h0 at_h0 bad_h0 levels_h0 least_h0 found_h0)), ((am 6), .inr (8, [.ref a_all_m6, .int size_m6])), (a_all_m6, .inl (cI, n_a_all_m6, .inl b_a_all_m6))]) (cl' := cl_207) (sl' := sl_207) rfl rfl rfl rfl rfl rfl ?_
    refine j_aload_n d_Mo_buildSimple_244 rfl 1 rfl ?_
    refine j_iload_n d_Mo_buildSimple_245 rfl 3 rfl ?_
    replace h := bd_s h
    obtain ⟨_, k3, h⟩ := h
    refine j_callV (n := 1) (As := [.int p2]) (rest := [.int (b_a_all_m6 (Int32.toNatClampNeg v4_207)), .int 21, .int p1, .ref h0]) (wr := [((am 24), .inr (8, [.ref a_all_m24, .int size_m24])), (a_all_m24, .inl (cI, n_a_all_m24, .inl b_a_all_m24)), ((am 25), .inr (8, [.ref a_all_m25, .int size_m25])), (a_all_m25, .inl (cI, n_a_all_m25, .inl b_a_all_m25)), ((am 26), .inr (8, [.ref a_all_m26, .int size_m26])), (a_all_m26, .inl (cI, n_a_all_m26, .inl b_a_all_m26)), ((am 27), .inr (8, [.ref a_all_m27, .int size_m27])), (a_all_m27, .inl (cI, n_a_all_m27, .inl b_a_all_m27)), ((am 28), .inr (8, [.ref a_all_m28, .int size_m28])), (a_all_m28, .inl (cI, n_a_all_m28, .inl b_a_all_m28)), ((am 29), .inr (8, [.ref a_all_m29, .int size_m29])), (a_all_m29, .inl (cI, n_a_all_m29, .inl b_a_all_m29)), ((am 30), .inr (8, [.ref a_all_m30, .int size_m30])), (a_all_m30, .inl (cI, n_a_all_m30, .inl b_a_all_m30)), ((am 31), .inr (8, [.ref a_all_m31, .int size_m31])), (a_all_m31, .inl (cI, n_a_all_m31, .inl b_a_all_m31)), ((am 33), .inr (8, [.ref a_all_m33, .int size_m33])), (a_all_m33, .inl (cI, n_a_all_m33, .inl b_a_all_m33)), ((am 5), .inr (8, [.ref a_all_m5, .int size_m5])), (a_all_m5, .inl (cI, n_a_all_m5, .inl b_a_all_m5))]) (c_Mo_placeOf l D cI cB cJ cS h0 am a_all_m6 p2 known_h0 thrown_h0 wrong_h0 lastEnd_h0 at_h0 bad_h0 levels_h0 least_h0 found_h0 size_m6 n_a_all_m6 b_a_all_m6  k3) k_Mo_411 (by decide) ⟨Nat.le_of_ble_eq_true rfl, Nat.le_of_ble_eq_true rfl⟩ rfl 0 rfl [20, 21, 22] [0, 1, 2, 3, 4, 5, 6, 7, 8, 9, 10, 11, 12, 13, 14, 15, 16, 17, 18, 19] rfl (by decide +kernel) rfl (by decide +kernel) (by decide +kernel) rfl rfl (Nat.le_of_ble_eq_true rfl) d_Mo_buildSimple_246 ⟨show cl_207 + 0 ≤ mc by omega, show sl_207 + 0 ≤ ms by omega⟩ (fun v w hq => ?_)
    obtain ⟨rfl, rfl⟩ := hq
    refine j_norm (pc' := 249) (st' := [.int (b_a_all_m6 (Int32.toNatClampNeg p2)), .int (b_a_all_m6 (Int32.toNatClampNeg v4_207)), .int 21, .int p1, .ref h0]) (ws' := [((am 24), .inr (8, [.ref a_all_m24, .int size_m24])), (a_all_m24, .inl (cI, n_a_all_m24, .inl b_a_all_m24)), ((am 25), .inr (8, [.ref a_all_m25, .int size_m25])), (a_all_m25, .inl (cI, n_a_all_m25, .inl b_a_all_m25)), ((am 26), .inr (8, [.ref a_all_m26, .int size_m26])), (a_all_m26, .inl (cI, n_a_all_m26, .inl b_a_all_m26)), ((am 27), .inr (8, [.ref a_all_m27, .int size_m27])), (a_all_m27, .inl (cI, n_a_all_m27, .inl b_a_all_m27)), ((am 28), .inr (8, [.ref a_all_m28, .int size_m28])), (a_all_m28, .inl (cI, n_a_all_m28, .inl b_a_all_m28)), ((am 29), .inr (8, [.ref a_all_m29, .int size_m29])), (a_all_m29, .inl (cI, n_a_all_m29, .inl b_a_all_m29)), ((am 30), .inr (8, [.ref a_all_m30, .int size_m30])), (a_all_m30, .inl (cI, n_a_all_m30, .inl b_a_all_m30)), ((am 31), .inr (8, [.ref a_all_m31, .int size_m31])), (a_all_m31, .inl (cI, n_a_all_m31, .inl b_a_all_m31)), ((am 33), .inr (8, [.ref a_all_m33, .int size_m33])), (a_all_m33, .inl (cI, n_a_all_m33, .inl b_a_all_m33)), ((am 5), .inr (8, [.ref a_all_m5, .int size_m5])), (a_all_m5, .inl (cI, n_a_all_m5, .inl b_a_all_m5)), (h0, .inr (9, moF am known_h0 thrown_h0 wrong_h0 lastEnd_h0 at_h0 bad_h0 levels_h0 least_h0 found_h0)), ((am 6), .inr (8, [.ref a_all_m6, .int size_m6])), (a_all_m6, .inl (cI, n_a_all_m6, .inl b_a_all_m6))]) (cl' := cl_207) (sl' := sl_207) rfl rfl rfl rfl rfl rfl ?_
    refine j_iload d_Mo_buildSimple_249 0 rfl ?_
    replace h := bw_s h
    obtain ⟨⟨r4, r5, r6, r7, r8, r9, r10, r11, r12, r13, r14, r15, r16, r17, r18, r19, r20, r21, r22⟩, C31, S32, C33, S34, k35, h, e1, e2⟩ := h
    replace hC : cl_207 + C31 + C33 ≤ mc := by omega
    replace hS : sl_207 + S32 + S34 ≤ ms := by omega
    clear e1 e2
    refine j_callV (n := 5) (As := [.int p1, .int 21, .int (b_a_all_m6 (Int32.toNatClampNeg v4_207)), .int (b_a_all_m6 (Int32.toNatClampNeg p2)), .int v4_207]) (rest := []) (wr := [((am 33), .inr (8, [.ref a_all_m33, .int size_m33])), (a_all_m33, .inl (cI, n_a_all_m33, .inl b_a_all_m33)), ((am 5), .inr (8, [.ref a_all_m5, .int size_m5])), (a_all_m5, .inl (cI, n_a_all_m5, .inl b_a_all_m5)), ((am 6), .inr (8, [.ref a_all_m6, .int size_m6])), (a_all_m6, .inl (cI, n_a_all_m6, .inl b_a_all_m6))]) (c_Mo_newNode l D cI cB cJ cS h0 am a_all_m24 a_all_m25 a_all_m26 a_all_m27 a_all_m28 a_all_m29 a_all_m30 a_all_m31 p1 21 (b_a_all_m6 (Int32.toNatClampNeg v4_207)) (b_a_all_m6 (Int32.toNatClampNeg p2)) v4_207 known_h0 thrown_h0 wrong_h0 lastEnd_h0 at_h0 bad_h0 levels_h0 least_h0 found_h0 size_m24 n_a_all_m24 b_a_all_m24 size_m25 n_a_all_m25 b_a_all_m25 size_m26 n_a_all_m26 b_a_all_m26 size_m27 n_a_all_m27 b_a_all_m27 size_m28 n_a_all_m28 b_a_all_m28 size_m29 n_a_all_m29 b_a_all_m29 size_m30 n_a_all_m30 b_a_all_m30 size_m31 n_a_all_m31 b_a_all_m31  r4 r5 r6 r7 r8 r9 r10 r11 r12 r13 r14 r15 r16 r17 r18 r19 r20 r21 r22 C31 S32 k35) k_Mo_386 (by decide) ⟨Nat.le_of_ble_eq_true rfl, Nat.le_of_ble_eq_true rfl⟩ rfl 0 rfl [20, 0, 1, 2, 3, 4, 5, 6, 7, 8, 9, 10, 11, 12, 13, 14, 15] [16, 17, 18, 19, 21, 22] rfl (by decide +kernel) rfl (by decide +kernel) (by decide +kernel) rfl rfl (Nat.le_of_ble_eq_true rfl) d_Mo_buildSimple_251 ⟨show cl_207 + C31 ≤ mc by omega, show sl_207 + S32 ≤ ms by omega⟩ (fun v w hq => ?_)
    obtain ⟨q23, q24, q25, q26, q27, q28, q29, q30, rfl, rfl⟩ := hq
    refine j_norm (pc' := 254) (st' := [.int size_m24]) (ws' := [((am 33), .inr (8, [.ref a_all_m33, .int size_m33])), (a_all_m33, .inl (cI, n_a_all_m33, .inl b_a_all_m33)), ((am 5), .inr (8, [.ref a_all_m5, .int size_m5])), (a_all_m5, .inl (cI, n_a_all_m5, .inl b_a_all_m5)), ((am 6), .inr (8, [.ref a_all_m6, .int size_m6])), (a_all_m6, .inl (cI, n_a_all_m6, .inl b_a_all_m6)), (h0, .inr (9, moF am known_h0 thrown_h0 wrong_h0 lastEnd_h0 at_h0 bad_h0 levels_h0 least_h0 found_h0)), ((am 24), .inr (8, [.ref q23, .int (size_m24 + 1)])), ((am 25), .inr (8, [.ref q24, .int (size_m25 + 1)])), ((am 26), .inr (8, [.ref q25, .int (size_m26 + 1)])), ((am 27), .inr (8, [.ref q26, .int (size_m27 + 1)])), ((am 28), .inr (8, [.ref q27, .int r4])), ((am 29), .inr (8, [.ref q28, .int r5])), ((am 30), .inr (8, [.ref q29, .int r6])), ((am 31), .inr (8, [.ref q30, .int (size_m31 + 1)])), (q23, .inl (cI, r7, .inl r8)), (q24, .inl (cI, r9, .inl r10)), (q25, .inl (cI, r11, .inl r12)), (q26, .inl (cI, r13, .inl r14)), (q27, .inl (cI, r15, .inl r16)), (q28, .inl (cI, r17, .inl r18)), (q29, .inl (cI, r19, .inl r20)), (q30, .inl (cI, r21, .inl r22))]) (cl' := cl_207 + C31) (sl' := sl_207 + S32) rfl rfl rfl rfl rfl rfl ?_
    refine j_istore (lv' := [(5, .int size_m24), (4, .int v4_207), (0, .ref h0), (1, .int p1), (2, .int p2), (3, .int p3)]) d_Mo_buildSimple_254 (by decide) rfl ?_
    refine j_aload_n d_Mo_buildSimple_256 rfl 2 rfl ?_
    refine j_iconst (v := 1) d_Mo_buildSimple_257 (by decide) ?_
    refine j_iload d_Mo_buildSimple_258 0 rfl ?_
    refine j_iload_n d_Mo_buildSimple_260 rfl 4 rfl ?_
    refine j_iload d_Mo_buildSimple_261 1 rfl ?_
    refine j_iconst (v := 1) d_Mo_buildSimple_263 (by decide) ?_
    replace h := bw_s h
    obtain ⟨⟨r36, r37⟩, C39, S40, C41, S42, k43, h, e1, e2⟩ := h
    replace hC : cl_207 + C31 + C39 + C41 ≤ mc := by omega
    replace hS : sl_207 + S32 + S40 + S42 ≤ ms := by omega
    clear e1 e2
    refine j_callV (n := 5) (As := [.int 1, .int size_m24, .int p2, .int v4_207, .int 1]) (rest := []) (wr := [((am 5), .inr (8, [.ref a_all_m5, .int size_m5])), (a_all_m5, .inl (cI, n_a_all_m5, .inl b_a_all_m5)), ((am 6), .inr (8, [.ref a_all_m6, .int size_m6])), (a_all_m6, .inl (cI, n_a_all_m6, .inl b_a_all_m6)), ((am 24), .inr (8, [.ref q23, .int (size_m24 + 1)])), ((am 25), .inr (8, [.ref q24, .int (size_m25 + 1)])), ((am 26), .inr (8, [.ref q25, .int (size_m26 + 1)])), ((am 27), .inr (8, [.ref q26, .int (size_m27 + 1)])), ((am 28), .inr (8, [.ref q27, .int r4])), ((am 29), .inr (8, [.ref q28, .int r5])), ((am 30), .inr (8, [.ref q29, .int r6])), ((am 31), .inr (8, [.ref q30, .int (size_m31 + 1)])), (q23, .inl (cI, r7, .inl r8)), (q24, .inl (cI, r9, .inl r10)), (q25, .inl (cI, r11, .inl r12)), (q26, .inl (cI, r13, .inl r14)), (q27, .inl (cI, r15, .inl r16)), (q28, .inl (cI, r17, .inl r18)), (q29, .inl (cI, r19, .inl r20)), (q30, .inl (cI, r21, .inl r22))]) (c_Mo_task l D cI cB cJ cS h0 am a_all_m33 1 size_m24 p2 v4_207 1 known_h0 thrown_h0 wrong_h0 lastEnd_h0 at_h0 bad_h0 levels_h0 least_h0 found_h0 size_m33 n_a_all_m33 b_a_all_m33  r36 r37 C39 S40 k43) k_Mo_390 (by decide) ⟨Nat.le_of_ble_eq_true rfl, Nat.le_of_ble_eq_true rfl⟩ rfl 0 rfl [6, 0, 1] [2, 3, 4, 5, 7, 8, 9, 10, 11, 12, 13, 14, 15, 16, 17, 18, 19, 20, 21, 22] rfl (by decide +kernel) rfl (by decide +kernel) (by decide +kernel) rfl rfl (Nat.le_of_ble_eq_true rfl) d_Mo_buildSimple_264 ⟨show cl_207 + C31 + C39 ≤ mc by omega, show sl_207 + S32 + S40 ≤ ms by omega⟩ (fun v w hq => ?_)
    obtain ⟨q38, rfl, rfl⟩ := hq
    refine j_norm (pc' := 267) (st' := []) (ws' := [((am 5), .inr (8, [.ref a_all_m5, .int size_m5])), (a_all_m5, .inl (cI, n_a_all_m5, .inl b_a_all_m5)), ((am 6), .inr (8, [.ref a_all_m6, .int size_m6])), (a_all_m6, .inl (cI, n_a_all_m6, .inl b_a_all_m6)), ((am 24), .inr (8, [.ref q23, .int (size_m24 + 1)])), ((am 25), .inr (8, [.ref q24, .int (size_m25 + 1)])), ((am 26), .inr (8, [.ref q25, .int (size_m26 + 1)])), ((am 27), .inr (8, [.ref q26, .int (size_m27 + 1)])), ((am 28), .inr (8, [.ref q27, .int r4])), ((am 29), .inr (8, [.ref q28, .int r5])), ((am 30), .inr (8, [.ref q29, .int r6])), ((am 31), .inr (8, [.ref q30, .int (size_m31 + 1)])), (q23, .inl (cI, r7, .inl r8)), (q24, .inl (cI, r9, .inl r10)), (q25, .inl (cI, r11, .inl r12)), (q26, .inl (cI, r13, .inl r14)), (q27, .inl (cI, r15, .inl r16)), (q28, .inl (cI, r17, .inl r18)), (q29, .inl (cI, r19, .inl r20)), (q30, .inl (cI, r21, .inl r22)), (h0, .inr (9, moF am known_h0 thrown_h0 wrong_h0 lastEnd_h0 at_h0 bad_h0 levels_h0 least_h0 found_h0)), ((am 33), .inr (8, [.ref q38, .int (((((size_m33 + 1) + 1) + 1) + 1) + 1)])), (q38, .inl (cI, r36, .inl r37))]) (cl' := cl_207 + C31 + C39) (sl' := sl_207 + S32 + S40) rfl rfl rfl rfl rfl rfl ?_
    refine j_aload_n d_Mo_buildSimple_267 rfl 2 rfl ?_
    refine j_iconst (v := 1) d_Mo_buildSimple_268 (by decide) ?_
    refine j_iload d_Mo_buildSimple_269 0 rfl ?_
    refine j_iload d_Mo_buildSimple_271 1 rfl ?_
    refine j_iconst (v := 1) d_Mo_buildSimple_273 (by decide) ?_
    refine j_iadd d_Mo_buildSimple_274 ?_
    refine j_iload_n d_Mo_buildSimple_275 rfl 5 rfl ?_
    refine j_iconst (v := 1) d_Mo_buildSimple_276 (by decide) ?_
    replace h := bw_s h
    obtain ⟨⟨r44, r45⟩, C47, S48, C49, S50, k51, h, e1, e2⟩ := h
    replace hC : cl_207 + C31 + C39 + C47 + C49 ≤ mc := by omega
    replace hS : sl_207 + S32 + S40 + S48 + S50 ≤ ms := by omega
    clear e1 e2
    refine j_callV (n := 5) (As := [.int 1, .int size_m24, .int (v4_207 + 1), .int p3, .int 1]) (rest := []) (wr := [((am 5), .inr (8, [.ref a_all_m5, .int size_m5])), (a_all_m5, .inl (cI, n_a_all_m5, .inl b_a_all_m5)), ((am 6), .inr (8, [.ref a_all_m6, .int size_m6])), (a_all_m6, .inl (cI, n_a_all_m6, .inl b_a_all_m6)), ((am 24), .inr (8, [.ref q23, .int (size_m24 + 1)])), ((am 25), .inr (8, [.ref q24, .int (size_m25 + 1)])), ((am 26), .inr (8, [.ref q25, .int (size_m26 + 1)])), ((am 27), .inr (8, [.ref q26, .int (size_m27 + 1)])), ((am 28), .inr (8, [.ref q27, .int r4])), ((am 29), .inr (8, [.ref q28, .int r5])), ((am 30), .inr (8, [.ref q29, .int r6])), ((am 31), .inr (8, [.ref q30, .int (size_m31 + 1)])), (q23, .inl (cI, r7, .inl r8)), (q24, .inl (cI, r9, .inl r10)), (q25, .inl (cI, r11, .inl r12)), (q26, .inl (cI, r13, .inl r14)), (q27, .inl (cI, r15, .inl r16)), (q28, .inl (cI, r17, .inl r18)), (q29, .inl (cI, r19, .inl r20)), (q30, .inl (cI, r21, .inl r22))]) (c_Mo_task l D cI cB cJ cS h0 am q38 1 size_m24 (v4_207 + 1) p3 1 known_h0 thrown_h0 wrong_h0 lastEnd_h0 at_h0 bad_h0 levels_h0 least_h0 found_h0 (((((size_m33 + 1) + 1) + 1) + 1) + 1) r36 r37  r44 r45 C47 S48 k51) k_Mo_390 (by decide) ⟨Nat.le_of_ble_eq_true rfl, Nat.le_of_ble_eq_true rfl⟩ rfl 0 rfl [20, 21, 22] [0, 1, 2, 3, 4, 5, 6, 7, 8, 9, 10, 11, 12, 13, 14, 15, 16, 17, 18, 19] rfl (by decide +kernel) rfl (by decide +kernel) (by decide +kernel) rfl rfl (Nat.le_of_ble_eq_true rfl) d_Mo_buildSimple_277 ⟨show cl_207 + C31 + C39 + C47 ≤ mc by omega, show sl_207 + S32 + S40 + S48 ≤ ms by omega⟩ (fun v w hq => ?_)
    obtain ⟨q46, rfl, rfl⟩ := hq
    refine j_norm (pc' := 280) (st' := []) (ws' := [((am 5), .inr (8, [.ref a_all_m5, .int size_m5])), (a_all_m5, .inl (cI, n_a_all_m5, .inl b_a_all_m5)), ((am 6), .inr (8, [.ref a_all_m6, .int size_m6])), (a_all_m6, .inl (cI, n_a_all_m6, .inl b_a_all_m6)), ((am 24), .inr (8, [.ref q23, .int (size_m24 + 1)])), ((am 25), .inr (8, [.ref q24, .int (size_m25 + 1)])), ((am 26), .inr (8, [.ref q25, .int (size_m26 + 1)])), ((am 27), .inr (8, [.ref q26, .int (size_m27 + 1)])), ((am 28), .inr (8, [.ref q27, .int r4])), ((am 29), .inr (8, [.ref q28, .int r5])), ((am 30), .inr (8, [.ref q29, .int r6])), ((am 31), .inr (8, [.ref q30, .int (size_m31 + 1)])), (q23, .inl (cI, r7, .inl r8)), (q24, .inl (cI, r9, .inl r10)), (q25, .inl (cI, r11, .inl r12)), (q26, .inl (cI, r13, .inl r14)), (q27, .inl (cI, r15, .inl r16)), (q28, .inl (cI, r17, .inl r18)), (q29, .inl (cI, r19, .inl r20)), (q30, .inl (cI, r21, .inl r22)), (h0, .inr (9, moF am known_h0 thrown_h0 wrong_h0 lastEnd_h0 at_h0 bad_h0 levels_h0 least_h0 found_h0)), ((am 33), .inr (8, [.ref q46, .int ((((((((((size_m33 + 1) + 1) + 1) + 1) + 1) + 1) + 1) + 1) + 1) + 1)])), (q46, .inl (cI, r44, .inl r45))]) (cl' := cl_207 + C31 + C39 + C47) (sl' := sl_207 + S32 + S40 + S48) rfl rfl rfl rfl rfl rfl ?_
    replace h := lf_s h
    obtain ⟨h, e1, e2⟩ := h
    replace h := Prod.mk.inj h
    obtain ⟨h9, h⟩ := h
    subst h9
    replace h := Prod.mk.inj h
    obtain ⟨h9, h⟩ := h
    subst h9
    replace h := Prod.mk.inj h
    obtain ⟨h9, h⟩ := h
    subst h9
    replace h := Prod.mk.inj h
    obtain ⟨h9, h⟩ := h
    subst h9
    replace h := Prod.mk.inj h
    obtain ⟨h9, h⟩ := h
    subst h9
    replace h := Prod.mk.inj h
    obtain ⟨h9, h⟩ := h
    subst h9
    replace h := Prod.mk.inj h
    obtain ⟨h9, h⟩ := h
    subst h9
    replace h := Prod.mk.inj h
    obtain ⟨h9, h⟩ := h
    subst h9
    replace h := Prod.mk.inj h
    obtain ⟨h9, h⟩ := h
    subst h9
    replace h := Prod.mk.inj h
    obtain ⟨h9, h⟩ := h
    subst h9
    replace h := Prod.mk.inj h
    obtain ⟨h9, h⟩ := h
    subst h9
    replace h := Prod.mk.inj h
    obtain ⟨h9, h⟩ := h
    subst h9
    replace h := Prod.mk.inj h
    obtain ⟨h9, h⟩ := h
    subst h9
    replace h := Prod.mk.inj h
    obtain ⟨h9, h⟩ := h
    subst h9
    replace h := Prod.mk.inj h
    obtain ⟨h9, h⟩ := h
    subst h9
    replace h := Prod.mk.inj h
    obtain ⟨h9, h⟩ := h
    subst h9
    replace h := Prod.mk.inj h
    obtain ⟨h9, h⟩ := h
    subst h9
    replace h := Prod.mk.inj h
    obtain ⟨h9, h⟩ := h
    subst h9
    replace h := Prod.mk.inj h
    obtain ⟨h9, h⟩ := h
    subst h9
    replace h := Prod.mk.inj h
    obtain ⟨h9, h⟩ := h
    subst h9
    replace h := Prod.mk.inj h
    obtain ⟨h9, h⟩ := h
    subst h9
    replace h := Prod.mk.inj h
    obtain ⟨h9, h⟩ := h
    subst h9
    replace h := Prod.mk.inj h
    obtain ⟨h9, h⟩ := h
    subst h9
    replace h := Prod.mk.inj h
    obtain ⟨h9, h⟩ := h
    subst h9
    replace h := Prod.mk.inj h
    obtain ⟨h9, h⟩ := h
    subst h9
    replace h := Prod.mk.inj h
    obtain ⟨h9, h⟩ := h
    subst h9
    subst h
    refine j_widen (cl' := mc) (sl' := ms) (by omega) (by omega) ?_
    exact j_vret (w := [(h0, .inr (9, moF am known_h0 thrown_h0 wrong_h0 lastEnd_h0 at_h0 bad_h0 levels_h0 least_h0 found_h0)), ((am 5), .inr (8, [.ref a_all_m5, .int size_m5])), (a_all_m5, .inl (cI, n_a_all_m5, .inl b_a_all_m5)), ((am 6), .inr (8, [.ref a_all_m6, .int size_m6])), (a_all_m6, .inl (cI, n_a_all_m6, .inl b_a_all_m6)), ((am 24), .inr (8, [.ref q23, .int (size_m24 + 1)])), ((am 25), .inr (8, [.ref q24, .int (size_m25 + 1)])), ((am 26), .inr (8, [.ref q25, .int (size_m26 + 1)])), ((am 27), .inr (8, [.ref q26, .int (size_m27 + 1)])), ((am 28), .inr (8, [.ref q27, .int r4])), ((am 29), .inr (8, [.ref q28, .int r5])), ((am 30), .inr (8, [.ref q29, .int r6])), ((am 31), .inr (8, [.ref q30, .int (size_m31 + 1)])), ((am 33), .inr (8, [.ref q46, .int ((((((((((size_m33 + 1) + 1) + 1) + 1) + 1) + 1) + 1) + 1) + 1) + 1)])), (q23, .inl (cI, r7, .inl r8)), (q24, .inl (cI, r9, .inl r10)), (q25, .inl (cI, r11, .inl r12)), (q26, .inl (cI, r13, .inl r14)), (q27, .inl (cI, r15, .inl r16)), (q28, .inl (cI, r17, .inl r18)), (q29, .inl (cI, r19, .inl r20)), (q30, .inl (cI, r21, .inl r22)), (q46, .inl (cI, r44, .inl r45))]) hr d_Mo_buildSimple_280 [20, 0, 1, 2, 3, 4, 5, 6, 7, 8, 9, 10, 11, 21, 12, 13, 14, 15, 16, 17, 18, 19, 22] rfl (by decide) ⟨q23, q24, q25, q26, q27, q28, q29, q30, q46, rfl, rfl⟩
  · replace h := it_t c1 h
    refine j_aload_n d_Mo_buildSimple_213 rfl 1 rfl ?_
    refine j_iload_n d_Mo_buildSimple_214 rfl 2 rfl ?_
    refine j_bipush (v := 20) d_Mo_buildSimple_215 (by decide) ?_
    refine j_iload_n d_Mo_buildSimple_217 rfl 3 rfl ?_
    replace h := bw_s h
    obtain ⟨⟨r52, r53, r54, r55, r56, r57, r58, r59, r60, r61, r62, r63, r64, r65, r66, r67, r68, r69, r70⟩, C79, S80, C81, S82, k83, h, e1, e2⟩ := h
    replace hC : cl_207 + C79 + C81 ≤ mc := by omega
    replace hS : sl_207 + S80 + S82 ≤ ms := by omega
    clear e1 e2
    refine j_callV (n := 3) (As := [.int p1, .int 20, .int p2]) (rest := []) (wr := [((am 33), .inr (8, [.ref a_all_m33, .int size_m33])), (a_all_m33, .inl (cI, n_a_all_m33, .inl b_a_all_m33)), ((am 5), .inr (8, [.ref a_all_m5, .int size_m5])), (a_all_m5, .inl (cI, n_a_all_m5, .inl b_a_all_m5))]) (c_Mo_leafNode l D cI cB cJ cS h0 am a_all_m6 a_all_m24 a_all_m25 a_all_m26 a_all_m27 a_all_m28 a_all_m29 a_all_m30 a_all_m31 p1 20 p2 known_h0 thrown_h0 wrong_h0 lastEnd_h0 at_h0 bad_h0 levels_h0 least_h0 found_h0 size_m6 n_a_all_m6 b_a_all_m6 size_m24 n_a_all_m24 b_a_all_m24 size_m25 n_a_all_m25 b_a_all_m25 size_m26 n_a_all_m26 b_a_all_m26 size_m27 n_a_all_m27 b_a_all_m27 size_m28 n_a_all_m28 b_a_all_m28 size_m29 n_a_all_m29 b_a_all_m29 size_m30 n_a_all_m30 b_a_all_m30 size_m31 n_a_all_m31 b_a_all_m31  r52 r53 r54 r55 r56 r57 r58 r59 r60 r61 r62 r63 r64 r65 r66 r67 r68 r69 r70 C79 S80 k83) k_Mo_426 (by decide) ⟨Nat.le_of_ble_eq_true rfl, Nat.le_of_ble_eq_true rfl⟩ rfl 0 rfl [0, 1, 2, 3, 4, 5, 6, 7, 8, 9, 10, 11, 12, 13, 14, 15, 16, 17, 18] [19, 20, 21, 22] rfl (by decide +kernel) rfl (by decide +kernel) (by decide +kernel) rfl rfl (Nat.le_of_ble_eq_true rfl) d_Mo_buildSimple_218 ⟨show cl_207 + C79 ≤ mc by omega, show sl_207 + S80 ≤ ms by omega⟩ (fun v w hq => ?_)
    obtain ⟨q71, q72, q73, q74, q75, q76, q77, q78, rfl, rfl⟩ := hq
    refine j_norm (pc' := 221) (st' := [.int size_m24]) (ws' := [((am 33), .inr (8, [.ref a_all_m33, .int size_m33])), (a_all_m33, .inl (cI, n_a_all_m33, .inl b_a_all_m33)), ((am 5), .inr (8, [.ref a_all_m5, .int size_m5])), (a_all_m5, .inl (cI, n_a_all_m5, .inl b_a_all_m5)), (h0, .inr (9, moF am known_h0 thrown_h0 wrong_h0 lastEnd_h0 at_h0 bad_h0 levels_h0 least_h0 found_h0)), ((am 6), .inr (8, [.ref a_all_m6, .int size_m6])), (a_all_m6, .inl (cI, n_a_all_m6, .inl b_a_all_m6)), ((am 24), .inr (8, [.ref q71, .int (size_m24 + 1)])), ((am 25), .inr (8, [.ref q72, .int (size_m25 + 1)])), ((am 26), .inr (8, [.ref q73, .int (size_m26 + 1)])), ((am 27), .inr (8, [.ref q74, .int (size_m27 + 1)])), ((am 28), .inr (8, [.ref q75, .int r52])), ((am 29), .inr (8, [.ref q76, .int r53])), ((am 30), .inr (8, [.ref q77, .int r54])), ((am 31), .inr (8, [.ref q78, .int (size_m31 + 1)])), (q71, .inl (cI, r55, .inl r56)), (q72, .inl (cI, r57, .inl r58)), (q73, .inl (cI, r59, .inl r60)), (q74, .inl (cI, r61, .inl r62)), (q75, .inl (cI, r63, .inl r64)), (q76, .inl (cI, r65, .inl r66)), (q77, .inl (cI, r67, .inl r68)), (q78, .inl (cI, r69, .inl r70))]) (cl' := cl_207 + C79) (sl' := sl_207 + S80) rfl rfl rfl rfl rfl rfl ?_
    refine j_istore (lv' := [(5, .int size_m24), (4, .int v4_207), (0, .ref h0), (1, .int p1), (2, .int p2), (3, .int p3)]) d_Mo_buildSimple_221 (by decide) rfl ?_
    refine j_aload_n d_Mo_buildSimple_223 rfl 2 rfl ?_
    refine j_iconst (v := 1) d_Mo_buildSimple_224 (by decide) ?_
    refine j_iload d_Mo_buildSimple_225 0 rfl ?_
    refine j_iload_n d_Mo_buildSimple_227 rfl 4 rfl ?_
    refine j_iload_n d_Mo_buildSimple_228 rfl 5 rfl ?_
    refine j_iconst (v := 1) d_Mo_buildSimple_229 (by decide) ?_
    replace h := bw_s h
    obtain ⟨⟨r84, r85⟩, C87, S88, C89, S90, k91, h, e1, e2⟩ := h
    replace hC : cl_207 + C79 + C87 + C89 ≤ mc := by omega
    replace hS : sl_207 + S80 + S88 + S90 ≤ ms := by omega
    clear e1 e2
    refine j_callV (n := 5) (As := [.int 1, .int size_m24, .int p2, .int p3, .int 1]) (rest := []) (wr := [((am 5), .inr (8, [.ref a_all_m5, .int size_m5])), (a_all_m5, .inl (cI, n_a_all_m5, .inl b_a_all_m5)), ((am 6), .inr (8, [.ref a_all_m6, .int size_m6])), (a_all_m6, .inl (cI, n_a_all_m6, .inl b_a_all_m6)), ((am 24), .inr (8, [.ref q71, .int (size_m24 + 1)])), ((am 25), .inr (8, [.ref q72, .int (size_m25 + 1)])), ((am 26), .inr (8, [.ref q73, .int (size_m26 + 1)])), ((am 27), .inr (8, [.ref q74, .int (size_m27 + 1)])), ((am 28), .inr (8, [.ref q75, .int r52])), ((am 29), .inr (8, [.ref q76, .int r53])), ((am 30), .inr (8, [.ref q77, .int r54])), ((am 31), .inr (8, [.ref q78, .int (size_m31 + 1)])), (q71, .inl (cI, r55, .inl r56)), (q72, .inl (cI, r57, .inl r58)), (q73, .inl (cI, r59, .inl r60)), (q74, .inl (cI, r61, .inl r62)), (q75, .inl (cI, r63, .inl r64)), (q76, .inl (cI, r65, .inl r66)), (q77, .inl (cI, r67, .inl r68)), (q78, .inl (cI, r69, .inl r70))]) (c_Mo_task l D cI cB cJ cS h0 am a_all_m33 1 size_m24 p2 p3 1 known_h0 thrown_h0 wrong_h0 lastEnd_h0 at_h0 bad_h0 levels_h0 least_h0 found_h0 size_m33 n_a_all_m33 b_a_all_m33  r84 r85 C87 S88 k91) k_Mo_390 (by decide) ⟨Nat.le_of_ble_eq_true rfl, Nat.le_of_ble_eq_true rfl⟩ rfl 0 rfl [4, 0, 1] [2, 3, 5, 6, 7, 8, 9, 10, 11, 12, 13, 14, 15, 16, 17, 18, 19, 20, 21, 22] rfl (by decide +kernel) rfl (by decide +kernel) (by decide +kernel) rfl rfl (Nat.le_of_ble_eq_true rfl) d_Mo_buildSimple_230 ⟨show cl_207 + C79 + C87 ≤ mc by omega, show sl_207 + S80 + S88 ≤ ms by omega⟩ (fun v w hq => ?_)
    obtain ⟨q86, rfl, rfl⟩ := hq
    refine j_norm (pc' := 233) (st' := []) (ws' := [((am 5), .inr (8, [.ref a_all_m5, .int size_m5])), (a_all_m5, .inl (cI, n_a_all_m5, .inl b_a_all_m5)), ((am 6), .inr (8, [.ref a_all_m6, .int size_m6])), (a_all_m6, .inl (cI, n_a_all_m6, .inl b_a_all_m6)), ((am 24), .inr (8, [.ref q71, .int (size_m24 + 1)])), ((am 25), .inr (8, [.ref q72, .int (size_m25 + 1)])), ((am 26), .inr (8, [.ref q73, .int (size_m26 + 1)])), ((am 27), .inr (8, [.ref q74, .int (size_m27 + 1)])), ((am 28), .inr (8, [.ref q75, .int r52])), ((am 29), .inr (8, [.ref q76, .int r53])), ((am 30), .inr (8, [.ref q77, .int r54])), ((am 31), .inr (8, [.ref q78, .int (size_m31 + 1)])), (q71, .inl (cI, r55, .inl r56)), (q72, .inl (cI, r57, .inl r58)), (q73, .inl (cI, r59, .inl r60)), (q74, .inl (cI, r61, .inl r62)), (q75, .inl (cI, r63, .inl r64)), (q76, .inl (cI, r65, .inl r66)), (q77, .inl (cI, r67, .inl r68)), (q78, .inl (cI, r69, .inl r70)), (h0, .inr (9, moF am known_h0 thrown_h0 wrong_h0 lastEnd_h0 at_h0 bad_h0 levels_h0 least_h0 found_h0)), ((am 33), .inr (8, [.ref q86, .int (((((size_m33 + 1) + 1) + 1) + 1) + 1)])), (q86, .inl (cI, r84, .inl r85))]) (cl' := cl_207 + C79 + C87) (sl' := sl_207 + S80 + S88) rfl rfl rfl rfl rfl rfl ?_
    replace h := lf_s h
    obtain ⟨h, e1, e2⟩ := h
    replace h := Prod.mk.inj h
    obtain ⟨h9, h⟩ := h
    subst h9
    replace h := Prod.mk.inj h
    obtain ⟨h9, h⟩ := h
    subst h9
    replace h := Prod.mk.inj h
    obtain ⟨h9, h⟩ := h
    subst h9
    replace h := Prod.mk.inj h
    obtain ⟨h9, h⟩ := h
    subst h9
    replace h := Prod.mk.inj h
    obtain ⟨h9, h⟩ := h
    subst h9
    replace h := Prod.mk.inj h
    obtain ⟨h9, h⟩ := h
    subst h9
    replace h := Prod.mk.inj h
    obtain ⟨h9, h⟩ := h
    subst h9
    replace h := Prod.mk.inj h
    obtain ⟨h9, h⟩ := h
    subst h9
    replace h := Prod.mk.inj h
    obtain ⟨h9, h⟩ := h
    subst h9
    replace h := Prod.mk.inj h
    obtain ⟨h9, h⟩ := h
    subst h9
    replace h := Prod.mk.inj h
    obtain ⟨h9, h⟩ := h
    subst h9
    replace h := Prod.mk.inj h
    obtain ⟨h9, h⟩ := h
    subst h9
    replace h := Prod.mk.inj h
    obtain ⟨h9, h⟩ := h
    subst h9
    replace h := Prod.mk.inj h
    obtain ⟨h9, h⟩ := h
    subst h9
    replace h := Prod.mk.inj h
    obtain ⟨h9, h⟩ := h
    subst h9
    replace h := Prod.mk.inj h
    obtain ⟨h9, h⟩ := h
    subst h9
    replace h := Prod.mk.inj h
    obtain ⟨h9, h⟩ := h
    subst h9
    replace h := Prod.mk.inj h
    obtain ⟨h9, h⟩ := h
    subst h9
    replace h := Prod.mk.inj h
    obtain ⟨h9, h⟩ := h
    subst h9
    replace h := Prod.mk.inj h
    obtain ⟨h9, h⟩ := h
    subst h9
    replace h := Prod.mk.inj h
    obtain ⟨h9, h⟩ := h
    subst h9
    replace h := Prod.mk.inj h
    obtain ⟨h9, h⟩ := h
    subst h9
    replace h := Prod.mk.inj h
    obtain ⟨h9, h⟩ := h
    subst h9
    replace h := Prod.mk.inj h
    obtain ⟨h9, h⟩ := h
    subst h9
    replace h := Prod.mk.inj h
    obtain ⟨h9, h⟩ := h
    subst h9
    replace h := Prod.mk.inj h
    obtain ⟨h9, h⟩ := h
    subst h9
    subst h
    refine j_widen (cl' := mc) (sl' := ms) (by omega) (by omega) ?_
    exact j_vret (w := [(h0, .inr (9, moF am known_h0 thrown_h0 wrong_h0 lastEnd_h0 at_h0 bad_h0 levels_h0 least_h0 found_h0)), ((am 5), .inr (8, [.ref a_all_m5, .int size_m5])), (a_all_m5, .inl (cI, n_a_all_m5, .inl b_a_all_m5)), ((am 6), .inr (8, [.ref a_all_m6, .int size_m6])), (a_all_m6, .inl (cI, n_a_all_m6, .inl b_a_all_m6)), ((am 24), .inr (8, [.ref q71, .int (size_m24 + 1)])), ((am 25), .inr (8, [.ref q72, .int (size_m25 + 1)])), ((am 26), .inr (8, [.ref q73, .int (size_m26 + 1)])), ((am 27), .inr (8, [.ref q74, .int (size_m27 + 1)])), ((am 28), .inr (8, [.ref q75, .int r52])), ((am 29), .inr (8, [.ref q76, .int r53])), ((am 30), .inr (8, [.ref q77, .int r54])), ((am 31), .inr (8, [.ref q78, .int (size_m31 + 1)])), ((am 33), .inr (8, [.ref q86, .int (((((size_m33 + 1) + 1) + 1) + 1) + 1)])), (q71, .inl (cI, r55, .inl r56)), (q72, .inl (cI, r57, .inl r58)), (q73, .inl (cI, r59, .inl r60)), (q74, .inl (cI, r61, .inl r62)), (q75, .inl (cI, r63, .inl r64)), (q76, .inl (cI, r65, .inl r66)), (q77, .inl (cI, r67, .inl r68)), (q78, .inl (cI, r69, .inl r70)), (q86, .inl (cI, r84, .inl r85))]) hr d_Mo_buildSimple_233 [20, 0, 1, 2, 3, 4, 5, 6, 7, 8, 9, 10, 11, 21, 12, 13, 14, 15, 16, 17, 18, 19, 22] rfl (by decide) ⟨q71, q72, q73, q74, q75, q76, q77, q78, q86, rfl, rfl⟩
set_option maxHeartbeats 4000000 in
set_option maxRecDepth 100000 in
theorem L_Mo_buildSimple_139 (l : Launch) (D : va_G) (cI cB cJ cS : ClassId) (h0 : Nat) (am : Nat → Nat) (a_all_m5 : Nat) (a_all_m6 : Nat) (a_all_m24 : Nat) (a_all_m25 : Nat) (a_all_m26 : Nat) (a_all_m27 : Nat) (a_all_m28 : Nat) (a_all_m29 : Nat) (a_all_m30 : Nat) (a_all_m31 : Nat) (a_all_m33 : Nat) (p1 : Int32) (p2 : Int32) (p3 : Int32) (known_h0 : Int32) (thrown_h0 : Int32) (wrong_h0 : Int32) (lastEnd_h0 : Int32) (at_h0 : Int32) (bad_h0 : Int32) (levels_h0 : Int32) (least_h0 : Int32) (found_h0 : Int32) (size_m5 : Int32) (n_a_all_m5 : Nat) (b_a_all_m5 : Nat → Int32) (size_m6 : Int32) (n_a_all_m6 : Nat) (b_a_all_m6 : Nat → Int32) (size_m24 : Int32) (n_a_all_m24 : Nat) (b_a_all_m24 : Nat → Int32) (size_m25 : Int32) (n_a_all_m25 : Nat) (b_a_all_m25 : Nat → Int32) (size_m26 : Int32) (n_a_all_m26 : Nat) (b_a_all_m26 : Nat → Int32) (size_m27 : Int32) (n_a_all_m27 : Nat) (b_a_all_m27 : Nat → Int32) (size_m28 : Int32) (n_a_all_m28 : Nat) (b_a_all_m28 : Nat → Int32) (size_m29 : Int32) (n_a_all_m29 : Nat) (b_a_all_m29 : Nat → Int32) (size_m30 : Int32) (n_a_all_m30 : Nat) (b_a_all_m30 : Nat → Int32) (size_m31 : Int32) (n_a_all_m31 : Nat) (b_a_all_m31 : Nat → Int32) (size_m33 : Int32) (n_a_all_m33 : Nat) (b_a_all_m33 : Nat → Int32) (o_5_1 : Int32) (o_7_1 : Int32) (o_9_1 : Int32) (o_11_1 : Int32) (o_13_1 : Int32) (o_15_1 : Int32) (o_17_1 : Int32) (o_19_1 : Int32) (o_21_1 : Int32) (on_nq_5_0 : Nat) (ob_nq_5_0 : Nat → Int32) (on_nq_7_0 : Nat) (ob_nq_7_0 : Nat → Int32) (on_nq_9_0 : Nat) (ob_nq_9_0 : Nat → Int32) (on_nq_11_0 : Nat) (ob_nq_11_0 : Nat → Int32) (on_nq_13_0 : Nat) (ob_nq_13_0 : Nat → Int32) (on_nq_15_0 : Nat) (ob_nq_15_0 : Nat → Int32) (on_nq_17_0 : Nat) (ob_nq_17_0 : Nat → Int32) (on_nq_19_0 : Nat) (ob_nq_19_0 : Nat → Int32) (on_nq_21_0 : Nat) (ob_nq_21_0 : Nat → Int32) (mc ms : Nat) (p : Program) (e : Env) (s : State) (m : MethodId) (below : List Frame) (meth : Method) (c : Code) (hr : meth.sig.returnType = (Option.none : Option Jvm.ClassFile.FieldType)) (hnm : meth.name = y_Mo_buildSimple.name) : ∀ (k_139 : Nat) (v4_139 : Int32) (cl_139 sl_139 C_139 S_139 : Nat), F_Mo_buildSimple_139 p1 p2 p3 known_h0 thrown_h0 wrong_h0 lastEnd_h0 at_h0 bad_h0 levels_h0 least_h0 found_h0 size_m5 n_a_all_m5 b_a_all_m5 size_m6 n_a_all_m6 b_a_all_m6 size_m24 n_a_all_m24 b_a_all_m24 size_m25 n_a_all_m25 b_a_all_m25 size_m26 n_a_all_m26 b_a_all_m26 size_m27 n_a_all_m27 b_a_all_m27 size_m28 n_a_all_m28 b_a_all_m28 size_m29 n_a_all_m29 b_a_all_m29 size_m30 n_a_all_m30 b_a_all_m30 size_m31 n_a_all_m31 b_a_all_m31 size_m33 n_a_all_m33 b_a_all_m33  k_139 v4_139 = some ((o_5_1, o_7_1, o_9_1, o_11_1, o_13_1, o_15_1, o_17_1, o_19_1, o_21_1, on_nq_5_0, ob_nq_5_0, on_nq_7_0, ob_nq_7_0, on_nq_9_0, ob_nq_9_0, on_nq_11_0, ob_nq_11_0, on_nq_13_0, ob_nq_13_0, on_nq_15_0, ob_nq_15_0, on_nq_17_0, ob_nq_17_0, on_nq_19_0, ob_nq_19_0, on_nq_21_0, ob_nq_21_0), C_139, S_139) → cl_139 + C_139 ≤ mc → sl_139 + S_139 ≤ ms → J (KxOf p l e { frames := 4, cells := mc, slots := ms, locals := 97 } s m [.ref h0, .int p1, .int p2, .int p3].toArray below meth c D (gT cI cB cJ cS) [(h0, .inr (9, moF am known_h0 thrown_h0 wrong_h0 lastEnd_h0 at_h0 bad_h0 levels_h0 least_h0 found_h0)), ((am 5), .inr (8, [.ref a_all_m5, .int size_m5])), (a_all_m5, .inl (cI, n_a_all_m5, .inl b_a_all_m5)), ((am 6), .inr (8, [.ref a_all_m6, .int size_m6])), (a_all_m6, .inl (cI, n_a_all_m6, .inl b_a_all_m6)), ((am 24), .inr (8, [.ref a_all_m24, .int size_m24])), (a_all_m24, .inl (cI, n_a_all_m24, .inl b_a_all_m24)), ((am 25), .inr (8, [.ref a_all_m25, .int size_m25])), (a_all_m25, .inl (cI, n_a_all_m25, .inl b_a_all_m25)), ((am 26), .inr (8, [.ref a_all_m26, .int size_m26])), (a_all_m26, .inl (cI, n_a_all_m26, .inl b_a_all_m26)), ((am 27), .inr (8, [.ref a_all_m27, .int size_m27])), (a_all_m27, .inl (cI, n_a_all_m27, .inl b_a_all_m27)), ((am 28), .inr (8, [.ref a_all_m28, .int size_m28])), (a_all_m28, .inl (cI, n_a_all_m28, .inl b_a_all_m28)), ((am 29), .inr (8, [.ref a_all_m29, .int size_m29])), (a_all_m29, .inl (cI, n_a_all_m29, .inl b_a_all_m29)), ((am 30), .inr (8, [.ref a_all_m30, .int size_m30])), (a_all_m30, .inl (cI, n_a_all_m30, .inl b_a_all_m30)), ((am 31), .inr (8, [.ref a_all_m31, .int size_m31])), (a_all_m31, .inl (cI, n_a_all_m31, .inl b_a_all_m31)), ((am 33), .inr (8, [.ref a_all_m33, .int size_m33])), (a_all_m33, .inl (cI, n_a_all_m33, .inl b_a_all_m33))] (fun v w => ∃ nq_5_0 : Nat, ∃ nq_7_0 : Nat, ∃ nq_9_0 : Nat, ∃ nq_11_0 : Nat, ∃ nq_13_0 : Nat, ∃ nq_15_0 : Nat, ∃ nq_17_0 : Nat, ∃ nq_19_0 : Nat, ∃ nq_21_0 : Nat, v = none ∧ w = [(h0, .inr (9, moF am known_h0 thrown_h0 wrong_h0 lastEnd_h0 at_h0 bad_h0 levels_h0 least_h0 found_h0)), ((am 5), .inr (8, [.ref a_all_m5, .int size_m5])), (a_all_m5, .inl (cI, n_a_all_m5, .inl b_a_all_m5)), ((am 6), .inr (8, [.ref a_all_m6, .int size_m6])), (a_all_m6, .inl (cI, n_a_all_m6, .inl b_a_all_m6)), ((am 24), .inr (8, [.ref nq_5_0, .int o_5_1])), ((am 25), .inr (8, [.ref nq_7_0, .int o_7_1])), ((am 26), .inr (8, [.ref nq_9_0, .int o_9_1])), ((am 27), .inr (8, [.ref nq_11_0, .int o_11_1])), ((am 28), .inr (8, [.ref nq_13_0, .int o_13_1])), ((am 29), .inr (8, [.ref nq_15_0, .int o_15_1])), ((am 30), .inr (8, [.ref nq_17_0, .int o_17_1])), ((am 31), .inr (8, [.ref nq_19_0, .int o_19_1])), ((am 33), .inr (8, [.ref nq_21_0, .int o_21_1])), (nq_5_0, .inl (cI, on_nq_5_0, .inl ob_nq_5_0)), (nq_7_0, .inl (cI, on_nq_7_0, .inl ob_nq_7_0)), (nq_9_0, .inl (cI, on_nq_9_0, .inl ob_nq_9_0)), (nq_11_0, .inl (cI, on_nq_11_0, .inl ob_nq_11_0)), (nq_13_0, .inl (cI, on_nq_13_0, .inl ob_nq_13_0)), (nq_15_0, .inl (cI, on_nq_15_0, .inl ob_nq_15_0)), (nq_17_0, .inl (cI, on_nq_17_0, .inl ob_nq_17_0)), (nq_19_0, .inl (cI, on_nq_19_0, .inl ob_nq_19_0)), (nq_21_0, .inl (cI, on_nq_21_0, .inl ob_nq_21_0))]) mc ms) prog_12_method_65_code 8 R_Mo 139 [(4, .int v4_139), (0, .ref h0), (1, .int p1), (2, .int p2), (3, .int p3)] [] [(h0, .inr (9, moF am known_h0 thrown_h0 wrong_h0 lastEnd_h0 at_h0 bad_h0 levels_h0 least_h0 found_h0)), ((am 6), .inr (8, [.ref a_all_m6, .int size_m6])), (a_all_m6, .inl (cI, n_a_all_m6, .inl b_a_all_m6)), ((am 24), .inr (8, [.ref a_all_m24, .int size_m24])), (a_all_m24, .inl (cI, n_a_all_m24, .inl b_a_all_m24)), ((am 25), .inr (8, [.ref a_all_m25, .int size_m25])), (a_all_m25, .inl (cI, n_a_all_m25, .inl b_a_all_m25)), ((am 26), .inr (8, [.ref a_all_m26, .int size_m26])), (a_all_m26, .inl (cI, n_a_all_m26, .inl b_a_all_m26)), ((am 27), .inr (8, [.ref a_all_m27, .int size_m27])), (a_all_m27, .inl (cI, n_a_all_m27, .inl b_a_all_m27)), ((am 28), .inr (8, [.ref a_all_m28, .int size_m28])), (a_all_m28, .inl (cI, n_a_all_m28, .inl b_a_all_m28)), ((am 29), .inr (8, [.ref a_all_m29, .int size_m29])), (a_all_m29, .inl (cI, n_a_all_m29, .inl b_a_all_m29)), ((am 30), .inr (8, [.ref a_all_m30, .int size_m30])), (a_all_m30, .inl (cI, n_a_all_m30, .inl b_a_all_m30)), ((am 31), .inr (8, [.ref a_all_m31, .int size_m31])), (a_all_m31, .inl (cI, n_a_all_m31, .inl b_a_all_m31)), ((am 33), .inr (8, [.ref a_all_m33, .int size_m33])), (a_all_m33, .inl (cI, n_a_all_m33, .inl b_a_all_m33)), ((am 5), .inr (8, [.ref a_all_m5, .int size_m5])), (a_all_m5, .inl (cI, n_a_all_m5, .inl b_a_all_m5))] cl_139 sl_139 := by
  intro k_139
  induction k_139 with
  | zero => intro v4_139 cl_139 sl_139 C_139 S_139 h; rw [F_Mo_buildSimple_139] at h; cases h
  | succ k_139 ih_139 =>
    intro v4_139 cl_139 sl_139 C_139 S_139 h hC hS
    rw [F_Mo_buildSimple_139] at h
    refine j_iload d_Mo_buildSimple_139 0 rfl ?_
    refine j_iload_n d_Mo_buildSimple_141 rfl 4 rfl ?_
    refine j_icmp_ge (tgt := 207) d_Mo_buildSimple_142 (by decide) (fun c92 => ?_) (fun c92 => ?_)
    · replace h := it_t c92 h
      refine j_sub (w := [(h0, .inr (9, moF am known_h0 thrown_h0 wrong_h0 lastEnd_h0 at_h0 bad_h0 levels_h0 least_h0 found_h0)), ((am 6), .inr (8, [.ref a_all_m6, .int size_m6])), (a_all_m6, .inl (cI, n_a_all_m6, .inl b_a_all_m6)), ((am 24), .inr (8, [.ref a_all_m24, .int size_m24])), (a_all_m24, .inl (cI, n_a_all_m24, .inl b_a_all_m24)), ((am 25), .inr (8, [.ref a_all_m25, .int size_m25])), (a_all_m25, .inl (cI, n_a_all_m25, .inl b_a_all_m25)), ((am 26), .inr (8, [.ref a_all_m26, .int size_m26])), (a_all_m26, .inl (cI, n_a_all_m26, .inl b_a_all_m26)), ((am 27), .inr (8, [.ref a_all_m27, .int size_m27])), (a_all_m27, .inl (cI, n_a_all_m27, .inl b_a_all_m27)), ((am 28), .inr (8, [.ref a_all_m28, .int size_m28])), (a_all_m28, .inl (cI, n_a_all_m28, .inl b_a_all_m28)), ((am 29), .inr (8, [.ref a_all_m29, .int size_m29])), (a_all_m29, .inl (cI, n_a_all_m29, .inl b_a_all_m29)), ((am 30), .inr (8, [.ref a_all_m30, .int size_m30])), (a_all_m30, .inl (cI, n_a_all_m30, .inl b_a_all_m30)), ((am 31), .inr (8, [.ref a_all_m31, .int size_m31])), (a_all_m31, .inl (cI, n_a_all_m31, .inl b_a_all_m31)), ((am 33), .inr (8, [.ref a_all_m33, .int size_m33])), (a_all_m33, .inl (cI, n_a_all_m33, .inl b_a_all_m33)), ((am 5), .inr (8, [.ref a_all_m5, .int size_m5])), (a_all_m5, .inl (cI, n_a_all_m5, .inl b_a_all_m5))]) (lv' := [(4, .int v4_139), (0, .ref h0), (1, .int p1), (2, .int p2), (3, .int p3)]) [0, 1, 2, 3, 4, 5, 6, 7, 8, 9, 10, 11, 12, 13, 14, 15, 16, 17, 18, 19, 20, 21, 22] rfl (by decide +kernel) [0, 1, 2, 3, 4] rfl ?_
      exact L_Mo_buildSimple_207 l D cI cB cJ cS h0 am a_all_m5 a_all_m6 a_all_m24 a_all_m25 a_all_m26 a_all_m27 a_all_m28 a_all_m29 a_all_m30 a_all_m31 a_all_m33 p1 p2 p3 known_h0 thrown_h0 wrong_h0 lastEnd_h0 at_h0 bad_h0 levels_h0 least_h0 found_h0 size_m5 n_a_all_m5 b_a_all_m5 size_m6 n_a_all_m6 b_a_all_m6 size_m24 n_a_all_m24 b_a_all_m24 size_m25 n_a_all_m25 b_a_all_m25 size_m26 n_a_all_m26 b_a_all_m26 size_m27 n_a_all_m27 b_a_all_m27 size_m28 n_a_all_m28 b_a_all_m28 size_m29 n_a_all_m29 b_a_all_m29 size_m30 n_a_all_m30 b_a_all_m30 size_m31 n_a_all_m31 b_a_all_m31 size_m33 n_a_all_m33 b_a_all_m33 o_5_1 o_7_1 o_9_1 o_11_1 o_13_1 o_15_1 o_17_1 o_19_1 o_21_1 on_nq_5_0 ob_nq_5_0 on_nq_7_0 ob_nq_7_0 on_nq_9_0 ob_nq_9_0 on_nq_11_0 ob_nq_11_0 on_nq_13_0 ob_nq_13_0 on_nq_15_0 ob_nq_15_0 on_nq_17_0 ob_nq_17_0 on_nq_19_0 ob_nq_19_0 on_nq_21_0 ob_nq_21_0 mc ms p e s m below meth c hr hnm v4_139 cl_139 sl_139 C_139 S_139 h hC hS
    · replace h := it_f c92 h
      refine j_aload_n d_Mo_buildSimple_145 rfl 1 rfl ?_
      refine j_get ig_Mo rfl 0 rfl 5 (by decide) rfl m_1118 rfl d_Mo_buildSimple_146 ?_
      refine j_iload d_Mo_buildSimple_149 0 rfl ?_
      replace h := bd_s h
      obtain ⟨_, k93, h⟩ := h
      refine j_callV (n := 1) (As := [.int v4_139]) (rest := []) (wr := [(h0, .inr (9, moF am known_h0 thrown_h0 wrong_h0 lastEnd_h0 at_h0 bad_h0 levels_h0 least_h0 found_h0)), ((am 6), .inr (8, [.ref a_all_m6, .int size_m6])), (a_all_m6, .inl (cI, n_a_all_m6, .inl b_a_all_m6)), ((am 24), .inr (8, [.ref a_all_m24, .int size_m24])), (a_all_m24, .inl (cI, n_a_all_m24, .inl b_a_all_m24)), ((am 25), .inr (8, [.ref a_all_m25, .int size_m25])), (a_all_m25, .inl (cI, n_a_all_m25, .inl b_a_all_m25)), ((am 26), .inr (8, [.ref a_all_m26, .int size_m26])), (a_all_m26, .inl (cI, n_a_all_m26, .inl b_a_all_m26)), ((am 27), .inr (8, [.ref a_all_m27, .int size_m27])), (a_all_m27, .inl (cI, n_a_all_m27, .inl b_a_all_m27)), ((am 28), .inr (8, [.ref a_all_m28, .int size_m28])), (a_all_m28, .inl (cI, n_a_all_m28, .inl b_a_all_m28)), ((am 29), .inr (8, [.ref a_all_m29, .int size_m29])), (a_all_m29, .inl (cI, n_a_all_m29, .inl b_a_all_m29)), ((am 30), .inr (8, [.ref a_all_m30, .int size_m30])), (a_all_m30, .inl (cI, n_a_all_m30, .inl b_a_all_m30)), ((am 31), .inr (8, [.ref a_all_m31, .int size_m31])), (a_all_m31, .inl (cI, n_a_all_m31, .inl b_a_all_m31)), ((am 33), .inr (8, [.ref a_all_m33, .int size_m33])), (a_all_m33, .inl (cI, n_a_all_m33, .inl b_a_all_m33))]) (c_Nm_at l D cI cB cJ cS (am 5) a_all_m5 v4_139 size_m5 n_a_all_m5 b_a_all_m5  k93) k_Mo_214 (by decide) ⟨Nat.le_of_ble_eq_true rfl, Nat.le_of_ble_eq_true rfl⟩ rfl 0 rfl [21, 22] [0, 1, 2, 3, 4, 5, 6, 7, 8, 9, 10, 11, 12, 13, 14, 15, 16, 17, 18, 19, 20] rfl (by decide +kernel) rfl (by decide +kernel) (by decide +kernel) rfl rfl (Nat.le_of_ble_eq_true rfl) d_Mo_buildSimple_151 ⟨show cl_139 + 0 ≤ mc by omega, show sl_139 + 0 ≤ ms by omega⟩ (fun v w hq => ?_)
      obtain ⟨rfl, rfl⟩ := hq
      refine j_norm (pc' := 154) (st' := [.int (b_a_all_m5 (Int32.toNatClampNeg v4_139))]) (ws' := [(h0, .inr (9, moF am known_h0 thrown_h0 wrong_h0 lastEnd_h0 at_h0 bad_h0 levels_h0 least_h0 found_h0)), ((am 6), .inr (8, [.ref a_all_m6, .int size_m6])), (a_all_m6, .inl (cI, n_a_all_m6, .inl b_a_all_m6)), ((am 24), .inr (8, [.ref a_all_m24, .int size_m24])), (a_all_m24, .inl (cI, n_a_all_m24, .inl b_a_all_m24)), ((am 25), .inr (8, [.ref a_all_m25, .int size_m25])), (a_all_m25, .inl (cI, n_a_all_m25, .inl b_a_all_m25)), ((am 26), .inr (8, [.ref a_all_m26, .int size_m26])), (a_all_m26, .inl (cI, n_a_all_m26, .inl b_a_all_m26)), ((am 27), .inr (8, [.ref a_all_m27, .int size_m27])), (a_all_m27, .inl (cI, n_a_all_m27, .inl b_a_all_m27)), ((am 28), .inr (8, [.ref a_all_m28, .int size_m28])), (a_all_m28, .inl (cI, n_a_all_m28, .inl b_a_all_m28)), ((am 29), .inr (8, [.ref a_all_m29, .int size_m29])), (a_all_m29, .inl (cI, n_a_all_m29, .inl b_a_all_m29)), ((am 30), .inr (8, [.ref a_all_m30, .int size_m30])), (a_all_m30, .inl (cI, n_a_all_m30, .inl b_a_all_m30)), ((am 31), .inr (8, [.ref a_all_m31, .int size_m31])), (a_all_m31, .inl (cI, n_a_all_m31, .inl b_a_all_m31)), ((am 33), .inr (8, [.ref a_all_m33, .int size_m33])), (a_all_m33, .inl (cI, n_a_all_m33, .inl b_a_all_m33)), ((am 5), .inr (8, [.ref a_all_m5, .int size_m5])), (a_all_m5, .inl (cI, n_a_all_m5, .inl b_a_all_m5))]) (cl' := cl_139) (sl' := sl_139) rfl rfl rfl rfl rfl rfl ?_
      refine j_bipush (v := 56) d_Mo_buildSimple_154 (by decide) ?_
      refine j_icmp_eq (tgt := 207) d_Mo_buildSimple_156 (by decide) (fun c94 => ?_) (fun c94 => ?_)
      · replace h := it_t c94 h
        refine j_sub (w := [(h0, .inr (9, moF am known_h0 thrown_h0 wrong_h0 lastEnd_h0 at_h0 bad_h0 levels_h0 least_h0 found_h0)), ((am 6), .inr (8, [.ref a_all_m6, .int size_m6])), (a_all_m6, .inl (cI, n_a_all_m6, .inl b_a_all_m6)), ((am 24), .inr (8, [.ref a_all_m24, .int size_m24])), (a_all_m24, .inl (cI, n_a_all_m24, .inl b_a_all_m24)), ((am 25), .inr (8, [.ref a_all_m25, .int size_m25])), (a_all_m25, .inl (cI, n_a_all_m25, .inl b_a_all_m25)), ((am 26), .inr (8, [.ref a_all_m26, .int size_m26])), (a_all_m26, .inl (cI, n_a_all_m26, .inl b_a_all_m26)), ((am 27), .inr (8, [.ref a_all_m27, .int size_m27])), (a_all_m27, .inl (cI, n_a_all_m27, .inl b_a_all_m27)), ((am 28), .inr (8, [.ref a_all_m28, .int size_m28])), (a_all_m28, .inl (cI, n_a_all_m28, .inl b_a_all_m28)), ((am 29), .inr (8, [.ref a_all_m29, .int size_m29])), (a_all_m29, .inl (cI, n_a_all_m29, .inl b_a_all_m29)), ((am 30), .inr (8, [.ref a_all_m30, .int size_m30])), (a_all_m30, .inl (cI, n_a_all_m30, .inl b_a_all_m30)), ((am 31), .inr (8, [.ref a_all_m31, .int size_m31])), (a_all_m31, .inl (cI, n_a_all_m31, .inl b_a_all_m31)), ((am 33), .inr (8, [.ref a_all_m33, .int size_m33])), (a_all_m33, .inl (cI, n_a_all_m33, .inl b_a_all_m33)), ((am 5), .inr (8, [.ref a_all_m5, .int size_m5])), (a_all_m5, .inl (cI, n_a_all_m5, .inl b_a_all_m5))]) (lv' := [(4, .int v4_139), (0, .ref h0), (1, .int p1), (2, .int p2), (3, .int p3)]) [0, 1, 2, 3, 4, 5, 6, 7, 8, 9, 10, 11, 12, 13, 14, 15, 16, 17, 18, 19, 20, 21, 22] rfl (by decide +kernel) [0, 1, 2, 3, 4] rfl ?_
        exact L_Mo_buildSimple_207 l D cI cB cJ cS h0 am a_all_m5 a_all_m6 a_all_m24 a_all_m25 a_all_m26 a_all_m27 a_all_m28 a_all_m29 a_all_m30 a_all_m31 a_all_m33 p1 p2 p3 known_h0 thrown_h0 wrong_h0 lastEnd_h0 at_h0 bad_h0 levels_h0 least_h0 found_h0 size_m5 n_a_all_m5 b_a_all_m5 size_m6 n_a_all_m6 b_a_all_m6 size_m24 n_a_all_m24 b_a_all_m24 size_m25 n_a_all_m25 b_a_all_m25 size_m26 n_a_all_m26 b_a_all_m26 size_m27 n_a_all_m27 b_a_all_m27 size_m28 n_a_all_m28 b_a_all_m28 size_m29 n_a_all_m29 b_a_all_m29 size_m30 n_a_all_m30 b_a_all_m30 size_m31 n_a_all_m31 b_a_all_m31 size_m33 n_a_all_m33 b_a_all_m33 o_5_1 o_7_1 o_9_1 o_11_1 o_13_1 o_15_1 o_17_1 o_19_1 o_21_1 on_nq_5_0 ob_nq_5_0 on_nq_7_0 ob_nq_7_0 on_nq_9_0 ob_nq_9_0 on_nq_11_0 ob_nq_11_0 on_nq_13_0 ob_nq_13_0 on_nq_15_0 ob_nq_15_0 on_nq_17_0 ob_nq_17_0 on_nq_19_0 ob_nq_19_0 on_nq_21_0 ob_nq_21_0 mc ms p e s m below meth c hr hnm v4_139 cl_139 sl_139 C_139 S_139 h hC hS
      · replace h := it_f c94 h
        refine j_aload_n d_Mo_buildSimple_159 rfl 1 rfl ?_
        refine j_get ig_Mo rfl 0 rfl 5 (by decide) rfl m_1118 rfl d_Mo_buildSimple_160 ?_
        refine j_iload d_Mo_buildSimple_163 0 rfl ?_
        replace h := bd_s h
        obtain ⟨_, k95, h⟩ := h
        refine j_callV (n := 1) (As := [.int v4_139]) (rest := []) (wr := [(h0, .inr (9, moF am known_h0 thrown_h0 wrong_h0 lastEnd_h0 at_h0 bad_h0 levels_h0 least_h0 found_h0)), ((am 6), .inr (8, [.ref a_all_m6, .int size_m6])), (a_all_m6, .inl (cI, n_a_all_m6, .inl b_a_all_m6)), ((am 24), .inr (8, [.ref a_all_m24, .int size_m24])), (a_all_m24, .inl (cI, n_a_all_m24, .inl b_a_all_m24)), ((am 25), .inr (8, [.ref a_all_m25, .int size_m25])), (a_all_m25, .inl (cI, n_a_all_m25, .inl b_a_all_m25)), ((am 26), .inr (8, [.ref a_all_m26, .int size_m26])), (a_all_m26, .inl (cI, n_a_all_m26, .inl b_a_all_m26)), ((am 27), .inr (8, [.ref a_all_m27, .int size_m27])), (a_all_m27, .inl (cI, n_a_all_m27, .inl b_a_all_m27)), ((am 28), .inr (8, [.ref a_all_m28, .int size_m28])), (a_all_m28, .inl (cI, n_a_all_m28, .inl b_a_all_m28)), ((am 29), .inr (8, [.ref a_all_m29, .int size_m29])), (a_all_m29, .inl (cI, n_a_all_m29, .inl b_a_all_m29)), ((am 30), .inr (8, [.ref a_all_m30, .int size_m30])), (a_all_m30, .inl (cI, n_a_all_m30, .inl b_a_all_m30)), ((am 31), .inr (8, [.ref a_all_m31, .int size_m31])), (a_all_m31, .inl (cI, n_a_all_m31, .inl b_a_all_m31)), ((am 33), .inr (8, [.ref a_all_m33, .int size_m33])), (a_all_m33, .inl (cI, n_a_all_m33, .inl b_a_all_m33))]) (c_Nm_at l D cI cB cJ cS (am 5) a_all_m5 v4_139 size_m5 n_a_all_m5 b_a_all_m5  k95) k_Mo_214 (by decide) ⟨Nat.le_of_ble_eq_true rfl, Nat.le_of_ble_eq_true rfl⟩ rfl 0 rfl [21, 22] [0, 1, 2, 3, 4, 5, 6, 7, 8, 9, 10, 11, 12, 13, 14, 15, 16, 17, 18, 19, 20] rfl (by decide +kernel) rfl (by decide +kernel) (by decide +kernel) rfl rfl (Nat.le_of_ble_eq_true rfl) d_Mo_buildSimple_165 ⟨show cl_139 + 0 ≤ mc by omega, show sl_139 + 0 ≤ ms by omega⟩ (fun v w hq => ?_)
        obtain ⟨rfl, rfl⟩ := hq
        refine j_norm (pc' := 168) (st' := [.int (b_a_all_m5 (Int32.toNatClampNeg v4_139))]) (ws' := [(h0, .inr (9, moF am known_h0 thrown_h0 wrong_h0 lastEnd_h0 at_h0 bad_h0 levels_h0 least_h0 found_h0)), ((am 6), .inr (8, [.ref a_all_m6, .int size_m6])), (a_all_m6, .inl (cI, n_a_all_m6, .inl b_a_all_m6)), ((am 24), .inr (8, [.ref a_all_m24, .int size_m24])), (a_all_m24, .inl (cI, n_a_all_m24, .inl b_a_all_m24)), ((am 25), .inr (8, [.ref a_all_m25, .int size_m25])), (a_all_m25, .inl (cI, n_a_all_m25, .inl b_a_all_m25)), ((am 26), .inr (8, [.ref a_all_m26, .int size_m26])), (a_all_m26, .inl (cI, n_a_all_m26, .inl b_a_all_m26)), ((am 27), .inr (8, [.ref a_all_m27, .int size_m27])), (a_all_m27, .inl (cI, n_a_all_m27, .inl b_a_all_m27)), ((am 28), .inr (8, [.ref a_all_m28, .int size_m28])), (a_all_m28, .inl (cI, n_a_all_m28, .inl b_a_all_m28)), ((am 29), .inr (8, [.ref a_all_m29, .int size_m29])), (a_all_m29, .inl (cI, n_a_all_m29, .inl b_a_all_m29)), ((am 30), .inr (8, [.ref a_all_m30, .int size_m30])), (a_all_m30, .inl (cI, n_a_all_m30, .inl b_a_all_m30)), ((am 31), .inr (8, [.ref a_all_m31, .int size_m31])), (a_all_m31, .inl (cI, n_a_all_m31, .inl b_a_all_m31)), ((am 33), .inr (8, [.ref a_all_m33, .int size_m33])), (a_all_m33, .inl (cI, n_a_all_m33, .inl b_a_all_m33)), ((am 5), .inr (8, [.ref a_all_m5, .int size_m5])), (a_all_m5, .inl (cI, n_a_all_m5, .inl b_a_all_m5))]) (cl' := cl_139) (sl' := sl_139) rfl rfl rfl rfl rfl rfl ?_
        refine j_bipush (v := 50) d_Mo_buildSimple_168 (by decide) ?_
        refine j_icmp_eq (tgt := 187) d_Mo_buildSimple_170 (by decide) (fun c96 => ?_) (fun c96 => ?_)
        · replace h := it_t c96 h
          refine j_aload_n d_Mo_buildSimple_187 rfl 1 rfl ?_
          refine j_iload d_Mo_buildSimple_188 0 rfl ?_
          replace h := bd_s h
          obtain ⟨r97, k98, h⟩ := h
          refine j_callV (n := 1) (As := [.int v4_139]) (rest := []) (wr := [((am 6), .inr (8, [.ref a_all_m6, .int size_m6])), (a_all_m6, .inl (cI, n_a_all_m6, .inl b_a_all_m6)), ((am 24), .inr (8, [.ref a_all_m24, .int size_m24])), (a_all_m24, .inl (cI, n_a_all_m24, .inl b_a_all_m24)), ((am 25), .inr (8, [.ref a_all_m25, .int size_m25])), (a_all_m25, .inl (cI, n_a_all_m25, .inl b_a_all_m25)), ((am 26), .inr (8, [.ref a_all_m26, .int size_m26])), (a_all_m26, .inl (cI, n_a_all_m26, .inl b_a_all_m26)), ((am 27), .inr (8, [.ref a_all_m27, .int size_m27])), (a_all_m27, .inl (cI, n_a_all_m27, .inl b_a_all_m27)), ((am 28), .inr (8, [.ref a_all_m28, .int size_m28])), (a_all_m28, .inl (cI, n_a_all_m28, .inl b_a_all_m28)), ((am 29), .inr (8, [.ref a_all_m29, .int size_m29])), (a_all_m29, .inl (cI, n_a_all_m29, .inl b_a_all_m29)), ((am 30), .inr (8, [.ref a_all_m30, .int size_m30])), (a_all_m30, .inl (cI, n_a_all_m30, .inl b_a_all_m30)), ((am 31), .inr (8, [.ref a_all_m31, .int size_m31])), (a_all_m31, .inl (cI, n_a_all_m31, .inl b_a_all_m31)), ((am 33), .inr (8, [.ref a_all_m33, .int size_m33])), (a_all_m33, .inl (cI, n_a_all_m33, .inl b_a_all_m33))]) (c_Mo_closing l D cI cB cJ cS h0 am a_all_m5 v4_139 known_h0 thrown_h0 wrong_h0 lastEnd_h0 at_h0 bad_h0 levels_h0 least_h0 found_h0 size_m5 n_a_all_m5 b_a_all_m5  r97 k98) k_Mo_350 (by decide) ⟨Nat.le_of_ble_eq_true rfl, Nat.le_of_ble_eq_true rfl⟩ rfl 0 rfl [0, 21, 22] [1, 2, 3, 4, 5, 6, 7, 8, 9, 10, 11, 12, 13, 14, 15, 16, 17, 18, 19, 20] rfl (by decide +kernel) rfl (by decide +kernel) (by decide +kernel) rfl rfl (Nat.le_of_ble_eq_true rfl) d_Mo_buildSimple_190 ⟨show cl_139 + 0 ≤ mc by omega, show sl_139 + 0 ≤ ms by omega⟩ (fun v w hq => ?_)
          obtain ⟨rfl, rfl⟩ := hq
          refine j_norm (pc' := 193) (st' := [.int r97]) (ws' := [((am 6), .inr (8, [.ref a_all_m6, .int size_m6])), (a_all_m6, .inl (cI, n_a_all_m6, .inl b_a_all_m6)), ((am 24), .inr (8, [.ref a_all_m24, .int size_m24])), (a_all_m24, .inl (cI, n_a_all_m24, .inl b_a_all_m24)), ((am 25), .inr (8, [.ref a_all_m25, .int size_m25])), (a_all_m25, .inl (cI, n_a_all_m25, .inl b_a_all_m25)), ((am 26), .inr (8, [.ref a_all_m26, .int size_m26])), (a_all_m26, .inl (cI, n_a_all_m26, .inl b_a_all_m26)), ((am 27), .inr (8, [.ref a_all_m27, .int size_m27])), (a_all_m27, .inl (cI, n_a_all_m27, .inl b_a_all_m27)), ((am 28), .inr (8, [.ref a_all_m28, .int size_m28])), (a_all_m28, .inl (cI, n_a_all_m28, .inl b_a_all_m28)), ((am 29), .inr (8, [.ref a_all_m29, .int size_m29])), (a_all_m29, .inl (cI, n_a_all_m29, .inl b_a_all_m29)), ((am 30), .inr (8, [.ref a_all_m30, .int size_m30])), (a_all_m30, .inl (cI, n_a_all_m30, .inl b_a_all_m30)), ((am 31), .inr (8, [.ref a_all_m31, .int size_m31])), (a_all_m31, .inl (cI, n_a_all_m31, .inl b_a_all_m31)), ((am 33), .inr (8, [.ref a_all_m33, .int size_m33])), (a_all_m33, .inl (cI, n_a_all_m33, .inl b_a_all_m33)), (h0, .inr (9, moF am known_h0 thrown_h0 wrong_h0 lastEnd_h0 at_h0 bad_h0 levels_h0 least_h0 found_h0)), ((am 5), .inr (8, [.ref a_all_m5, .int size_m5])), (a_all_m5, .inl (cI, n_a_all_m5, .inl b_a_all_m5))]) (cl' := cl_139) (sl' := sl_139) rfl rfl rfl rfl rfl rfl ?_
          refine j_iconst (v := 1) d_Mo_buildSimple_193 (by decide) ?_
          refine j_iadd d_Mo_buildSimple_194 ?_
          refine j_goto (tgt := 202) d_Mo_buildSimple_195 (by decide) ?_
          refine j_istore (lv' := [(4, .int (r97 + 1)), (0, .ref h0), (1, .int p1), (2, .int p2), (3, .int p3)]) d_Mo_buildSimple_202 (by decide) rfl ?_
          refine j_goto (tgt := 139) d_Mo_buildSimple_204 (by decide) ?_
          refine j_sub (w := [(h0, .inr (9, moF am known_h0 thrown_h0 wrong_h0 lastEnd_h0 at_h0 bad_h0 levels_h0 least_h0 found_h0)), ((am 6), .inr (8, [.ref a_all_m6, .int size_m6])), (a_all_m6, .inl (cI, n_a_all_m6, .inl b_a_all_m6)), ((am 24), .inr (8, [.ref a_all_m24, .int size_m24])), (a_all_m24, .inl (cI, n_a_all_m24, .inl b_a_all_m24)), ((am 25), .inr (8, [.ref a_all_m25, .int size_m25])), (a_all_m25, .inl (cI, n_a_all_m25, .inl b_a_all_m25)), ((am 26), .inr (8, [.ref a_all_m26, .int size_m26])), (a_all_m26, .inl (cI, n_a_all_m26, .inl b_a_all_m26)), ((am 27), .inr (8, [.ref a_all_m27, .int size_m27])), (a_all_m27, .inl (cI, n_a_all_m27, .inl b_a_all_m27)), ((am 28), .inr (8, [.ref a_all_m28, .int size_m28])), (a_all_m28, .inl (cI, n_a_all_m28, .inl b_a_all_m28)), ((am 29), .inr (8, [.ref a_all_m29, .int size_m29])), (a_all_m29, .inl (cI, n_a_all_m29, .inl b_a_all_m29)), ((am 30), .inr (8, [.ref a_all_m30, .int size_m30])), (a_all_m30, .inl (cI, n_a_all_m30, .inl b_a_all_m30)), ((am 31), .inr (8, [.ref a_all_m31, .int size_m31])), (a_all_m31, .inl (cI, n_a_all_m31, .inl b_a_all_m31)), ((am 33), .inr (8, [.ref a_all_m33, .int size_m33])), (a_all_m33, .inl (cI, n_a_all_m33, .inl b_a_all_m33)), ((am 5), .inr (8, [.ref a_all_m5, .int size_m5])), (a_all_m5, .inl (cI, n_a_all_m5, .inl b_a_all_m5))]) (lv' := [(4, .int (r97 + 1)), (0, .ref h0), (1, .int p1), (2, .int p2), (3, .int p3)]) [20, 0, 1, 2, 3, 4, 5, 6, 7, 8, 9, 10, 11, 12, 13, 14, 15, 16, 17, 18, 19, 21, 22] rfl (by decide +kernel) [0, 1, 2, 3, 4] rfl ?_
          exact ih_139 (r97 + 1) cl_139 sl_139 C_139 S_139 h hC hS
        · replace h := it_f c96 h
          refine j_aload_n d_Mo_buildSimple_173 rfl 1 rfl ?_
          refine j_get ig_Mo rfl 0 rfl 5 (by decide) rfl m_1118 rfl d_Mo_buildSimple_174 ?_
          refine j_iload d_Mo_buildSimple_177 0 rfl ?_
          replace h := bd_s h
          obtain ⟨_, k99, h⟩ := h
          refine j_callV (n := 1) (As := [.int v4_139]) (rest := []) (wr := [(h0, .inr (9, moF am known_h0 thrown_h0 wrong_h0 lastEnd_h0 at_h0 bad_h0 levels_h0 least_h0 found_h0)), ((am 6), .inr (8, [.ref a_all_m6, .int size_m6])), (a_all_m6, .inl (cI, n_a_all_m6, .inl b_a_all_m6)), ((am 24), .inr (8, [.ref a_all_m24, .int size_m24])), (a_all_m24, .inl (cI, n_a_all_m24, .inl b_a_all_m24)), ((am 25), .inr (8, [.ref a_all_m25, .int size_m25])), (a_all_m25, .inl (cI, n_a_all_m25, .inl b_a_all_m25)), ((am 26), .inr (8, [.ref a_all_m26, .int size_m26])), (a_all_m26, .inl (cI, n_a_all_m26, .inl b_a_all_m26)), ((am 27), .inr (8, [.ref a_all_m27, .int size_m27])), (a_all_m27, .inl (cI, n_a_all_m27, .inl b_a_all_m27)), ((am 28), .inr (8, [.ref a_all_m28, .int size_m28])), (a_all_m28, .inl (cI, n_a_all_m28, .inl b_a_all_m28)), ((am 29), .inr (8, [.ref a_all_m29, .int size_m29])), (a_all_m29, .inl (cI, n_a_all_m29, .inl b_a_all_m29)), ((am 30), .inr (8, [.ref a_all_m30, .int size_m30])), (a_all_m30, .inl (cI, n_a_all_m30, .inl b_a_all_m30)), ((am 31), .inr (8, [.ref a_all_m31, .int size_m31])), (a_all_m31, .inl (cI, n_a_all_m31, .inl b_a_all_m31)), ((am 33), .inr (8, [.ref a_all_m33, .int size_m33])), (a_all_m33, .inl (cI, n_a_all_m33, .inl b_a_all_m33))]) (c_Nm_at l D cI cB cJ cS (am 5) a_all_m5 v4_139 size_m5 n_a_all_m5 b_a_all_m5  k99) k_Mo_214 (by decide) ⟨Nat.le_of_ble_eq_true rfl, Nat.le_of_ble_eq_true rfl⟩ rfl 0 rfl [21, 22] [0, 1, 2, 3, 4, 5, 6, 7, 8, 9, 10, 11, 12, 13, 14, 15, 16, 17, 18, 19, 20] rfl (by decide +kernel) rfl (by decide +kernel) (by decide +kernel) rfl rfl (Nat.le_of_ble_eq_true rfl) d_Mo_buildSimple_179 ⟨show cl_139 + 0 ≤ mc by omega, show sl_139 + 0 ≤ ms by omega⟩ (fun v w hq => ?_)
          obtain ⟨rfl, rfl⟩ := hq
          refine j_norm (pc' := 182) (st' := [.int (b_a_all_m5 (Int32.toNatClampNeg v4_139))]) (ws' := [(h0, .inr (9, moF am known_h0 thrown_h0 wrong_h0 lastEnd_h0 at_h0 bad_h0 levels_h0 least_h0 found_h0)), ((am 6), .inr (8, [.ref a_all_m6, .int size_m6])), (a_all_m6, .inl (cI, n_a_all_m6, .inl b_a_all_m6)), ((am 24), .inr (8, [.ref a_all_m24, .int size_m24])), (a_all_m24, .inl (cI, n_a_all_m24, .inl b_a_all_m24)), ((am 25), .inr (8, [.ref a_all_m25, .int size_m25])), (a_all_m25, .inl (cI, n_a_all_m25, .inl b_a_all_m25)), ((am 26), .inr (8, [.ref a_all_m26, .int size_m26])), (a_all_m26, .inl (cI, n_a_all_m26, .inl b_a_all_m26)), ((am 27), .inr (8, [.ref a_all_m27, .int size_m27])), (a_all_m27, .inl (cI, n_a_all_m27, .inl b_a_all_m27)), ((am 28), .inr (8, [.ref a_all_m28, .int size_m28])), (a_all_m28, .inl (cI, n_a_all_m28, .inl b_a_all_m28)), ((am 29), .inr (8, [.ref a_all_m29, .int size_m29])), (a_all_m29, .inl (cI, n_a_all_m29, .inl b_a_all_m29)), ((am 30), .inr (8, [.ref a_all_m30, .int size_m30])), (a_all_m30, .inl (cI, n_a_all_m30, .inl b_a_all_m30)), ((am 31), .inr (8, [.ref a_all_m31, .int size_m31])), (a_all_m31, .inl (cI, n_a_all_m31, .inl b_a_all_m31)), ((am 33), .inr (8, [.ref a_all_m33, .int size_m33])), (a_all_m33, .inl (cI, n_a_all_m33, .inl b_a_all_m33)), ((am 5), .inr (8, [.ref a_all_m5, .int size_m5])), (a_all_m5, .inl (cI, n_a_all_m5, .inl b_a_all_m5))]) (cl' := cl_139) (sl' := sl_139) rfl rfl rfl rfl rfl rfl ?_
          refine j_bipush (v := 52) d_Mo_buildSimple_182 (by decide) ?_
          refine j_icmp_ne (tgt := 198) d_Mo_buildSimple_184 (by decide) (fun c100 => ?_) (fun c100 => ?_)
          · replace h := it_f c100 h
            refine j_iload d_Mo_buildSimple_198 0 rfl ?_
            refine j_iconst (v := 1) d_Mo_buildSimple_200 (by decide) ?_
            refine j_iadd d_Mo_buildSimple_201 ?_
            refine j_istore (lv' := [(4, .int (v4_139 + 1)), (0, .ref h0), (1, .int p1), (2, .int p2), (3, .int p3)]) d_Mo_buildSimple_202 (by decide) rfl ?_
            refine j_goto (tgt := 139) d_Mo_buildSimple_204 (by decide) ?_
            refine j_sub (w := [(h0, .inr (9, moF am known_h0 thrown_h0 wrong_h0 lastEnd_h0 at_h0 bad_h0 levels_h0 least_h0 found_h0)), ((am 6), .inr (8, [.ref a_all_m6, .int size_m6])), (a_all_m6, .inl (cI, n_a_all_m6, .inl b_a_all_m6)), ((am 24), .inr (8, [.ref a_all_m24, .int size_m24])), (a_all_m24, .inl (cI, n_a_all_m24, .inl b_a_all_m24)), ((am 25), .inr (8, [.ref a_all_m25, .int size_m25])), (a_all_m25, .inl (cI, n_a_all_m25, .inl b_a_all_m25)), ((am 26), .inr (8, [.ref a_all_m26, .int size_m26])), (a_all_m26, .inl (cI, n_a_all_m26, .inl b_a_all_m26)), ((am 27), .inr (8, [.ref a_all_m27, .int size_m27])), (a_all_m27, .inl (cI, n_a_all_m27, .inl b_a_all_m27)), ((am 28), .inr (8, [.ref a_all_m28, .int size_m28])), (a_all_m28, .inl (cI, n_a_all_m28, .inl b_a_all_m28)), ((am 29), .inr (8, [.ref a_all_m29, .int size_m29])), (a_all_m29, .inl (cI, n_a_all_m29, .inl b_a_all_m29)), ((am 30), .inr (8, [.ref a_all_m30, .int size_m30])), (a_all_m30, .inl (cI, n_a_all_m30, .inl b_a_all_m30)), ((am 31), .inr (8, [.ref a_all_m31, .int size_m31])), (a_all_m31, .inl (cI, n_a_all_m31, .inl b_a_all_m31)), ((am 33), .inr (8, [.ref a_all_m33, .int size_m33])), (a_all_m33, .inl (cI, n_a_all_m33, .inl b_a_all_m33)), ((am 5), .inr (8, [.ref a_all_m5, .int size_m5])), (a_all_m5, .inl (cI, n_a_all_m5, .inl b_a_all_m5))]) (lv' := [(4, .int (v4_139 + 1)), (0, .ref h0), (1, .int p1), (2, .int p2), (3, .int p3)]) [0, 1, 2, 3, 4, 5, 6, 7, 8, 9, 10, 11, 12, 13, 14, 15, 16, 17, 18, 19, 20, 21, 22] rfl (by decide +kernel) [0, 1, 2, 3, 4] rfl ?_
            exact ih_139 (v4_139 + 1) cl_139 sl_139 C_139 S_139 h hC hS
          · replace h := it_t c100 h
            refine j_aload_n d_Mo_buildSimple_187 rfl 1 rfl ?_
            refine j_iload d_Mo_buildSimple_188 0 rfl ?_
            replace h := bd_s h
            obtain ⟨r101, k102, h⟩ := h
            refine j_callV (n := 1) (As := [.int v4_139]) (rest := []) (wr := [((am 6), .inr (8, [.ref a_all_m6, .int size_m6])), (a_all_m6, .inl (cI, n_a_all_m6, .inl b_a_all_m6)), ((am 24), .inr (8, [.ref a_all_m24, .int size_m24])), (a_all_m24, .inl (cI, n_a_all_m24, .inl b_a_all_m24)), ((am 25), .inr (8, [.ref a_all_m25, .int size_m25])), (a_all_m25, .inl (cI, n_a_all_m25, .inl b_a_all_m25)), ((am 26), .inr (8, [.ref a_all_m26, .int size_m26])), (a_all_m26, .inl (cI, n_a_all_m26, .inl b_a_all_m26)), ((am 27), .inr (8, [.ref a_all_m27, .int size_m27])), (a_all_m27, .inl (cI, n_a_all_m27, .inl b_a_all_m27)), ((am 28), .inr (8, [.ref a_all_m28, .int size_m28])), (a_all_m28, .inl (cI, n_a_all_m28, .inl b_a_all_m28)), ((am 29), .inr (8, [.ref a_all_m29, .int size_m29])), (a_all_m29, .inl (cI, n_a_all_m29, .inl b_a_all_m29)), ((am 30), .inr (8, [.ref a_all_m30, .int size_m30])), (a_all_m30, .inl (cI, n_a_all_m30, .inl b_a_all_m30)), ((am 31), .inr (8, [.ref a_all_m31, .int size_m31])), (a_all_m31, .inl (cI, n_a_all_m31, .inl b_a_all_m31)), ((am 33), .inr (8, [.ref a_all_m33, .int size_m33])), (a_all_m33, .inl (cI, n_a_all_m33, .inl b_a_all_m33))]) (c_Mo_closing l D cI cB cJ cS h0 am a_all_m5 v4_139 known_h0 thrown_h0 wrong_h0 lastEnd_h0 at_h0 bad_h0 levels_h0 least_h0 found_h0 size_m5 n_a_all_m5 b_a_all_m5  r101 k102) k_Mo_350 (by decide) ⟨Nat.le_of_ble_eq_true rfl, Nat.le_of_ble_eq_true rfl⟩ rfl 0 rfl [0, 21, 22] [1, 2, 3, 4, 5, 6, 7, 8, 9, 10, 11, 12, 13, 14, 15, 16, 17, 18, 19, 20] rfl (by decide +kernel) rfl (by decide +kernel) (by decide +kernel) rfl rfl (Nat.le_of_ble_eq_true rfl) d_Mo_buildSimple_190 ⟨show cl_139 + 0 ≤ mc by omega, show sl_139 + 0 ≤ ms by omega⟩ (fun v w hq => ?_)
            obtain ⟨rfl, rfl⟩ := hq
            refine j_norm (pc' := 193) (st' := [.int r101]) (ws' := [((am 6), .inr (8, [.ref a_all_m6, .int size_m6])), (a_all_m6, .inl (cI, n_a_all_m6, .inl b_a_all_m6)), ((am 24), .inr (8, [.ref a_all_m24, .int size_m24])), (a_all_m24, .inl (cI, n_a_all_m24, .inl b_a_all_m24)), ((am 25), .inr (8, [.ref a_all_m25, .int size_m25])), (a_all_m25, .inl (cI, n_a_all_m25, .inl b_a_all_m25)), ((am 26), .inr (8, [.ref a_all_m26, .int size_m26])), (a_all_m26, .inl (cI, n_a_all_m26, .inl b_a_all_m26)), ((am 27), .inr (8, [.ref a_all_m27, .int size_m27])), (a_all_m27, .inl (cI, n_a_all_m27, .inl b_a_all_m27)), ((am 28), .inr (8, [.ref a_all_m28, .int size_m28])), (a_all_m28, .inl (cI, n_a_all_m28, .inl b_a_all_m28)), ((am 29), .inr (8, [.ref a_all_m29, .int size_m29])), (a_all_m29, .inl (cI, n_a_all_m29, .inl b_a_all_m29)), ((am 30), .inr (8, [.ref a_all_m30, .int size_m30])), (a_all_m30, .inl (cI, n_a_all_m30, .inl b_a_all_m30)), ((am 31), .inr (8, [.ref a_all_m31, .int size_m31])), (a_all_m31, .inl (cI, n_a_all_m31, .inl b_a_all_m31)), ((am 33), .inr (8, [.ref a_all_m33, .int size_m33])), (a_all_m33, .inl (cI, n_a_all_m33, .inl b_a_all_m33)), (h0, .inr (9, moF am known_h0 thrown_h0 wrong_h0 lastEnd_h0 at_h0 bad_h0 levels_h0 least_h0 found_h0)), ((am 5), .inr (8, [.ref a_all_m5, .int size_m5])), (a_all_m5, .inl (cI, n_a_all_m5, .inl b_a_all_m5))]) (cl' := cl_139) (sl' := sl_139) rfl rfl rfl rfl rfl rfl ?_
            refine j_iconst (v := 1) d_Mo_buildSimple_193 (by decide) ?_
            refine j_iadd d_Mo_buildSimple_194 ?_
            refine j_goto (tgt := 202) d_Mo_buildSimple_195 (by decide) ?_
            refine j_istore (lv' := [(4, .int (r101 + 1)), (0, .ref h0), (1, .int p1), (2, .int p2), (3, .int p3)]) d_Mo_buildSimple_202 (by decide) rfl ?_
            refine j_goto (tgt := 139) d_Mo_buildSimple_204 (by decide) ?_
            refine j_sub (w := [(h0, .inr (9, moF am known_h0 thrown_h0 wrong_h0 lastEnd_h0 at_h0 bad_h0 levels_h0 least_h0 found_h0)), ((am 6), .inr (8, [.ref a_all_m6, .int size_m6])), (a_all_m6, .inl (cI, n_a_all_m6, .inl b_a_all_m6)), ((am 24), .inr (8, [.ref a_all_m24, .int size_m24])), (a_all_m24, .inl (cI, n_a_all_m24, .inl b_a_all_m24)), ((am 25), .inr (8, [.ref a_all_m25, .int size_m25])), (a_all_m25, .inl (cI, n_a_all_m25, .inl b_a_all_m25)), ((am 26), .inr (8, [.ref a_all_m26, .int size_m26])), (a_all_m26, .inl (cI, n_a_all_m26, .inl b_a_all_m26)), ((am 27), .inr (8, [.ref a_all_m27, .int size_m27])), (a_all_m27, .inl (cI, n_a_all_m27, .inl b_a_all_m27)), ((am 28), .inr (8, [.ref a_all_m28, .int size_m28])), (a_all_m28, .inl (cI, n_a_all_m28, .inl b_a_all_m28)), ((am 29), .inr (8, [.ref a_all_m29, .int size_m29])), (a_all_m29, .inl (cI, n_a_all_m29, .inl b_a_all_m29)), ((am 30), .inr (8, [.ref a_all_m30, .int size_m30])), (a_all_m30, .inl (cI, n_a_all_m30, .inl b_a_all_m30)), ((am 31), .inr (8, [.ref a_all_m31, .int size_m31])), (a_all_m31, .inl (cI, n_a_all_m31, .inl b_a_all_m31)), ((am 33), .inr (8, [.ref a_all_m33, .int size_m33])), (a_all_m33, .inl (cI, n_a_all_m33, .inl b_a_all_m33)), ((am 5), .inr (8, [.ref a_all_m5, .int size_m5])), (a_all_m5, .inl (cI, n_a_all_m5, .inl b_a_all_m5))]) (lv' := [(4, .int (r101 + 1)), (0, .ref h0), (1, .int p1), (2, .int p2), (3, .int p3)]) [20, 0, 1, 2, 3, 4, 5, 6, 7, 8, 9, 10, 11, 12, 13, 14, 15, 16, 17, 18, 19, 21, 22] rfl (by decide +kernel) [0, 1, 2, 3, 4] rfl ?_
            exact ih_139 (r101 + 1) cl_139 sl_139 C_139 S_139 h hC hS
set_option maxHeartbeats 4000000 in
set_option maxRecDepth 100000 in
theorem c_Mo_buildSimple (l : Launch) (D : va_G) (cI cB cJ cS : ClassId) (h0 : Nat) (am : Nat → Nat) (a_all_m5 : Nat) (a_all_m6 : Nat) (a_all_m24 : Nat) (a_all_m25 : Nat) (a_all_m26 : Nat) (a_all_m27 : Nat) (a_all_m28 : Nat) (a_all_m29 : Nat) (a_all_m30 : Nat) (a_all_m31 : Nat) (a_all_m33 : Nat) (p1 : Int32) (p2 : Int32) (p3 : Int32) (known_h0 : Int32) (thrown_h0 : Int32) (wrong_h0 : Int32) (lastEnd_h0 : Int32) (at_h0 : Int32) (bad_h0 : Int32) (levels_h0 : Int32) (least_h0 : Int32) (found_h0 : Int32) (size_m5 : Int32) (n_a_all_m5 : Nat) (b_a_all_m5 : Nat → Int32) (size_m6 : Int32) (n_a_all_m6 : Nat) (b_a_all_m6 : Nat → Int32) (size_m24 : Int32) (n_a_all_m24 : Nat) (b_a_all_m24 : Nat → Int32) (size_m25 : Int32) (n_a_all_m25 : Nat) (b_a_all_m25 : Nat → Int32) (size_m26 : Int32) (n_a_all_m26 : Nat) (b_a_all_m26 : Nat → Int32) (size_m27 : Int32) (n_a_all_m27 : Nat) (b_a_all_m27 : Nat → Int32) (size_m28 : Int32) (n_a_all_m28 : Nat) (b_a_all_m28 : Nat → Int32) (size_m29 : Int32) (n_a_all_m29 : Nat) (b_a_all_m29 : Nat → Int32) (size_m30 : Int32) (n_a_all_m30 : Nat) (b_a_all_m30 : Nat → Int32) (size_m31 : Int32) (n_a_all_m31 : Nat) (b_a_all_m31 : Nat → Int32) (size_m33 : Int32) (n_a_all_m33 : Nat) (b_a_all_m33 : Nat → Int32) (o_5_1 : Int32) (o_7_1 : Int32) (o_9_1 : Int32) (o_11_1 : Int32) (o_13_1 : Int32) (o_15_1 : Int32) (o_17_1 : Int32) (o_19_1 : Int32) (o_21_1 : Int32) (on_nq_5_0 : Nat) (ob_nq_5_0 : Nat → Int32) (on_nq_7_0 : Nat) (ob_nq_7_0 : Nat → Int32) (on_nq_9_0 : Nat) (ob_nq_9_0 : Nat → Int32) (on_nq_11_0 : Nat) (ob_nq_11_0 : Nat → Int32) (on_nq_13_0 : Nat) (ob_nq_13_0 : Nat → Int32) (on_nq_15_0 : Nat) (ob_nq_15_0 : Nat → Int32) (on_nq_17_0 : Nat) (ob_nq_17_0 : Nat → Int32) (on_nq_19_0 : Nat) (ob_nq_19_0 : Nat → Int32) (on_nq_21_0 : Nat) (ob_nq_21_0 : Nat → Int32) (mc ms : Nat) (h : F_Mo_buildSimple p1 p2 p3 known_h0 thrown_h0 wrong_h0 lastEnd_h0 at_h0 bad_h0 levels_h0 least_h0 found_h0 size_m5 n_a_all_m5 b_a_all_m5 size_m6 n_a_all_m6 b_a_all_m6 size_m24 n_a_all_m24 b_a_all_m24 size_m25 n_a_all_m25 b_a_all_m25 size_m26 n_a_all_m26 b_a_all_m26 size_m27 n_a_all_m27 b_a_all_m27 size_m28 n_a_all_m28 b_a_all_m28 size_m29 n_a_all_m29 b_a_all_m29 size_m30 n_a_all_m30 b_a_all_m30 size_m31 n_a_all_m31 b_a_all_m31 size_m33 n_a_all_m33 b_a_all_m33 = some ((o_5_1, o_7_1, o_9_1, o_11_1, o_13_1, o_15_1, o_17_1, o_19_1, o_21_1, on_nq_5_0, ob_nq_5_0, on_nq_7_0, ob_nq_7_0, on_nq_9_0, ob_nq_9_0, on_nq_11_0, ob_nq_11_0, on_nq_13_0, ob_nq_13_0, on_nq_15_0, ob_nq_15_0, on_nq_17_0, ob_nq_17_0, on_nq_19_0, ob_nq_19_0, on_nq_21_0, ob_nq_21_0), mc, ms)) : Ct l D (gT cI cB cJ cS) y_Mo_buildSimple prog_12_method_65_code 8 (Option.none : Option Jvm.ClassFile.FieldType) 4 97 mc ms [.ref h0, .int p1, .int p2, .int p3] [(h0, .inr (9, moF am known_h0 thrown_h0 wrong_h0 lastEnd_h0 at_h0 bad_h0 levels_h0 least_h0 found_h0)), ((am 5), .inr (8, [.ref a_all_m5, .int size_m5])), (a_all_m5, .inl (cI, n_a_all_m5, .inl b_a_all_m5)), ((am 6), .inr (8, [.ref a_all_m6, .int size_m6])), (a_all_m6, .inl (cI, n_a_all_m6, .inl b_a_all_m6)), ((am 24), .inr (8, [.ref a_all_m24, .int size_m24])), (a_all_m24, .inl (cI, n_a_all_m24, .inl b_a_all_m24)), ((am 25), .inr (8, [.ref a_all_m25, .int size_m25])), (a_all_m25, .inl (cI, n_a_all_m25, .inl b_a_all_m25)), ((am 26), .inr (8, [.ref a_all_m26, .int size_m26])), (a_all_m26, .inl (cI, n_a_all_m26, .inl b_a_all_m26)), ((am 27), .inr (8, [.ref a_all_m27, .int size_m27])), (a_all_m27, .inl (cI, n_a_all_m27, .inl b_a_all_m27)), ((am 28), .inr (8, [.ref a_all_m28, .int size_m28])), (a_all_m28, .inl (cI, n_a_all_m28, .inl b_a_all_m28)), ((am 29), .inr (8, [.ref a_all_m29, .int size_m29])), (a_all_m29, .inl (cI, n_a_all_m29, .inl b_a_all_m29)), ((am 30), .inr (8, [.ref a_all_m30, .int size_m30])), (a_all_m30, .inl (cI, n_a_all_m30, .inl b_a_all_m30)), ((am 31), .inr (8, [.ref a_all_m31, .int size_m31])), (a_all_m31, .inl (cI, n_a_all_m31, .inl b_a_all_m31)), ((am 33), .inr (8, [.ref a_all_m33, .int size_m33])), (a_all_m33, .inl (cI, n_a_all_m33, .inl b_a_all_m33))] (fun v w => ∃ nq_5_0 : Nat, ∃ nq_7_0 : Nat, ∃ nq_9_0 : Nat, ∃ nq_11_0 : Nat, ∃ nq_13_0 : Nat, ∃ nq_15_0 : Nat, ∃ nq_17_0 : Nat, ∃ nq_19_0 : Nat, ∃ nq_21_0 : Nat, v = none ∧ w = [(h0, .inr (9, moF am known_h0 thrown_h0 wrong_h0 lastEnd_h0 at_h0 bad_h0 levels_h0 least_h0 found_h0)), ((am 5), .inr (8, [.ref a_all_m5, .int size_m5])), (a_all_m5, .inl (cI, n_a_all_m5, .inl b_a_all_m5)), ((am 6), .inr (8, [.ref a_all_m6, .int size_m6])), (a_all_m6, .inl (cI, n_a_all_m6, .inl b_a_all_m6)), ((am 24), .inr (8, [.ref nq_5_0, .int o_5_1])), ((am 25), .inr (8, [.ref nq_7_0, .int o_7_1])), ((am 26), .inr (8, [.ref nq_9_0, .int o_9_1])), ((am 27), .inr (8, [.ref nq_11_0, .int o_11_1])), ((am 28), .inr (8, [.ref nq_13_0, .int o_13_1])), ((am 29), .inr (8, [.ref nq_15_0, .int o_15_1])), ((am 30), .inr (8, [.ref nq_17_0, .int o_17_1])), ((am 31), .inr (8, [.ref nq_19_0, .int o_19_1])), ((am 33), .inr (8, [.ref nq_21_0, .int o_21_1])), (nq_5_0, .inl (cI, on_nq_5_0, .inl ob_nq_5_0)), (nq_7_0, .inl (cI, on_nq_7_0, .inl ob_nq_7_0)), (nq_9_0, .inl (cI, on_nq_9_0, .inl ob_nq_9_0)), (nq_11_0, .inl (cI, on_nq_11_0, .inl ob_nq_11_0)), (nq_13_0, .inl (cI, on_nq_13_0, .inl ob_nq_13_0)), (nq_15_0, .inl (cI, on_nq_15_0, .inl ob_nq_15_0)), (nq_17_0, .inl (cI, on_nq_17_0, .inl ob_nq_17_0)), (nq_19_0, .inl (cI, on_nq_19_0, .inl ob_nq_19_0)), (nq_21_0, .inl (cI, on_nq_21_0, .inl ob_nq_21_0))]) := by
  refine Ct.mk (by decide) (Nat.le_of_ble_eq_true rfl) ?_
  intro p e s m below meth c hr hnm
  refine j_norm (pc' := 0) (lv' := [(0, .ref h0), (1, .int p1), (2, .int p2), (3, .int p3)]) (st' := []) (ws' := [(h0, .inr (9, moF am known_h0 thrown_h0 wrong_h0 lastEnd_h0 at_h0 bad_h0 levels_h0 least_h0 found_h0)), ((am 5), .inr (8, [.ref a_all_m5, .int size_m5])), (a_all_m5, .inl (cI, n_a_all_m5, .inl b_a_all_m5)), ((am 6), .inr (8, [.ref a_all_m6, .int size_m6])), (a_all_m6, .inl (cI, n_a_all_m6, .inl b_a_all_m6)), ((am 24), .inr (8, [.ref a_all_m24, .int size_m24])), (a_all_m24, .inl (cI, n_a_all_m24, .inl b_a_all_m24)), ((am 25), .inr (8, [.ref a_all_m25, .int size_m25])), (a_all_m25, .inl (cI, n_a_all_m25, .inl b_a_all_m25)), ((am 26), .inr (8, [.ref a_all_m26, .int size_m26])), (a_all_m26, .inl (cI, n_a_all_m26, .inl b_a_all_m26)), ((am 27), .inr (8, [.ref a_all_m27, .int size_m27])), (a_all_m27, .inl (cI, n_a_all_m27, .inl b_a_all_m27)), ((am 28), .inr (8, [.ref a_all_m28, .int size_m28])), (a_all_m28, .inl (cI, n_a_all_m28, .inl b_a_all_m28)), ((am 29), .inr (8, [.ref a_all_m29, .int size_m29])), (a_all_m29, .inl (cI, n_a_all_m29, .inl b_a_all_m29)), ((am 30), .inr (8, [.ref a_all_m30, .int size_m30])), (a_all_m30, .inl (cI, n_a_all_m30, .inl b_a_all_m30)), ((am 31), .inr (8, [.ref a_all_m31, .int size_m31])), (a_all_m31, .inl (cI, n_a_all_m31, .inl b_a_all_m31)), ((am 33), .inr (8, [.ref a_all_m33, .int size_m33])), (a_all_m33, .inl (cI, n_a_all_m33, .inl b_a_all_m33))]) (cl' := 0) (sl' := 0) rfl rfl rfl rfl rfl rfl ?_
  unfold F_Mo_buildSimple at h
  have hC : 0 + mc ≤ mc := by omega
  have hS : 0 + ms ≤ ms := by omega
  refine j_aload_n d_Mo_buildSimple_0 rfl 0 rfl ?_
  refine j_get ig_Mo rfl 0 rfl 5 (by decide) rfl m_1118 rfl d_Mo_buildSimple_1 ?_
  refine j_iload_n d_Mo_buildSimple_4 rfl 2 rfl ?_
  replace h := bd_s h
  obtain ⟨_, k103, h⟩ := h
  refine j_callV (n := 1) (As := [.int p2]) (rest := []) (wr := [(h0, .inr (9, moF am known_h0 thrown_h0 wrong_h0 lastEnd_h0 at_h0 bad_h0 levels_h0 least_h0 found_h0)), ((am 6), .inr (8, [.ref a_all_m6, .int size_m6])), (a_all_m6, .inl (cI, n_a_all_m6, .inl b_a_all_m6)), ((am 24), .inr (8, [.ref a_all_m24, .int size_m24])), (a_all_m24, .inl (cI, n_a_all_m24, .inl b_a_all_m24)), ((am 25), .inr (8, [.ref a_all_m25, .int size_m25])), (a_all_m25, .inl (cI, n_a_all_m25, .inl b_a_all_m25)), ((am 26), .inr (8, [.ref a_all_m26, .int size_m26])), (a_all_m26, .inl (cI, n_a_all_m26, .inl b_a_all_m26)), ((am 27), .inr (8, [.ref a_all_m27, .int size_m27])), (a_all_m27, .inl (cI, n_a_all_m27, .inl b_a_all_m27)), ((am 28), .inr (8, [.ref a_all_m28, .int size_m28])), (a_all_m28, .inl (cI, n_a_all_m28, .inl b_a_all_m28)), ((am 29), .inr (8, [.ref a_all_m29, .int size_m29])), (a_all_m29, .inl (cI, n_a_all_m29, .inl b_a_all_m29)), ((am 30), .inr (8, [.ref a_all_m30, .int size_m30])), (a_all_m30, .inl (cI, n_a_all_m30, .inl b_a_all_m30)), ((am 31), .inr (8, [.ref a_all_m31, .int size_m31])), (a_all_m31, .inl (cI, n_a_all_m31, .inl b_a_all_m31)), ((am 33), .inr (8, [.ref a_all_m33, .int size_m33])), (a_all_m33, .inl (cI, n_a_all_m33, .inl b_a_all_m33))]) (c_Nm_at l D cI cB cJ cS (am 5) a_all_m5 p2 size_m5 n_a_all_m5 b_a_all_m5  k103) k_Mo_214 (by decide) ⟨Nat.le_of_ble_eq_true rfl, Nat.le_of_ble_eq_true rfl⟩ rfl 0 rfl [1, 2] [0, 3, 4, 5, 6, 7, 8, 9, 10, 11, 12, 13, 14, 15, 16, 17, 18, 19, 20, 21, 22] rfl (by decide +kernel) rfl (by decide +kernel) (by decide +kernel) rfl rfl (Nat.le_of_ble_eq_true rfl) d_Mo_buildSimple_5 ⟨show 0 + 0 ≤ mc by omega, show 0 + 0 ≤ ms by omega⟩ (fun v w hq => ?_)
  obtain ⟨rfl, rfl⟩ := hq
  refine j_norm (pc' := 8) (st' := [.int (b_a_all_m5 (Int32.toNatClampNeg p2))]) (ws' := [(h0, .inr (9, moF am known_h0 thrown_h0 wrong_h0 lastEnd_h0 at_h0 bad_h0 levels_h0 least_h0 found_h0)), ((am 6), .inr (8, [.ref a_all_m6, .int size_m6])), (a_all_m6, .inl (cI, n_a_all_m6, .inl b_a_all_m6)), ((am 24), .inr (8, [.ref a_all_m24, .int size_m24])), (a_all_m24, .inl (cI, n_a_all_m24, .inl b_a_all_m24)), ((am 25), .inr (8, [.ref a_all_m25, .int size_m25])), (a_all_m25, .inl (cI, n_a_all_m25, .inl b_a_all_m25)), ((am 26), .inr (8, [.ref a_all_m26, .int size_m26])), (a_all_m26, .inl (cI, n_a_all_m26, .inl b_a_all_m26)), ((am 27), .inr (8, [.ref a_all_m27, .int size_m27])), (a_all_m27, .inl (cI, n_a_all_m27, .inl b_a_all_m27)), ((am 28), .inr (8, [.ref a_all_m28, .int size_m28])), (a_all_m28, .inl (cI, n_a_all_m28, .inl b_a_all_m28)), ((am 29), .inr (8, [.ref a_all_m29, .int size_m29])), (a_all_m29, .inl (cI, n_a_all_m29, .inl b_a_all_m29)), ((am 30), .inr (8, [.ref a_all_m30, .int size_m30])), (a_all_m30, .inl (cI, n_a_all_m30, .inl b_a_all_m30)), ((am 31), .inr (8, [.ref a_all_m31, .int size_m31])), (a_all_m31, .inl (cI, n_a_all_m31, .inl b_a_all_m31)), ((am 33), .inr (8, [.ref a_all_m33, .int size_m33])), (a_all_m33, .inl (cI, n_a_all_m33, .inl b_a_all_m33)), ((am 5), .inr (8, [.ref a_all_m5, .int size_m5])), (a_all_m5, .inl (cI, n_a_all_m5, .inl b_a_all_m5))]) (cl' := 0) (sl' := 0) rfl rfl rfl rfl rfl rfl ?_
  refine j_bipush (v := 52) d_Mo_buildSimple_8 (by decide) ?_
  refine j_icmp_ne (tgt := 136) d_Mo_buildSimple_10 (by decide) (fun c104 => ?_) (fun c104 => ?_)
  · replace h := it_f c104 h
    refine j_iload_n d_Mo_buildSimple_136 rfl 2 rfl ?_
    refine j_istore (lv' := [(4, .int p2), (0, .ref h0), (1, .int p1), (2, .int p2), (3, .int p3)]) d_Mo_buildSimple_137 (by decide) rfl ?_
    refine j_sub (w := [(h0, .inr (9, moF am known_h0 thrown_h0 wrong_h0 lastEnd_h0 at_h0 bad_h0 levels_h0 least_h0 found_h0)), ((am 6), .inr (8, [.ref a_all_m6, .int size_m6])), (a_all_m6, .inl (cI, n_a_all_m6, .inl b_a_all_m6)), ((am 24), .inr (8, [.ref a_all_m24, .int size_m24])), (a_all_m24, .inl (cI, n_a_all_m24, .inl b_a_all_m24)), ((am 25), .inr (8, [.ref a_all_m25, .int size_m25])), (a_all_m25, .inl (cI, n_a_all_m25, .inl b_a_all_m25)), ((am 26), .inr (8, [.ref a_all_m26, .int size_m26])), (a_all_m26, .inl (cI, n_a_all_m26, .inl b_a_all_m26)), ((am 27), .inr (8, [.ref a_all_m27, .int size_m27])), (a_all_m27, .inl (cI, n_a_all_m27, .inl b_a_all_m27)), ((am 28), .inr (8, [.ref a_all_m28, .int size_m28])), (a_all_m28, .inl (cI, n_a_all_m28, .inl b_a_all_m28)), ((am 29), .inr (8, [.ref a_all_m29, .int size_m29])), (a_all_m29, .inl (cI, n_a_all_m29, .inl b_a_all_m29)), ((am 30), .inr (8, [.ref a_all_m30, .int size_m30])), (a_all_m30, .inl (cI, n_a_all_m30, .inl b_a_all_m30)), ((am 31), .inr (8, [.ref a_all_m31, .int size_m31])), (a_all_m31, .inl (cI, n_a_all_m31, .inl b_a_all_m31)), ((am 33), .inr (8, [.ref a_all_m33, .int size_m33])), (a_all_m33, .inl (cI, n_a_all_m33, .inl b_a_all_m33)), ((am 5), .inr (8, [.ref a_all_m5, .int size_m5])), (a_all_m5, .inl (cI, n_a_all_m5, .inl b_a_all_m5))]) (lv' := [(4, .int p2), (0, .ref h0), (1, .int p1), (2, .int p2), (3, .int p3)]) [0, 1, 2, 3, 4, 5, 6, 7, 8, 9, 10, 11, 12, 13, 14, 15, 16, 17, 18, 19, 20, 21, 22] rfl (by decide +kernel) [0, 1, 2, 3, 4] rfl ?_
    exact L_Mo_buildSimple_139 l D cI cB cJ cS h0 am a_all_m5 a_all_m6 a_all_m24 a_all_m25 a_all_m26 a_all_m27 a_all_m28 a_all_m29 a_all_m30 a_all_m31 a_all_m33 p1 p2 p3 known_h0 thrown_h0 wrong_h0 lastEnd_h0 at_h0 bad_h0 levels_h0 least_h0 found_h0 size_m5 n_a_all_m5 b_a_all_m5 size_m6 n_a_all_m6 b_a_all_m6 size_m24 n_a_all_m24 b_a_all_m24 size_m25 n_a_all_m25 b_a_all_m25 size_m26 n_a_all_m26 b_a_all_m26 size_m27 n_a_all_m27 b_a_all_m27 size_m28 n_a_all_m28 b_a_all_m28 size_m29 n_a_all_m29 b_a_all_m29 size_m30 n_a_all_m30 b_a_all_m30 size_m31 n_a_all_m31 b_a_all_m31 size_m33 n_a_all_m33 b_a_all_m33 o_5_1 o_7_1 o_9_1 o_11_1 o_13_1 o_15_1 o_17_1 o_19_1 o_21_1 on_nq_5_0 ob_nq_5_0 on_nq_7_0 ob_nq_7_0 on_nq_9_0 ob_nq_9_0 on_nq_11_0 ob_nq_11_0 on_nq_13_0 ob_nq_13_0 on_nq_15_0 ob_nq_15_0 on_nq_17_0 ob_nq_17_0 on_nq_19_0 ob_nq_19_0 on_nq_21_0 ob_nq_21_0 mc ms p e s m below meth c hr hnm FU p2 0 0 mc ms h hC hS
  · replace h := it_t c104 h
    refine j_aload_n d_Mo_buildSimple_13 rfl 0 rfl ?_
    refine j_get ig_Mo rfl 0 rfl 5 (by decide) rfl m_1118 rfl d_Mo_buildSimple_14 ?_
    refine j_aload_n d_Mo_buildSimple_17 rfl 0 rfl ?_
    refine j_iload_n d_Mo_buildSimple_18 rfl 2 rfl ?_
    replace h := bd_s h
    obtain ⟨r105, k106, h⟩ := h
    refine j_callV (n := 1) (As := [.int p2]) (rest := [.ref (am 5)]) (wr := [((am 6), .inr (8, [.ref a_all_m6, .int size_m6])), (a_all_m6, .inl (cI, n_a_all_m6, .inl b_a_all_m6)), ((am 24), .inr (8, [.ref a_all_m24, .int size_m24])), (a_all_m24, .inl (cI, n_a_all_m24, .inl b_a_all_m24)), ((am 25), .inr (8, [.ref a_all_m25, .int size_m25])), (a_all_m25, .inl (cI, n_a_all_m25, .inl b_a_all_m25)), ((am 26), .inr (8, [.ref a_all_m26, .int size_m26])), (a_all_m26, .inl (cI, n_a_all_m26, .inl b_a_all_m26)), ((am 27), .inr (8, [.ref a_all_m27, .int size_m27])), (a_all_m27, .inl (cI, n_a_all_m27, .inl b_a_all_m27)), ((am 28), .inr (8, [.ref a_all_m28, .int size_m28])), (a_all_m28, .inl (cI, n_a_all_m28, .inl b_a_all_m28)), ((am 29), .inr (8, [.ref a_all_m29, .int size_m29])), (a_all_m29, .inl (cI, n_a_all_m29, .inl b_a_all_m29)), ((am 30), .inr (8, [.ref a_all_m30, .int size_m30])), (a_all_m30, .inl (cI, n_a_all_m30, .inl b_a_all_m30)), ((am 31), .inr (8, [.ref a_all_m31, .int size_m31])), (a_all_m31, .inl (cI, n_a_all_m31, .inl b_a_all_m31)), ((am 33), .inr (8, [.ref a_all_m33, .int size_m33])), (a_all_m33, .inl (cI, n_a_all_m33, .inl b_a_all_m33))]) (c_Mo_closing l D cI cB cJ cS h0 am a_all_m5 p2 known_h0 thrown_h0 wrong_h0 lastEnd_h0 at_h0 bad_h0 levels_h0 least_h0 found_h0 size_m5 n_a_all_m5 b_a_all_m5  r105 k106) k_Mo_350 (by decide) ⟨Nat.le_of_ble_eq_true rfl, Nat.le_of_ble_eq_true rfl⟩ rfl 0 rfl [0, 21, 22] [1, 2, 3, 4, 5, 6, 7, 8, 9, 10, 11, 12, 13, 14, 15, 16, 17, 18, 19, 20] rfl (by decide +kernel) rfl (by decide +kernel) (by decide +kernel) rfl rfl (Nat.le_of_ble_eq_true rfl) d_Mo_buildSimple_19 ⟨show 0 + 0 ≤ mc by omega, show 0 + 0 ≤ ms by omega⟩ (fun v w hq => ?_)
    obtain ⟨rfl, rfl⟩ := hq
    refine j_norm (pc' := 22) (st' := [.int r105, .ref (am 5)]) (ws' := [((am 6), .inr (8, [.ref a_all_m6, .int size_m6])), (a_all_m6, .inl (cI, n_a_all_m6, .inl b_a_all_m6)), ((am 24), .inr (8, [.ref a_all_m24, .int size_m24])), (a_all_m24, .inl (cI, n_a_all_m24, .inl b_a_all_m24)), ((am 25), .inr (8, [.ref a_all_m25, .int size_m25])), (a_all_m25, .inl (cI, n_a_all_m25, .inl b_a_all_m25)), ((am 26), .inr (8, [.ref a_all_m26, .int size_m26])), (a_all_m26, .inl (cI, n_a_all_m26, .inl b_a_all_m26)), ((am 27), .inr (8, [.ref a_all_m27, .int size_m27])), (a_all_m27, .inl (cI, n_a_all_m27, .inl b_a_all_m27)), ((am 28), .inr (8, [.ref a_all_m28, .int size_m28])), (a_all_m28, .inl (cI, n_a_all_m28, .inl b_a_all_m28)), ((am 29), .inr (8, [.ref a_all_m29, .int size_m29])), (a_all_m29, .inl (cI, n_a_all_m29, .inl b_a_all_m29)), ((am 30), .inr (8, [.ref a_all_m30, .int size_m30])), (a_all_m30, .inl (cI, n_a_all_m30, .inl b_a_all_m30)), ((am 31), .inr (8, [.ref a_all_m31, .int size_m31])), (a_all_m31, .inl (cI, n_a_all_m31, .inl b_a_all_m31)), ((am 33), .inr (8, [.ref a_all_m33, .int size_m33])), (a_all_m33, .inl (cI, n_a_all_m33, .inl b_a_all_m33)), (h0, .inr (9, moF am known_h0 thrown_h0 wrong_h0 lastEnd_h0 at_h0 bad_h0 levels_h0 least_h0 found_h0)), ((am 5), .inr (8, [.ref a_all_m5, .int size_m5])), (a_all_m5, .inl (cI, n_a_all_m5, .inl b_a_all_m5))]) (cl' := 0) (sl' := 0) rfl rfl rfl rfl rfl rfl ?_
    refine j_iconst (v := 1) d_Mo_buildSimple_22 (by decide) ?_
    refine j_iadd d_Mo_buildSimple_23 ?_
    replace h := bd_s h
    obtain ⟨_, k107, h⟩ := h
    refine j_callV (n := 1) (As := [.int (r105 + 1)]) (rest := []) (wr := [((am 6), .inr (8, [.ref a_all_m6, .int size_m6])), (a_all_m6, .inl (cI, n_a_all_m6, .inl b_a_all_m6)), ((am 24), .inr (8, [.ref a_all_m24, .int size_m24])), (a_all_m24, .inl (cI, n_a_all_m24, .inl b_a_all_m24)), ((am 25), .inr (8, [.ref a_all_m25, .int size_m25])), (a_all_m25, .inl (cI, n_a_all_m25, .inl b_a_all_m25)), ((am 26), .inr (8, [.ref a_all_m26, .int size_m26])), (a_all_m26, .inl (cI, n_a_all_m26, .inl b_a_all_m26)), ((am 27), .inr (8, [.ref a_all_m27, .int size_m27])), (a_all_m27, .inl (cI, n_a_all_m27, .inl b_a_all_m27)), ((am 28), .inr (8, [.ref a_all_m28, .int size_m28])), (a_all_m28, .inl (cI, n_a_all_m28, .inl b_a_all_m28)), ((am 29), .inr (8, [.ref a_all_m29, .int size_m29])), (a_all_m29, .inl (cI, n_a_all_m29, .inl b_a_all_m29)), ((am 30), .inr (8, [.ref a_all_m30, .int size_m30])), (a_all_m30, .inl (cI, n_a_all_m30, .inl b_a_all_m30)), ((am 31), .inr (8, [.ref a_all_m31, .int size_m31])), (a_all_m31, .inl (cI, n_a_all_m31, .inl b_a_all_m31)), ((am 33), .inr (8, [.ref a_all_m33, .int size_m33])), (a_all_m33, .inl (cI, n_a_all_m33, .inl b_a_all_m33)), (h0, .inr (9, moF am known_h0 thrown_h0 wrong_h0 lastEnd_h0 at_h0 bad_h0 levels_h0 least_h0 found_h0))]) (c_Nm_at l D cI cB cJ cS (am 5) a_all_m5 (r105 + 1) size_m5 n_a_all_m5 b_a_all_m5  k107) k_Mo_214 (by decide) ⟨Nat.le_of_ble_eq_true rfl, Nat.le_of_ble_eq_true rfl⟩ rfl 0 rfl [21, 22] [0, 1, 2, 3, 4, 5, 6, 7, 8, 9, 10, 11, 12, 13, 14, 15, 16, 17, 18, 19, 20] rfl (by decide +kernel) rfl (by decide +kernel) (by decide +kernel) rfl rfl (Nat.le_of_ble_eq_true rfl) d_Mo_buildSimple_24 ⟨show 0 + 0 ≤ mc by omega, show 0 + 0 ≤ ms by omega⟩ (fun v w hq => ?_)
    obtain ⟨rfl, rfl⟩ := hq
    refine j_norm (pc' := 27) (st' := [.int (b_a_all_m5 (Int32.toNatClampNeg (r105 + 1)))]) (ws' := [((am 6), .inr (8, [.ref a_all_m6, .int size_m6])), (a_all_m6, .inl (cI, n_a_all_m6, .inl b_a_all_m6)), ((am 24), .inr (8, [.ref a_all_m24, .int size_m24])), (a_all_m24, .inl (cI, n_a_all_m24, .inl b_a_all_m24)), ((am 25), .inr (8, [.ref a_all_m25, .int size_m25])), (a_all_m25, .inl (cI, n_a_all_m25, .inl b_a_all_m25)), ((am 26), .inr (8, [.ref a_all_m26, .int size_m26])), (a_all_m26, .inl (cI, n_a_all_m26, .inl b_a_all_m26)), ((am 27), .inr (8, [.ref a_all_m27, .int size_m27])), (a_all_m27, .inl (cI, n_a_all_m27, .inl b_a_all_m27)), ((am 28), .inr (8, [.ref a_all_m28, .int size_m28])), (a_all_m28, .inl (cI, n_a_all_m28, .inl b_a_all_m28)), ((am 29), .inr (8, [.ref a_all_m29, .int size_m29])), (a_all_m29, .inl (cI, n_a_all_m29, .inl b_a_all_m29)), ((am 30), .inr (8, [.ref a_all_m30, .int size_m30])), (a_all_m30, .inl (cI, n_a_all_m30, .inl b_a_all_m30)), ((am 31), .inr (8, [.ref a_all_m31, .int size_m31])), (a_all_m31, .inl (cI, n_a_all_m31, .inl b_a_all_m31)), ((am 33), .inr (8, [.ref a_all_m33, .int size_m33])), (a_all_m33, .inl (cI, n_a_all_m33, .inl b_a_all_m33)), (h0, .inr (9, moF am known_h0 thrown_h0 wrong_h0 lastEnd_h0 at_h0 bad_h0 levels_h0 least_h0 found_h0)), ((am 5), .inr (8, [.ref a_all_m5, .int size_m5])), (a_all_m5, .inl (cI, n_a_all_m5, .inl b_a_all_m5))]) (cl' := 0) (sl' := 0) rfl rfl rfl rfl rfl rfl ?_
    refine j_bipush (v := 56) d_Mo_buildSimple_27 (by decide) ?_
    refine j_icmp_ne (tgt := 136) d_Mo_buildSimple_29 (by decide) (fun c108 => ?_) (fun c108 => ?_)
    · replace h := it_f c108 h
      refine j_iload_n d_Mo_buildSimple_136 rfl 2 rfl ?_
      refine j_istore (lv' := [(4, .int p2), (0, .ref h0), (1, .int p1), (2, .int p2), (3, .int p3)]) d_Mo_buildSimple_137 (by decide) rfl ?_
      refine j_sub (w := [(h0, .inr (9, moF am known_h0 thrown_h0 wrong_h0 lastEnd_h0 at_h0 bad_h0 levels_h0 least_h0 found_h0)), ((am 6), .inr (8, [.ref a_all_m6, .int size_m6])), (a_all_m6, .inl (cI, n_a_all_m6, .inl b_a_all_m6)), ((am 24), .inr (8, [.ref a_all_m24, .int size_m24])), (a_all_m24, .inl (cI, n_a_all_m24, .inl b_a_all_m24)), ((am 25), .inr (8, [.ref a_all_m25, .int size_m25])), (a_all_m25, .inl (cI, n_a_all_m25, .inl b_a_all_m25)), ((am 26), .inr (8, [.ref a_all_m26, .int size_m26])), (a_all_m26, .inl (cI, n_a_all_m26, .inl b_a_all_m26)), ((am 27), .inr (8, [.ref a_all_m27, .int size_m27])), (a_all_m27, .inl (cI, n_a_all_m27, .inl b_a_all_m27)), ((am 28), .inr (8, [.ref a_all_m28, .int size_m28])), (a_all_m28, .inl (cI, n_a_all_m28, .inl b_a_all_m28)), ((am 29), .inr (8, [.ref a_all_m29, .int size_m29])), (a_all_m29, .inl (cI, n_a_all_m29, .inl b_a_all_m29)), ((am 30), .inr (8, [.ref a_all_m30, .int size_m30])), (a_all_m30, .inl (cI, n_a_all_m30, .inl b_a_all_m30)), ((am 31), .inr (8, [.ref a_all_m31, .int size_m31])), (a_all_m31, .inl (cI, n_a_all_m31, .inl b_a_all_m31)), ((am 33), .inr (8, [.ref a_all_m33, .int size_m33])), (a_all_m33, .inl (cI, n_a_all_m33, .inl b_a_all_m33)), ((am 5), .inr (8, [.ref a_all_m5, .int size_m5])), (a_all_m5, .inl (cI, n_a_all_m5, .inl b_a_all_m5))]) (lv' := [(4, .int p2), (0, .ref h0), (1, .int p1), (2, .int p2), (3, .int p3)]) [20, 0, 1, 2, 3, 4, 5, 6, 7, 8, 9, 10, 11, 12, 13, 14, 15, 16, 17, 18, 19, 21, 22] rfl (by decide +kernel) [0, 1, 2, 3, 4] rfl ?_
      exact L_Mo_buildSimple_139 l D cI cB cJ cS h0 am a_all_m5 a_all_m6 a_all_m24 a_all_m25 a_all_m26 a_all_m27 a_all_m28 a_all_m29 a_all_m30 a_all_m31 a_all_m33 p1 p2 p3 known_h0 thrown_h0 wrong_h0 lastEnd_h0 at_h0 bad_h0 levels_h0 least_h0 found_h0 size_m5 n_a_all_m5 b_a_all_m5 size_m6 n_a_all_m6 b_a_all_m6 size_m24 n_a_all_m24 b_a_all_m24 size_m25 n_a_all_m25 b_a_all_m25 size_m26 n_a_all_m26 b_a_all_m26 size_m27 n_a_all_m27 b_a_all_m27 size_m28 n_a_all_m28 b_a_all_m28 size_m29 n_a_all_m29 b_a_all_m29 size_m30 n_a_all_m30 b_a_all_m30 size_m31 n_a_all_m31 b_a_all_m31 size_m33 n_a_all_m33 b_a_all_m33 o_5_1 o_7_1 o_9_1 o_11_1 o_13_1 o_15_1 o_17_1 o_19_1 o_21_1 on_nq_5_0 ob_nq_5_0 on_nq_7_0 ob_nq_7_0 on_nq_9_0 ob_nq_9_0 on_nq_11_0 ob_nq_11_0 on_nq_13_0 ob_nq_13_0 on_nq_15_0 ob_nq_15_0 on_nq_17_0 ob_nq_17_0 on_nq_19_0 ob_nq_19_0 on_nq_21_0 ob_nq_21_0 mc ms p e s m below meth c hr hnm FU p2 0 0 mc ms h hC hS
    · replace h := it_t c108 h
      refine j_aload_n d_Mo_buildSimple_32 rfl 0 rfl ?_
      refine j_iload_n d_Mo_buildSimple_33 rfl 2 rfl ?_
      replace h := bd_s h
      obtain ⟨r109, k110, h⟩ := h
      refine j_callV (n := 1) (As := [.int p2]) (rest := []) (wr := [((am 6), .inr (8, [.ref a_all_m6, .int size_m6])), (a_all_m6, .inl (cI, n_a_all_m6, .inl b_a_all_m6)), ((am 24), .inr (8, [.ref a_all_m24, .int size_m24])), (a_all_m24, .inl (cI, n_a_all_m24, .inl b_a_all_m24)), ((am 25), .inr (8, [.ref a_all_m25, .int size_m25])), (a_all_m25, .inl (cI, n_a_all_m25, .inl b_a_all_m25)), ((am 26), .inr (8, [.ref a_all_m26, .int size_m26])), (a_all_m26, .inl (cI, n_a_all_m26, .inl b_a_all_m26)), ((am 27), .inr (8, [.ref a_all_m27, .int size_m27])), (a_all_m27, .inl (cI, n_a_all_m27, .inl b_a_all_m27)), ((am 28), .inr (8, [.ref a_all_m28, .int size_m28])), (a_all_m28, .inl (cI, n_a_all_m28, .inl b_a_all_m28)), ((am 29), .inr (8, [.ref a_all_m29, .int size_m29])), (a_all_m29, .inl (cI, n_a_all_m29, .inl b_a_all_m29)), ((am 30), .inr (8, [.ref a_all_m30, .int size_m30])), (a_all_m30, .inl (cI, n_a_all_m30, .inl b_a_all_m30)), ((am 31), .inr (8, [.ref a_all_m31, .int size_m31])), (a_all_m31, .inl (cI, n_a_all_m31, .inl b_a_all_m31)), ((am 33), .inr (8, [.ref a_all_m33, .int size_m33])), (a_all_m33, .inl (cI, n_a_all_m33, .inl b_a_all_m33))]) (c_Mo_closing l D cI cB cJ cS h0 am a_all_m5 p2 known_h0 thrown_h0 wrong_h0 lastEnd_h0 at_h0 bad_h0 levels_h0 least_h0 found_h0 size_m5 n_a_all_m5 b_a_all_m5  r109 k110) k_Mo_350 (by decide) ⟨Nat.le_of_ble_eq_true rfl, Nat.le_of_ble_eq_true rfl⟩ rfl 0 rfl [20, 21, 22] [0, 1, 2, 3, 4, 5, 6, 7, 8, 9, 10, 11, 12, 13, 14, 15, 16, 17, 18, 19] rfl (by decide +kernel) rfl (by decide +kernel) (by decide +kernel) rfl rfl (Nat.le_of_ble_eq_true rfl) d_Mo_buildSimple_34 ⟨show 0 + 0 ≤ mc by omega, show 0 + 0 ≤ ms by omega⟩ (fun v w hq => ?_)
      obtain ⟨rfl, rfl⟩ := hq
      refine j_norm (pc' := 37) (st' := [.int r109]) (ws' := [((am 6), .inr (8, [.ref a_all_m6, .int size_m6])), (a_all_m6, .inl (cI, n_a_all_m6, .inl b_a_all_m6)), ((am 24), .inr (8, [.ref a_all_m24, .int size_m24])), (a_all_m24, .inl (cI, n_a_all_m24, .inl b_a_all_m24)), ((am 25), .inr (8, [.ref a_all_m25, .int size_m25])), (a_all_m25, .inl (cI, n_a_all_m25, .inl b_a_all_m25)), ((am 26), .inr (8, [.ref a_all_m26, .int size_m26])), (a_all_m26, .inl (cI, n_a_all_m26, .inl b_a_all_m26)), ((am 27), .inr (8, [.ref a_all_m27, .int size_m27])), (a_all_m27, .inl (cI, n_a_all_m27, .inl b_a_all_m27)), ((am 28), .inr (8, [.ref a_all_m28, .int size_m28])), (a_all_m28, .inl (cI, n_a_all_m28, .inl b_a_all_m28)), ((am 29), .inr (8, [.ref a_all_m29, .int size_m29])), (a_all_m29, .inl (cI, n_a_all_m29, .inl b_a_all_m29)), ((am 30), .inr (8, [.ref a_all_m30, .int size_m30])), (a_all_m30, .inl (cI, n_a_all_m30, .inl b_a_all_m30)), ((am 31), .inr (8, [.ref a_all_m31, .int size_m31])), (a_all_m31, .inl (cI, n_a_all_m31, .inl b_a_all_m31)), ((am 33), .inr (8, [.ref a_all_m33, .int size_m33])), (a_all_m33, .inl (cI, n_a_all_m33, .inl b_a_all_m33)), (h0, .inr (9, moF am known_h0 thrown_h0 wrong_h0 lastEnd_h0 at_h0 bad_h0 levels_h0 least_h0 found_h0)), ((am 5), .inr (8, [.ref a_all_m5, .int size_m5])), (a_all_m5, .inl (cI, n_a_all_m5, .inl b_a_all_m5))]) (cl' := 0) (sl' := 0) rfl rfl rfl rfl rfl rfl ?_
      refine j_iconst (v := 1) d_Mo_buildSimple_37 (by decide) ?_
      refine j_iadd d_Mo_buildSimple_38 ?_
      refine j_istore (lv' := [(4, .int (r109 + 1)), (0, .ref h0), (1, .int p1), (2, .int p2), (3, .int p3)]) d_Mo_buildSimple_39 (by decide) rfl ?_
      refine j_aload_n d_Mo_buildSimple_41 rfl 1 rfl ?_
      refine j_iload_n d_Mo_buildSimple_42 rfl 2 rfl ?_
      refine j_bipush (v := 10) d_Mo_buildSimple_43 (by decide) ?_
      refine j_aload_n d_Mo_buildSimple_45 rfl 1 rfl ?_
      refine j_iload d_Mo_buildSimple_46 0 rfl ?_
      replace h := bd_s h
      obtain ⟨_, k111, h⟩ := h
      refine j_callV (n := 1) (As := [.int (r109 + 1)]) (rest := [.int 10, .int p1, .ref h0]) (wr := [((am 24), .inr (8, [.ref a_all_m24, .int size_m24])), (a_all_m24, .inl (cI, n_a_all_m24, .inl b_a_all_m24)), ((am 25), .inr (8, [.ref a_all_m25, .int size_m25])), (a_all_m25, .inl (cI, n_a_all_m25, .inl b_a_all_m25)), ((am 26), .inr (8, [.ref a_all_m26, .int size_m26])), (a_all_m26, .inl (cI, n_a_all_m26, .inl b_a_all_m26)), ((am 27), .inr (8, [.ref a_all_m27, .int size_m27])), (a_all_m27, .inl (cI, n_a_all_m27, .inl b_a_all_m27)), ((am 28), .inr (8, [.ref a_all_m28, .int size_m28])), (a_all_m28, .inl (cI, n_a_all_m28, .inl b_a_all_m28)), ((am 29), .inr (8, [.ref a_all_m29, .int size_m29])), (a_all_m29, .inl (cI, n_a_all_m29, .inl b_a_all_m29)), ((am 30), .inr (8, [.ref a_all_m30, .int size_m30])), (a_all_m30, .inl (cI, n_a_all_m30, .inl b_a_all_m30)), ((am 31), .inr (8, [.ref a_all_m31, .int size_m31])), (a_all_m31, .inl (cI, n_a_all_m31, .inl b_a_all_m31)), ((am 33), .inr (8, [.ref a_all_m33, .int size_m33])), (a_all_m33, .inl (cI, n_a_all_m33, .inl b_a_all_m33)), ((am 5), .inr (8, [.ref a_all_m5, .int size_m5])), (a_all_m5, .inl (cI, n_a_all_m5, .inl b_a_all_m5))]) (c_Mo_placeOf l D cI cB cJ cS h0 am a_all_m6 (r109 + 1) known_h0 thrown_h0 wrong_h0 lastEnd_h0 at_h0 bad_h0 levels_h0 least_h0 found_h0 size_m6 n_a_all_m6 b_a_all_m6  k111) k_Mo_411 (by decide) ⟨Nat.le_of_ble_eq_true rfl, Nat.le_of_ble_eq_true rfl⟩ rfl 0 rfl [20, 0, 1] [2, 3, 4, 5, 6, 7, 8, 9, 10, 11, 12, 13, 14, 15, 16, 17, 18, 19, 21, 22] rfl (by decide +kernel) rfl (by decide +kernel) (by decide +kernel) rfl rfl (Nat.le_of_ble_eq_true rfl) d_Mo_buildSimple_48 ⟨show 0 + 0 ≤ mc by omega, show 0 + 0 ≤ ms by omega⟩ (fun v w hq => ?_)
      obtain ⟨rfl, rfl⟩ := hq
      refine j_norm (pc' := 51) (st' := [.int (b_a_all_m6 (Int32.toNatClampNeg (r109 + 1))), .int 10, .int p1, .ref h0]) (ws' := [((am 24), .inr (8, [.ref a_all_m24, .int size_m24])), (a_all_m24, .inl (cI, n_a_all_m24, .inl b_a_all_m24)), ((am 25), .inr (8, [.ref a_all_m25, .int size_m25])), (a_all_m25, .inl (cI, n_a_all_m25, .inl b_a_all_m25)), ((am 26), .inr (8, [.ref a_all_m26, .int size_m26])), (a_all_m26, .inl (cI, n_a_all_m26, .inl b_a_all_m26)), ((am 27), .inr (8, [.ref a_all_m27, .int size_m27])), (a_all_m27, .inl (cI, n_a_all_m27, .inl b_a_all_m27)), ((am 28), .inr (8, [.ref a_all_m28, .int size_m28])), (a_all_m28, .inl (cI, n_a_all_m28, .inl b_a_all_m28)), ((am 29), .inr (8, [.ref a_all_m29, .int size_m29])), (a_all_m29, .inl (cI, n_a_all_m29, .inl b_a_all_m29)), ((am 30), .inr (8, [.ref a_all_m30, .int size_m30])), (a_all_m30, .inl (cI, n_a_all_m30, .inl b_a_all_m30)), ((am 31), .inr (8, [.ref a_all_m31, .int size_m31])), (a_all_m31, .inl (cI, n_a_all_m31, .inl b_a_all_m31)), ((am 33), .inr (8, [.ref a_all_m33, .int size_m33])), (a_all_m33, .inl (cI, n_a_all_m33, .inl b_a_all_m33)), ((am 5), .inr (8, [.ref a_all_m5, .int size_m5])), (a_all_m5, .inl (cI, n_a_all_m5, .inl b_a_all_m5)), (h0, .inr (9, moF am known_h0 thrown_h0 wrong_h0 lastEnd_h0 at_h0 bad_h0 levels_h0 least_h0 found_h0)), ((am 6), .inr (8, [.ref a_all_m6, .int size_m6])), (a_all_m6, .inl (cI, n_a_all_m6, .inl b_a_all_m6))]) (cl' := 0) (sl' := 0) rfl rfl rfl rfl rfl rfl ?_
      refine j_aload_n d_Mo_buildSimple_51 rfl 1 rfl ?_
      refine j_iload_n d_Mo_buildSimple_52 rfl 3 rfl ?_
      replace h := bd_s h
      obtain ⟨_, k112, h⟩ := h
      refine j_callV (n := 1) (As := [.int p2]) (rest := [.int (b_a_all_m6 (Int32.toNatClampNeg (r109 + 1))), .int 10, .int p1, .ref h0]) (wr := [((am 24), .inr (8, [.ref a_all_m24, .int size_m24])), (a_all_m24, .inl (cI, n_a_all_m24, .inl b_a_all_m24)), ((am 25), .inr (8, [.ref a_all_m25, .int size_m25])), (a_all_m25, .inl (cI, n_a_all_m25, .inl b_a_all_m25)), ((am 26), .inr (8, [.ref a_all_m26, .int size_m26])), (a_all_m26, .inl (cI, n_a_all_m26, .inl b_a_all_m26)), ((am 27), .inr (8, [.ref a_all_m27, .int size_m27])), (a_all_m27, .inl (cI, n_a_all_m27, .inl b_a_all_m27)), ((am 28), .inr (8, [.ref a_all_m28, .int size_m28])), (a_all_m28, .inl (cI, n_a_all_m28, .inl b_a_all_m28)), ((am 29), .inr (8, [.ref a_all_m29, .int size_m29])), (a_all_m29, .inl (cI, n_a_all_m29, .inl b_a_all_m29)), ((am 30), .inr (8, [.ref a_all_m30, .int size_m30])), (a_all_m30, .inl (cI, n_a_all_m30, .inl b_a_all_m30)), ((am 31), .inr (8, [.ref a_all_m31, .int size_m31])), (a_all_m31, .inl (cI, n_a_all_m31, .inl b_a_all_m31)), ((am 33), .inr (8, [.ref a_all_m33, .int size_m33])), (a_all_m33, .inl (cI, n_a_all_m33, .inl b_a_all_m33)), ((am 5), .inr (8, [.ref a_all_m5, .int size_m5])), (a_all_m5, .inl (cI, n_a_all_m5, .inl b_a_all_m5))]) (c_Mo_placeOf l D cI cB cJ cS h0 am a_all_m6 p2 known_h0 thrown_h0 wrong_h0 lastEnd_h0 at_h0 bad_h0 levels_h0 least_h0 found_h0 size_m6 n_a_all_m6 b_a_all_m6  k112) k_Mo_411 (by decide) ⟨Nat.le_of_ble_eq_true rfl, Nat.le_of_ble_eq_true rfl⟩ rfl 0 rfl [20, 21, 22] [0, 1, 2, 3, 4, 5, 6, 7, 8, 9, 10, 11, 12, 13, 14, 15, 16, 17, 18, 19] rfl (by decide +kernel) rfl (by decide +kernel) (by decide +kernel) rfl rfl (Nat.le_of_ble_eq_true rfl) d_Mo_buildSimple_53 ⟨show 0 + 0 ≤ mc by omega, show 0 + 0 ≤ ms by omega⟩ (fun v w hq => ?_)
      obtain ⟨rfl, rfl⟩ := hq
      refine j_norm (pc' := 56) (st' := [.int (b_a_all_m6 (Int32.toNatClampNeg p2)), .int (b_a_all_m6 (Int32.toNatClampNeg (r109 + 1))), .int 10, .int p1, .ref h0]) (ws' := [((am 24), .inr (8, [.ref a_all_m24, .int size_m24])), (a_all_m24, .inl (cI, n_a_all_m24, .inl b_a_all_m24)), ((am 25), .inr (8, [.ref a_all_m25, .int size_m25])), (a_all_m25, .inl (cI, n_a_all_m25, .inl b_a_all_m25)), ((am 26), .inr (8, [.ref a_all_m26, .int size_m26])), (a_all_m26, .inl (cI, n_a_all_m26, .inl b_a_all_m26)), ((am 27), .inr (8, [.ref a_all_m27, .int size_m27])), (a_all_m27, .inl (cI, n_a_all_m27, .inl b_a_all_m27)), ((am 28), .inr (8, [.ref a_all_m28, .int size_m28])), (a_all_m28, .inl (cI, n_a_all_m28, .inl b_a_all_m28)), ((am 29), .inr (8, [.ref a_all_m29, .int size_m29])), (a_all_m29, .inl (cI, n_a_all_m29, .inl b_a_all_m29)), ((am 30), .inr (8, [.ref a_all_m30, .int size_m30])), (a_all_m30, .inl (cI, n_a_all_m30, .inl b_a_all_m30)), ((am 31), .inr (8, [.ref a_all_m31, .int size_m31])), (a_all_m31, .inl (cI, n_a_all_m31, .inl b_a_all_m31)), ((am 33), .inr (8, [.ref a_all_m33, .int size_m33])), (a_all_m33, .inl (cI, n_a_all_m33, .inl b_a_all_m33)), ((am 5), .inr (8, [.ref a_all_m5, .int size_m5])), (a_all_m5, .inl (cI, n_a_all_m5, .inl b_a_all_m5)), (h0, .inr (9, moF am known_h0 thrown_h0 wrong_h0 lastEnd_h0 at_h0 bad_h0 levels_h0 least_h0 found_h0)), ((am 6), .inr (8, [.ref a_all_m6, .int size_m6])), (a_all_m6, .inl (cI, n_a_all_m6, .inl b_a_all_m6))]) (cl' := 0) (sl' := 0) rfl rfl rfl rfl rfl rfl ?_
      refine j_iload d_Mo_buildSimple_56 0 rfl ?_
      replace h := bw_s h
      obtain ⟨⟨r113, r114, r115, r116, r117, r118, r119, r120, r121, r122, r123, r124, r125, r126, r127, r128, r129, r130, r131⟩, C140, S141, C142, S143, k144, h, e1, e2⟩ := h
      replace hC : 0 + C140 + C142 ≤ mc := by omega
      replace hS : 0 + S141 + S143 ≤ ms := by omega
      clear e1 e2
      refine j_callV (n := 5) (As := [.int p1, .int 10, .int (b_a_all_m6 (Int32.toNatClampNeg (r109 + 1))), .int (b_a_all_m6 (Int32.toNatClampNeg p2)), .int (r109 + 1)]) (rest := []) (wr := [((am 33), .inr (8, [.ref a_all_m33, .int size_m33])), (a_all_m33, .inl (cI, n_a_all_m33, .inl b_a_all_m33)), ((am 5), .inr (8, [.ref a_all_m5, .int size_m5])), (a_all_m5, .inl (cI, n_a_all_m5, .inl b_a_all_m5)), ((am 6), .inr (8, [.ref a_all_m6, .int size_m6])), (a_all_m6, .inl (cI, n_a_all_m6, .inl b_a_all_m6))]) (c_Mo_newNode l D cI cB cJ cS h0 am a_all_m24 a_all_m25 a_all_m26 a_all_m27 a_all_m28 a_all_m29 a_all_m30 a_all_m31 p1 10 (b_a_all_m6 (Int32.toNatClampNeg (r109 + 1))) (b_a_all_m6 (Int32.toNatClampNeg p2)) (r109 + 1) known_h0 thrown_h0 wrong_h0 lastEnd_h0 at_h0 bad_h0 levels_h0 least_h0 found_h0 size_m24 n_a_all_m24 b_a_all_m24 size_m25 n_a_all_m25 b_a_all_m25 size_m26 n_a_all_m26 b_a_all_m26 size_m27 n_a_all_m27 b_a_all_m27 size_m28 n_a_all_m28 b_a_all_m28 size_m29 n_a_all_m29 b_a_all_m29 size_m30 n_a_all_m30 b_a_all_m30 size_m31 n_a_all_m31 b_a_all_m31  r113 r114 r115 r116 r117 r118 r119 r120 r121 r122 r123 r124 r125 r126 r127 r128 r129 r130 r131 C140 S141 k144) k_Mo_386 (by decide) ⟨Nat.le_of_ble_eq_true rfl, Nat.le_of_ble_eq_true rfl⟩ rfl 0 rfl [20, 0, 1, 2, 3, 4, 5, 6, 7, 8, 9, 10, 11, 12, 13, 14, 15] [16, 17, 18, 19, 21, 22] rfl (by decide +kernel) rfl (by decide +kernel) (by decide +kernel) rfl rfl (Nat.le_of_ble_eq_true rfl) d_Mo_buildSimple_58 ⟨show 0 + C140 ≤ mc by omega, show 0 + S141 ≤ ms by omega⟩ (fun v w hq => ?_)
      obtain ⟨q132, q133, q134, q135, q136, q137, q138, q139, rfl, rfl⟩ := hq
      refine j_norm (pc' := 61) (st' := [.int size_m24]) (ws' := [((am 33), .inr (8, [.ref a_all_m33, .int size_m33])), (a_all_m33, .inl (cI, n_a_all_m33, .inl b_a_all_m33)), ((am 5), .inr (8, [.ref a_all_m5, .int size_m5])), (a_all_m5, .inl (cI, n_a_all_m5, .inl b_a_all_m5)), ((am 6), .inr (8, [.ref a_all_m6, .int size_m6])), (a_all_m6, .inl (cI, n_a_all_m6, .inl b_a_all_m6)), (h0, .inr (9, moF am known_h0 thrown_h0 wrong_h0 lastEnd_h0 at_h0 bad_h0 levels_h0 least_h0 found_h0)), ((am 24), .inr (8, [.ref q132, .int (size_m24 + 1)])), ((am 25), .inr (8, [.ref q133, .int (size_m25 + 1)])), ((am 26), .inr (8, [.ref q134, .int (size_m26 + 1)])), ((am 27), .inr (8, [.ref q135, .int (size_m27 + 1)])), ((am 28), .inr (8, [.ref q136, .int r113])), ((am 29), .inr (8, [.ref q137, .int r114])), ((am 30), .inr (8, [.ref q138, .int r115])), ((am 31), .inr (8, [.ref q139, .int (size_m31 + 1)])), (q132, .inl (cI, r116, .inl r117)), (q133, .inl (cI, r118, .inl r119)), (q134, .inl (cI, r120, .inl r121)), (q135, .inl (cI, r122, .inl r123)), (q136, .inl (cI, r124, .inl r125)), (q137, .inl (cI, r126, .inl r127)), (q138, .inl (cI, r128, .inl r129)), (q139, .inl (cI, r130, .inl r131))]) (cl' := 0 + C140) (sl' := 0 + S141) rfl rfl rfl rfl rfl rfl ?_
      refine j_istore (lv' := [(5, .int size_m24), (4, .int (r109 + 1)), (0, .ref h0), (1, .int p1), (2, .int p2), (3, .int p3)]) d_Mo_buildSimple_61 (by decide) rfl ?_
      refine j_aload_n d_Mo_buildSimple_63 rfl 2 rfl ?_
      refine j_iload d_Mo_buildSimple_64 0 rfl ?_
      refine j_iconst (v := 2) d_Mo_buildSimple_66 (by decide) ?_
      refine j_aload_n d_Mo_buildSimple_67 rfl 2 rfl ?_
      refine j_iload_n d_Mo_buildSimple_68 rfl 4 rfl ?_
      replace h := bd_s h
      obtain ⟨_, k145, h⟩ := h
      refine j_callV (n := 1) (As := [.int p2]) (rest := [.int 2, .int size_m24, .ref h0]) (wr := [((am 33), .inr (8, [.ref a_all_m33, .int size_m33])), (a_all_m33, .inl (cI, n_a_all_m33, .inl b_a_all_m33)), ((am 5), .inr (8, [.ref a_all_m5, .int size_m5])), (a_all_m5, .inl (cI, n_a_all_m5, .inl b_a_all_m5)), ((am 24), .inr (8, [.ref q132, .int (size_m24 + 1)])), ((am 25), .inr (8, [.ref q133, .int (size_m25 + 1)])), ((am 26), .inr (8, [.ref q134, .int (size_m26 + 1)])), ((am 27), .inr (8, [.ref q135, .int (size_m27 + 1)])), ((am 28), .inr (8, [.ref q136, .int r113])), ((am 29), .inr (8, [.ref q137, .int r114])), ((am 30), .inr (8, [.ref q138, .int r115])), ((am 31), .inr (8, [.ref q139, .int (size_m31 + 1)])), (q132, .inl (cI, r116, .inl r117)), (q133, .inl (cI, r118, .inl r119)), (q134, .inl (cI, r120, .inl r121)), (q135, .inl (cI, r122, .inl r123)), (q136, .inl (cI, r124, .inl r125)), (q137, .inl (cI, r126, .inl r127)), (q138, .inl (cI, r128, .inl r129)), (q139, .inl (cI, r130, .inl r131))]) (c_Mo_placeOf l D cI cB cJ cS h0 am a_all_m6 p2 known_h0 thrown_h0 wrong_h0 lastEnd_h0 at_h0 bad_h0 levels_h0 least_h0 found_h0 size_m6 n_a_all_m6 b_a_all_m6  k145) k_Mo_411 (by decide) ⟨Nat.le_of_ble_eq_true rfl, Nat.le_of_ble_eq_true rfl⟩ rfl 0 rfl [6, 4, 5] [0, 1, 2, 3, 7, 8, 9, 10, 11, 12, 13, 14, 15, 16, 17, 18, 19, 20, 21, 22] rfl (by decide +kernel) rfl (by decide +kernel) (by decide +kernel) rfl rfl (Nat.le_of_ble_eq_true rfl) d_Mo_buildSimple_69 ⟨show 0 + C140 + 0 ≤ mc by omega, show 0 + S141 + 0 ≤ ms by omega⟩ (fun v w hq => ?_)
      obtain ⟨rfl, rfl⟩ := hq
      refine j_norm (pc' := 72) (st' := [.int (b_a_all_m6 (Int32.toNatClampNeg p2)), .int 2, .int size_m24, .ref h0]) (ws' := [((am 33), .inr (8, [.ref a_all_m33, .int size_m33])), (a_all_m33, .inl (cI, n_a_all_m33, .inl b_a_all_m33)), ((am 5), .inr (8, [.ref a_all_m5, .int size_m5])), (a_all_m5, .inl (cI, n_a_all_m5, .inl b_a_all_m5)), ((am 24), .inr (8, [.ref q132, .int (size_m24 + 1)])), ((am 25), .inr (8, [.ref q133, .int (size_m25 + 1)])), ((am 26), .inr (8, [.ref q134, .int (size_m26 + 1)])), ((am 27), .inr (8, [.ref q135, .int (size_m27 + 1)])), ((am 28), .inr (8, [.ref q136, .int r113])), ((am 29), .inr (8, [.ref q137, .int r114])), ((am 30), .inr (8, [.ref q138, .int r115])), ((am 31), .inr (8, [.ref q139, .int (size_m31 + 1)])), (q132, .inl (cI, r116, .inl r117)), (q133, .inl (cI, r118, .inl r119)), (q134, .inl (cI, r120, .inl r121)), (q135, .inl (cI, r122, .inl r123)), (q136, .inl (cI, r124, .inl r125)), (q137, .inl (cI, r126, .inl r127)), (q138, .inl (cI, r128, .inl r129)), (q139, .inl (cI, r130, .inl r131)), (h0, .inr (9, moF am known_h0 thrown_h0 wrong_h0 lastEnd_h0 at_h0 bad_h0 levels_h0 least_h0 found_h0)), ((am 6), .inr (8, [.ref a_all_m6, .int size_m6])), (a_all_m6, .inl (cI, n_a_all_m6, .inl b_a_all_m6))]) (cl' := 0 + C140) (sl' := 0 + S141) rfl rfl rfl rfl rfl rfl ?_
      refine j_iconst (v := (-1)) d_Mo_buildSimple_72 (by decide) ?_
      refine j_iconst (v := (-1)) d_Mo_buildSimple_73 (by decide) ?_
      replace h := bw_s h
      obtain ⟨⟨r146, r147, r148, r149, r150, r151, r152, r153, r154, r155, r156, r157, r158, r159, r160, r161, r162, r163, r164⟩, C173, S174, C175, S176, k177, h, e1, e2⟩ := h
      replace hC : 0 + C140 + C173 + C175 ≤ mc := by omega
      replace hS : 0 + S141 + S174 + S176 ≤ ms := by omega
      clear e1 e2
      refine j_callV (n := 5) (As := [.int size_m24, .int 2, .int (b_a_all_m6 (Int32.toNatClampNeg p2)), .int (-1), .int (-1)]) (rest := []) (wr := [((am 33), .inr (8, [.ref a_all_m33, .int size_m33])), (a_all_m33, .inl (cI, n_a_all_m33, .inl b_a_all_m33)), ((am 5), .inr (8, [.ref a_all_m5, .int size_m5])), (a_all_m5, .inl (cI, n_a_all_m5, .inl b_a_all_m5)), ((am 6), .inr (8, [.ref a_all_m6, .int size_m6])), (a_all_m6, .inl (cI, n_a_all_m6, .inl b_a_all_m6))]) (c_Mo_newNode l D cI cB cJ cS h0 am q132 q133 q134 q135 q136 q137 q138 q139 size_m24 2 (b_a_all_m6 (Int32.toNatClampNeg p2)) (-1) (-1) known_h0 thrown_h0 wrong_h0 lastEnd_h0 at_h0 bad_h0 levels_h0 least_h0 found_h0 (size_m24 + 1) r116 r117 (size_m25 + 1) r118 r119 (size_m26 + 1) r120 r121 (size_m27 + 1) r122 r123 r113 r124 r125 r114 r126 r127 r115 r128 r129 (size_m31 + 1) r130 r131  r146 r147 r148 r149 r150 r151 r152 r153 r154 r155 r156 r157 r158 r159 r160 r161 r162 r163 r164 C173 S174 k177) k_Mo_386 (by decide) ⟨Nat.le_of_ble_eq_true rfl, Nat.le_of_ble_eq_true rfl⟩ rfl 0 rfl [20, 4, 12, 5, 13, 6, 14, 7, 15, 8, 16, 9, 17, 10, 18, 11, 19] [0, 1, 2, 3, 21, 22] rfl (by decide +kernel) rfl (by decide +kernel) (by decide +kernel) rfl rfl (Nat.le_of_ble_eq_true rfl) d_Mo_buildSimple_74 ⟨show 0 + C140 + C173 ≤ mc by omega, show 0 + S141 + S174 ≤ ms by omega⟩ (fun v w hq => ?_)
      obtain ⟨q165, q166, q167, q168, q169, q170, q171, q172, rfl, rfl⟩ := hq
      refine j_norm (pc' := 77) (st' := [.int (size_m24 + 1)]) (ws' := [((am 33), .inr (8, [.ref a_all_m33, .int size_m33])), (a_all_m33, .inl (cI, n_a_all_m33, .inl b_a_all_m33)), ((am 5), .inr (8, [.ref a_all_m5, .int size_m5])), (a_all_m5, .inl (cI, n_a_all_m5, .inl b_a_all_m5)), ((am 6), .inr (8, [.ref a_all_m6, .int size_m6])), (a_all_m6, .inl (cI, n_a_all_m6, .inl b_a_all_m6)), (h0, .inr (9, moF am known_h0 thrown_h0 wrong_h0 lastEnd_h0 at_h0 bad_h0 levels_h0 least_h0 found_h0)), ((am 24), .inr (8, [.ref q165, .int ((size_m24 + 1) + 1)])), ((am 25), .inr (8, [.ref q166, .int ((size_m25 + 1) + 1)])), ((am 26), .inr (8, [.ref q167, .int ((size_m26 + 1) + 1)])), ((am 27), .inr (8, [.ref q168, .int ((size_m27 + 1) + 1)])), ((am 28), .inr (8, [.ref q169, .int r146])), ((am 29), .inr (8, [.ref q170, .int r147])), ((am 30), .inr (8, [.ref q171, .int r148])), ((am 31), .inr (8, [.ref q172, .int ((size_m31 + 1) + 1)])), (q165, .inl (cI, r149, .inl r150)), (q166, .inl (cI, r151, .inl r152)), (q167, .inl (cI, r153, .inl r154)), (q168, .inl (cI, r155, .inl r156)), (q169, .inl (cI, r157, .inl r158)), (q170, .inl (cI, r159, .inl r160)), (q171, .inl (cI, r161, .inl r162)), (q172, .inl (cI, r163, .inl r164))]) (cl' := 0 + C140 + C173) (sl' := 0 + S141 + S174) rfl rfl rfl rfl rfl rfl ?_
      refine j_istore (lv' := [(6, .int (size_m24 + 1)), (5, .int size_m24), (4, .int (r109 + 1)), (0, .ref h0), (1, .int p1), (2, .int p2), (3, .int p3)]) d_Mo_buildSimple_77 (by decide) rfl ?_
      refine j_aload_n d_Mo_buildSimple_79 rfl 3 rfl ?_
      refine j_iload d_Mo_buildSimple_80 0 rfl ?_
      refine j_iload_n d_Mo_buildSimple_82 rfl 5 rfl ?_
      refine j_iconst (v := 1) d_Mo_buildSimple_83 (by decide) ?_
      refine j_iadd d_Mo_buildSimple_84 ?_
      refine j_iload d_Mo_buildSimple_85 2 rfl ?_
      refine j_iconst (v := 1) d_Mo_buildSimple_87 (by decide) ?_
      refine j_isub d_Mo_buildSimple_88 ?_
      replace h := bw_s h
      obtain ⟨⟨r178, r179, r180, r181, r182, r183, r184, r185, r186, r187, r188, r189, r190, r191, r192, r193, r194, r195, r196, r197, r198, r199, r200, r201⟩, C210, S211, C212, S213, k214, h, e1, e2⟩ := h
      replace hC : 0 + C140 + C173 + C210 + C212 ≤ mc := by omega
      replace hS : 0 + S141 + S174 + S211 + S213 ≤ ms := by omega
      clear e1 e2
      refine j_callV (n := 3) (As := [.int (size_m24 + 1), .int (p2 + 1), .int ((r109 + 1) - 1)]) (rest := []) (wr := [((am 33), .inr (8, [.ref a_all_m33, .int size_m33])), (a_all_m33, .inl (cI, n_a_all_m33, .inl b_a_all_m33))]) (c_Mo_nameNodes l D cI cB cJ cS h0 am a_all_m5 a_all_m6 q165 q166 q167 q168 q169 q170 q171 q172 (size_m24 + 1) (p2 + 1) ((r109 + 1) - 1) known_h0 thrown_h0 wrong_h0 lastEnd_h0 at_h0 bad_h0 levels_h0 least_h0 found_h0 size_m5 n_a_all_m5 b_a_all_m5 size_m6 n_a_all_m6 b_a_all_m6 ((size_m24 + 1) + 1) r149 r150 ((size_m25 + 1) + 1) r151 r152 ((size_m26 + 1) + 1) r153 r154 ((size_m27 + 1) + 1) r155 r156 r146 r157 r158 r147 r159 r160 r148 r161 r162 ((size_m31 + 1) + 1) r163 r164  r178 r179 r180 r181 r182 r183 r184 r185 r186 r187 r188 r189 r190 r191 r192 r193 r194 r195 r196 r197 r198 r199 r200 r201 C210 S211 k214) k_Mo_445 (by decide) ⟨Nat.le_of_ble_eq_true rfl, Nat.le_of_ble_eq_true rfl⟩ rfl 0 rfl [6, 2, 3, 4, 5, 7, 15, 8, 16, 9, 17, 10, 18, 11, 19, 12, 20, 13, 21, 14, 22] [0, 1] rfl (by decide +kernel) rfl (by decide +kernel) (by decide +kernel) rfl rfl (Nat.le_of_ble_eq_true rfl) d_Mo_buildSimple_89 ⟨show 0 + C140 + C173 + C210 ≤ mc by omega, show 0 + S141 + S174 + S211 ≤ ms by omega⟩ (fun v w hq => ?_)
      obtain ⟨q202, q203, q204, q205, q206, q207, q208, q209, rfl, rfl⟩ := hq
      refine j_norm (pc' := 92) (st' := []) (ws' := [((am 33), .inr (8, [.ref a_all_m33, .int size_m33])), (a_all_m33, .inl (cI, n_a_all_m33, .inl b_a_all_m33)), (h0, .inr (9, moF am known_h0 thrown_h0 wrong_h0 lastEnd_h0 at_h0 bad_h0 levels_h0 least_h0 found_h0)), ((am 5), .inr (8, [.ref a_all_m5, .int size_m5])), (a_all_m5, .inl (cI, n_a_all_m5, .inl b_a_all_m5)), ((am 6), .inr (8, [.ref a_all_m6, .int size_m6])), (a_all_m6, .inl (cI, n_a_all_m6, .inl b_a_all_m6)), ((am 24), .inr (8, [.ref q202, .int r178])), ((am 25), .inr (8, [.ref q203, .int r179])), ((am 26), .inr (8, [.ref q204, .int r180])), ((am 27), .inr (8, [.ref q205, .int r181])), ((am 28), .inr (8, [.ref q206, .int r182])), ((am 29), .inr (8, [.ref q207, .int r183])), ((am 30), .inr (8, [.ref q208, .int r184])), ((am 31), .inr (8, [.ref q209, .int r185])), (q202, .inl (cI, r186, .inl r187)), (q203, .inl (cI, r188, .inl r189)), (q204, .inl (cI, r190, .inl r191)), (q205, .inl (cI, r192, .inl r193)), (q206, .inl (cI, r194, .inl r195)), (q207, .inl (cI, r196, .inl r197)), (q208, .inl (cI, r198, .inl r199)), (q209, .inl (cI, r200, .inl r201))]) (cl' := 0 + C140 + C173 + C210) (sl' := 0 + S141 + S174 + S211) rfl rfl rfl rfl rfl rfl ?_
      refine j_aload_n d_Mo_buildSimple_92 rfl 3 rfl ?_
      refine j_iload d_Mo_buildSimple_93 1 rfl ?_
      refine j_bipush (v := 33) d_Mo_buildSimple_95 (by decide) ?_
      refine j_aload_n d_Mo_buildSimple_97 rfl 3 rfl ?_
      refine j_iload d_Mo_buildSimple_98 2 rfl ?_
      refine j_iconst (v := 1) d_Mo_buildSimple_100 (by decide) ?_
      refine j_iadd d_Mo_buildSimple_101 ?_
      replace h := bd_s h
      obtain ⟨_, k215, h⟩ := h
      refine j_callV (n := 1) (As := [.int ((r109 + 1) + 1)]) (rest := [.int 33, .int size_m24, .ref h0]) (wr := [((am 33), .inr (8, [.ref a_all_m33, .int size_m33])), (a_all_m33, .inl (cI, n_a_all_m33, .inl b_a_all_m33)), ((am 5), .inr (8, [.ref a_all_m5, .int size_m5])), (a_all_m5, .inl (cI, n_a_all_m5, .inl b_a_all_m5)), ((am 24), .inr (8, [.ref q202, .int r178])), ((am 25), .inr (8, [.ref q203, .int r179])), ((am 26), .inr (8, [.ref q204, .int r180])), ((am 27), .inr (8, [.ref q205, .int r181])), ((am 28), .inr (8, [.ref q206, .int r182])), ((am 29), .inr (8, [.ref q207, .int r183])), ((am 30), .inr (8, [.ref q208, .int r184])), ((am 31), .inr (8, [.ref q209, .int r185])), (q202, .inl (cI, r186, .inl r187)), (q203, .inl (cI, r188, .inl r189)), (q204, .inl (cI, r190, .inl r191)), (q205, .inl (cI, r192, .inl r193)), (q206, .inl (cI, r194, .inl r195)), (q207, .inl (cI, r196, .inl r197)), (q208, .inl (cI, r198, .inl r199)), (q209, .inl (cI, r200, .inl r201))]) (c_Mo_placeOf l D cI cB cJ cS h0 am a_all_m6 ((r109 + 1) + 1) known_h0 thrown_h0 wrong_h0 lastEnd_h0 at_h0 bad_h0 levels_h0 least_h0 found_h0 size_m6 n_a_all_m6 b_a_all_m6  k215) k_Mo_411 (by decide) ⟨Nat.le_of_ble_eq_true rfl, Nat.le_of_ble_eq_true rfl⟩ rfl 0 rfl [2, 5, 6] [0, 1, 3, 4, 7, 8, 9, 10, 11, 12, 13, 14, 15, 16, 17, 18, 19, 20, 21, 22] rfl (by decide +kernel) rfl (by decide +kernel) (by decide +kernel) rfl rfl (Nat.le_of_ble_eq_true rfl) d_Mo_buildSimple_102 ⟨show 0 + C140 + C173 + C210 + 0 ≤ mc by omega, show 0 + S141 + S174 + S211 + 0 ≤ ms by omega⟩ (fun v w hq => ?_)
      obtain ⟨rfl, rfl⟩ := hq
      refine j_norm (pc' := 105) (st' := [.int (b_a_all_m6 (Int32.toNatClampNeg ((r109 + 1) + 1))), .int 33, .int size_m24, .ref h0]) (ws' := [((am 33), .inr (8, [.ref a_all_m33, .int size_m33])), (a_all_m33, .inl (cI, n_a_all_m33, .inl b_a_all_m33)), ((am 5), .inr (8, [.ref a_all_m5, .int size_m5])), (a_all_m5, .inl (cI, n_a_all_m5, .inl b_a_all_m5)), ((am 24), .inr (8, [.ref q202, .int r178])), ((am 25), .inr (8, [.ref q203, .int r179])), ((am 26), .inr (8, [.ref q204, .int r180])), ((am 27), .inr (8, [.ref q205, .int r181])), ((am 28), .inr (8, [.ref q206, .int r182])), ((am 29), .inr (8, [.ref q207, .int r183])), ((am 30), .inr (8, [.ref q208, .int r184])), ((am 31), .inr (8, [.ref q209, .int r185])), (q202, .inl (cI, r186, .inl r187)), (q203, .inl (cI, r188, .inl r189)), (q204, .inl (cI, r190, .inl r191)), (q205, .inl (cI, r192, .inl r193)), (q206, .inl (cI, r194, .inl r195)), (q207, .inl (cI, r196, .inl r197)), (q208, .inl (cI, r198, .inl r199)), (q209, .inl (cI, r200, .inl r201)), (h0, .inr (9, moF am known_h0 thrown_h0 wrong_h0 lastEnd_h0 at_h0 bad_h0 levels_h0 least_h0 found_h0)), ((am 6), .inr (8, [.ref a_all_m6, .int size_m6])), (a_all_m6, .inl (cI, n_a_all_m6, .inl b_a_all_m6))]) (cl' := 0 + C140 + C173 + C210) (sl' := 0 + S141 + S174 + S211) rfl rfl rfl rfl rfl rfl ?_
      refine j_aload_n d_Mo_buildSimple_105 rfl 3 rfl ?_
      refine j_iload d_Mo_buildSimple_106 2 rfl ?_
      refine j_iconst (v := 2) d_Mo_buildSimple_108 (by decide) ?_
      refine j_iadd d_Mo_buildSimple_109 ?_
      replace h := bd_s h
      obtain ⟨_, k216, h⟩ := h
      refine j_callV (n := 1) (As := [.int ((r109 + 1) + 2)]) (rest := [.int (b_a_all_m6 (Int32.toNatClampNeg ((r109 + 1) + 1))), .int 33, .int size_m24, .ref h0]) (wr := [((am 33), .inr (8, [.ref a_all_m33, .int size_m33])), (a_all_m33, .inl (cI, n_a_all_m33, .inl b_a_all_m33)), ((am 5), .inr (8, [.ref a_all_m5, .int size_m5])), (a_all_m5, .inl (cI, n_a_all_m5, .inl b_a_all_m5)), ((am 24), .inr (8, [.ref q202, .int r178])), ((am 25), .inr (8, [.ref q203, .int r179])), ((am 26), .inr (8, [.ref q204, .int r180])), ((am 27), .inr (8, [.ref q205, .int r181])), ((am 28), .inr (8, [.ref q206, .int r182])), ((am 29), .inr (8, [.ref q207, .int r183])), ((am 30), .inr (8, [.ref q208, .int r184])), ((am 31), .inr (8, [.ref q209, .int r185])), (q202, .inl (cI, r186, .inl r187)), (q203, .inl (cI, r188, .inl r189)), (q204, .inl (cI, r190, .inl r191)), (q205, .inl (cI, r192, .inl r193)), (q206, .inl (cI, r194, .inl r195)), (q207, .inl (cI, r196, .inl r197)), (q208, .inl (cI, r198, .inl r199)), (q209, .inl (cI, r200, .inl r201))]) (c_Mo_placeOf l D cI cB cJ cS h0 am a_all_m6 ((r109 + 1) + 2) known_h0 thrown_h0 wrong_h0 lastEnd_h0 at_h0 bad_h0 levels_h0 least_h0 found_h0 size_m6 n_a_all_m6 b_a_all_m6  k216) k_Mo_411 (by decide) ⟨Nat.le_of_ble_eq_true rfl, Nat.le_of_ble_eq_true rfl⟩ rfl 0 rfl [20, 21, 22] [0, 1, 2, 3, 4, 5, 6, 7, 8, 9, 10, 11, 12, 13, 14, 15, 16, 17, 18, 19] rfl (by decide +kernel) rfl (by decide +kernel) (by decide +kernel) rfl rfl (Nat.le_of_ble_eq_true rfl) d_Mo_buildSimple_110 ⟨show 0 + C140 + C173 + C210 + 0 ≤ mc by omega, show 0 + S141 + S174 + S211 + 0 ≤ ms by omega⟩ (fun v w hq => ?_)
      obtain ⟨rfl, rfl⟩ := hq
      refine j_norm (pc' := 113) (st' := [.int (b_a_all_m6 (Int32.toNatClampNeg ((r109 + 1) + 2))), .int (b_a_all_m6 (Int32.toNatClampNeg ((r109 + 1) + 1))), .int 33, .int size_m24, .ref h0]) (ws' := [((am 33), .inr (8, [.ref a_all_m33, .int size_m33])), (a_all_m33, .inl (cI, n_a_all_m33, .inl b_a_all_m33)), ((am 5), .inr (8, [.ref a_all_m5, .int size_m5])), (a_all_m5, .inl (cI, n_a_all_m5, .inl b_a_all_m5)), ((am 24), .inr (8, [.ref q202, .int r178])), ((am 25), .inr (8, [.ref q203, .int r179])), ((am 26), .inr (8, [.ref q204, .int r180])), ((am 27), .inr (8, [.ref q205, .int r181])), ((am 28), .inr (8, [.ref q206, .int r182])), ((am 29), .inr (8, [.ref q207, .int r183])), ((am 30), .inr (8, [.ref q208, .int r184])), ((am 31), .inr (8, [.ref q209, .int r185])), (q202, .inl (cI, r186, .inl r187)), (q203, .inl (cI, r188, .inl r189)), (q204, .inl (cI, r190, .inl r191)), (q205, .inl (cI, r192, .inl r193)), (q206, .inl (cI, r194, .inl r195)), (q207, .inl (cI, r196, .inl r197)), (q208, .inl (cI, r198, .inl r199)), (q209, .inl (cI, r200, .inl r201)), (h0, .inr (9, moF am known_h0 thrown_h0 wrong_h0 lastEnd_h0 at_h0 bad_h0 levels_h0 least_h0 found_h0)), ((am 6), .inr (8, [.ref a_all_m6, .int size_m6])), (a_all_m6, .inl (cI, n_a_all_m6, .inl b_a_all_m6))]) (cl' := 0 + C140 + C173 + C210) (sl' := 0 + S141 + S174 + S211) rfl rfl rfl rfl rfl rfl ?_
      refine j_iload d_Mo_buildSimple_113 2 rfl ?_
      refine j_iconst (v := 1) d_Mo_buildSimple_115 (by decide) ?_
      refine j_iadd d_Mo_buildSimple_116 ?_
      replace h := bw_s h
      obtain ⟨⟨r217, r218, r219, r220, r221, r222, r223, r224, r225, r226, r227, r228, r229, r230, r231, r232, r233, r234, r235⟩, C244, S245, C246, S247, k248, h, e1, e2⟩ := h
      replace hC : 0 + C140 + C173 + C210 + C244 + C246 ≤ mc := by omega
      replace hS : 0 + S141 + S174 + S211 + S245 + S247 ≤ ms := by omega
      clear e1 e2
      refine j_callV (n := 5) (As := [.int size_m24, .int 33, .int (b_a_all_m6 (Int32.toNatClampNeg ((r109 + 1) + 1))), .int (b_a_all_m6 (Int32.toNatClampNeg ((r109 + 1) + 2))), .int ((r109 + 1) + 1)]) (rest := []) (wr := [((am 33), .inr (8, [.ref a_all_m33, .int size_m33])), (a_all_m33, .inl (cI, n_a_all_m33, .inl b_a_all_m33)), ((am 5), .inr (8, [.ref a_all_m5, .int size_m5])), (a_all_m5, .inl (cI, n_a_all_m5, .inl b_a_all_m5)), ((am 6), .inr (8, [.ref a_all_m6, .int size_m6])), (a_all_m6, .inl (cI, n_a_all_m6, .inl b_a_all_m6))]) (c_Mo_newNode l D cI cB cJ cS h0 am q202 q203 q204 q205 q206 q207 q208 q209 size_m24 33 (b_a_all_m6 (Int32.toNatClampNeg ((r109 + 1) + 1))) (b_a_all_m6 (Int32.toNatClampNeg ((r109 + 1) + 2))) ((r109 + 1) + 1) known_h0 thrown_h0 wrong_h0 lastEnd_h0 at_h0 bad_h0 levels_h0 least_h0 found_h0 r178 r186 r187 r179 r188 r189 r180 r190 r191 r181 r192 r193 r182 r194 r195 r183 r196 r197 r184 r198 r199 r185 r200 r201  r217 r218 r219 r220 r221 r222 r223 r224 r225 r226 r227 r228 r229 r230 r231 r232 r233 r234 r235 C244 S245 k248) k_Mo_386 (by decide) ⟨Nat.le_of_ble_eq_true rfl, Nat.le_of_ble_eq_true rfl⟩ rfl 0 rfl [20, 4, 12, 5, 13, 6, 14, 7, 15, 8, 16, 9, 17, 10, 18, 11, 19] [0, 1, 2, 3, 21, 22] rfl (by decide +kernel) rfl (by decide +kernel) (by decide +kernel) rfl rfl (Nat.le_of_ble_eq_true rfl) d_Mo_buildSimple_117 ⟨show 0 + C140 + C173 + C210 + C244 ≤ mc by omega, show 0 + S141 + S174 + S211 + S245 ≤ ms by omega⟩ (fun v w hq => ?_)
      obtain ⟨q236, q237, q238, q239, q240, q241, q242, q243, rfl, rfl⟩ := hq
      refine j_norm (pc' := 120) (st' := [.int r178]) (ws' := [((am 33), .inr (8, [.ref a_all_m33, .int size_m33])), (a_all_m33, .inl (cI, n_a_all_m33, .inl b_a_all_m33)), ((am 5), .inr (8, [.ref a_all_m5, .int size_m5])), (a_all_m5, .inl (cI, n_a_all_m5, .inl b_a_all_m5)), ((am 6), .inr (8, [.ref a_all_m6, .int size_m6])), (a_all_m6, .inl (cI, n_a_all_m6, .inl b_a_all_m6)), (h0, .inr (9, moF am known_h0 thrown_h0 wrong_h0 lastEnd_h0 at_h0 bad_h0 levels_h0 least_h0 found_h0)), ((am 24), .inr (8, [.ref q236, .int (r178 + 1)])), ((am 25), .inr (8, [.ref q237, .int (r179 + 1)])), ((am 26), .inr (8, [.ref q238, .int (r180 + 1)])), ((am 27), .inr (8, [.ref q239, .int (r181 + 1)])), ((am 28), .inr (8, [.ref q240, .int r217])), ((am 29), .inr (8, [.ref q241, .int r218])), ((am 30), .inr (8, [.ref q242, .int r219])), ((am 31), .inr (8, [.ref q243, .int (r185 + 1)])), (q236, .inl (cI, r220, .inl r221)), (q237, .inl (cI, r222, .inl r223)), (q238, .inl (cI, r224, .inl r225)), (q239, .inl (cI, r226, .inl r227)), (q240, .inl (cI, r228, .inl r229)), (q241, .inl (cI, r230, .inl r231)), (q242, .inl (cI, r232, .inl r233)), (q243, .inl (cI, r234, .inl r235))]) (cl' := 0 + C140 + C173 + C210 + C244) (sl' := 0 + S141 + S174 + S211 + S245) rfl rfl rfl rfl rfl rfl ?_
      refine j_istore (lv' := [(7, .int r178), (6, .int (size_m24 + 1)), (5, .int size_m24), (4, .int (r109 + 1)), (0, .ref h0), (1, .int p1), (2, .int p2), (3, .int p3)]) d_Mo_buildSimple_120 (by decide) rfl ?_
      refine j_aload_n d_Mo_buildSimple_122 rfl 4 rfl ?_
      refine j_iload d_Mo_buildSimple_123 0 rfl ?_
      refine j_iload d_Mo_buildSimple_125 3 rfl ?_
      refine j_iconst (v := 3) d_Mo_buildSimple_127 (by decide) ?_
      refine j_iadd d_Mo_buildSimple_128 ?_
      refine j_iload_n d_Mo_buildSimple_129 rfl 7 rfl ?_
      refine j_iconst (v := 1) d_Mo_buildSimple_130 (by decide) ?_
      refine j_isub d_Mo_buildSimple_131 ?_
      replace h := bw_s h
      obtain ⟨⟨r249, r250, r251⟩, C253, S254, C255, S256, k257, h, e1, e2⟩ := h
      replace hC : 0 + C140 + C173 + C210 + C244 + C253 + C255 ≤ mc := by omega
      replace hS : 0 + S141 + S174 + S211 + S245 + S254 + S256 ≤ ms := by omega
      clear e1 e2
      refine j_callV (n := 3) (As := [.int r178, .int ((r109 + 1) + 3), .int (p3 - 1)]) (rest := []) (wr := [((am 6), .inr (8, [.ref a_all_m6, .int size_m6])), (a_all_m6, .inl (cI, n_a_all_m6, .inl b_a_all_m6)), ((am 24), .inr (8, [.ref q236, .int (r178 + 1)])), ((am 25), .inr (8, [.ref q237, .int (r179 + 1)])), ((am 26), .inr (8, [.ref q238, .int (r180 + 1)])), ((am 27), .inr (8, [.ref q239, .int (r181 + 1)])), ((am 28), .inr (8, [.ref q240, .int r217])), ((am 29), .inr (8, [.ref q241, .int r218])), ((am 30), .inr (8, [.ref q242, .int r219])), ((am 31), .inr (8, [.ref q243, .int (r185 + 1)])), (q236, .inl (cI, r220, .inl r221)), (q237, .inl (cI, r222, .inl r223)), (q238, .inl (cI, r224, .inl r225)), (q239, .inl (cI, r226, .inl r227)), (q240, .inl (cI, r228, .inl r229)), (q241, .inl (cI, r230, .inl r231)), (q242, .inl (cI, r232, .inl r233)), (q243, .inl (cI, r234, .inl r235))]) (c_Mo_expressions l D cI cB cJ cS h0 am a_all_m33 a_all_m5 r178 ((r109 + 1) + 3) (p3 - 1) known_h0 thrown_h0 wrong_h0 lastEnd_h0 at_h0 bad_h0 levels_h0 least_h0 found_h0 size_m33 n_a_all_m33 b_a_all_m33 size_m5 n_a_all_m5 b_a_all_m5  r249 r250 r251 C253 S254 k257) k_Mo_439 (by decide) ⟨Nat.le_of_ble_eq_true rfl, Nat.le_of_ble_eq_true rfl⟩ rfl 0 rfl [6, 0, 1, 2, 3] [4, 5, 7, 8, 9, 10, 11, 12, 13, 14, 15, 16, 17, 18, 19, 20, 21, 22] rfl (by decide +kernel) rfl (by decide +kernel) (by decide +kernel) rfl rfl (Nat.le_of_ble_eq_true rfl) d_Mo_buildSimple_132 ⟨show 0 + C140 + C173 + C210 + C244 + C253 ≤ mc by omega, show 0 + S141 + S174 + S211 + S245 + S254 ≤ ms by omega⟩ (fun v w hq => ?_)
      obtain ⟨q252, rfl, rfl⟩ := hq
      refine j_norm (pc' := 135) (st' := []) (ws' := [((am 6), .inr (8, [.ref a_all_m6, .int size_m6])), (a_all_m6, .inl (cI, n_a_all_m6, .inl b_a_all_m6)), ((am 24), .inr (8, [.ref q236, .int (r178 + 1)])), ((am 25), .inr (8, [.ref q237, .int (r179 + 1)])), ((am 26), .inr (8, [.ref q238, .int (r180 + 1)])), ((am 27), .inr (8, [.ref q239, .int (r181 + 1)])), ((am 28), .inr (8, [.ref q240, .int r217])), ((am 29), .inr (8, [.ref q241, .int r218])), ((am 30), .inr (8, [.ref q242, .int r219])), ((am 31), .inr (8, [.ref q243, .int (r185 + 1)])), (q236, .inl (cI, r220, .inl r221)), (q237, .inl (cI, r222, .inl r223)), (q238, .inl (cI, r224, .inl r225)), (q239, .inl (cI, r226, .inl r227)), (q240, .inl (cI, r228, .inl r229)), (q241, .inl (cI, r230, .inl r231)), (q242, .inl (cI, r232, .inl r233)), (q243, .inl (cI, r234, .inl r235)), (h0, .inr (9, moF am known_h0 thrown_h0 wrong_h0 lastEnd_h0 at_h0 bad_h0 levels_h0 least_h0 found_h0)), ((am 33), .inr (8, [.ref q252, .int r249])), ((am 5), .inr (8, [.ref a_all_m5, .int size_m5])), (a_all_m5, .inl (cI, n_a_all_m5, .inl b_a_all_m5)), (q252, .inl (cI, r250, .inl r251))]) (cl' := 0 + C140 + C173 + C210 + C244 + C253) (sl' := 0 + S141 + S174 + S211 + S245 + S254) rfl rfl rfl rfl rfl rfl ?_
      replace h := lf_s h
      obtain ⟨h, e1, e2⟩ := h
      replace h := Prod.mk.inj h
      obtain ⟨h9, h⟩ := h
      subst h9
      replace h := Prod.mk.inj h
      obtain ⟨h9, h⟩ := h
      subst h9
      replace h := Prod.mk.inj h
      obtain ⟨h9, h⟩ := h
      subst h9
      replace h := Prod.mk.inj h
      obtain ⟨h9, h⟩ := h
      subst h9
      replace h := Prod.mk.inj h
      obtain ⟨h9, h⟩ := h
      subst h9
      replace h := Prod.mk.inj h
      obtain ⟨h9, h⟩ := h
      subst h9
      replace h := Prod.mk.inj h
      obtain ⟨h9, h⟩ := h
      subst h9
      replace h := Prod.mk.inj h
      obtain ⟨h9, h⟩ := h
      subst h9
      replace h := Prod.mk.inj h
      obtain ⟨h9, h⟩ := h
      subst h9
      replace h := Prod.mk.inj h
      obtain ⟨h9, h⟩ := h
      subst h9
      replace h := Prod.mk.inj h
      obtain ⟨h9, h⟩ := h
      subst h9
      replace h := Prod.mk.inj h
      obtain ⟨h9, h⟩ := h
      subst h9
      replace h := Prod.mk.inj h
      obtain ⟨h9, h⟩ := h
      subst h9
      replace h := Prod.mk.inj h
      obtain ⟨h9, h⟩ := h
      subst h9
      replace h := Prod.mk.inj h
      obtain ⟨h9, h⟩ := h
      subst h9
      replace h := Prod.mk.inj h
      obtain ⟨h9, h⟩ := h
      subst h9
      replace h := Prod.mk.inj h
      obtain ⟨h9, h⟩ := h
      subst h9
      replace h := Prod.mk.inj h
      obtain ⟨h9, h⟩ := h
      subst h9
      replace h := Prod.mk.inj h
      obtain ⟨h9, h⟩ := h
      subst h9
      replace h := Prod.mk.inj h
      obtain ⟨h9, h⟩ := h
      subst h9
      replace h := Prod.mk.inj h
      obtain ⟨h9, h⟩ := h
      subst h9
      replace h := Prod.mk.inj h
      obtain ⟨h9, h⟩ := h
      subst h9
      replace h := Prod.mk.inj h
      obtain ⟨h9, h⟩ := h
      subst h9
      replace h := Prod.mk.inj h
      obtain ⟨h9, h⟩ := h
      subst h9
      replace h := Prod.mk.inj h
      obtain ⟨h9, h⟩ := h
      subst h9
      replace h := Prod.mk.inj h
      obtain ⟨h9, h⟩ := h
      subst h9
      subst h
      refine j_widen (cl' := mc) (sl' := ms) (by omega) (by omega) ?_
      exact j_vret (w := [(h0, .inr (9, moF am known_h0 thrown_h0 wrong_h0 lastEnd_h0 at_h0 bad_h0 levels_h0 least_h0 found_h0)), ((am 5), .inr (8, [.ref a_all_m5, .int size_m5])), (a_all_m5, .inl (cI, n_a_all_m5, .inl b_a_all_m5)), ((am 6), .inr (8, [.ref a_all_m6, .int size_m6])), (a_all_m6, .inl (cI, n_a_all_m6, .inl b_a_all_m6)), ((am 24), .inr (8, [.ref q236, .int (r178 + 1)])), ((am 25), .inr (8, [.ref q237, .int (r179 + 1)])), ((am 26), .inr (8, [.ref q238, .int (r180 + 1)])), ((am 27), .inr (8, [.ref q239, .int (r181 + 1)])), ((am 28), .inr (8, [.ref q240, .int r217])), ((am 29), .inr (8, [.ref q241, .int r218])), ((am 30), .inr (8, [.ref q242, .int r219])), ((am 31), .inr (8, [.ref q243, .int (r185 + 1)])), ((am 33), .inr (8, [.ref q252, .int r249])), (q236, .inl (cI, r220, .inl r221)), (q237, .inl (cI, r222, .inl r223)), (q238, .inl (cI, r224, .inl r225)), (q239, .inl (cI, r226, .inl r227)), (q240, .inl (cI, r228, .inl r229)), (q241, .inl (cI, r230, .inl r231)), (q242, .inl (cI, r232, .inl r233)), (q243, .inl (cI, r234, .inl r235)), (q252, .inl (cI, r250, .inl r251))]) hr d_Mo_buildSimple_135 [18, 20, 21, 0, 1, 2, 3, 4, 5, 6, 7, 8, 9, 19, 10, 11, 12, 13, 14, 15, 16, 17, 22] rfl (by decide) ⟨q236, q237, q238, q239, q240, q241, q242, q243, q252, rfl, rfl⟩
noncomputable def F_Mo_buildIf_28 (p1 : Int32) (known_h0 : Int32) (thrown_h0 : Int32) (wrong_h0 : Int32) (lastEnd_h0 : Int32) (at_h0 : Int32) (bad_h0 : Int32) (levels_h0 : Int32) (least_h0 : Int32) (found_h0 : Int32) (size_m5 : Int32) (n_a_all_m5 : Nat) (b_a_all_m5 : Nat → Int32) (v3_2 : Int32) (f3_1_2 : Int32) (n4_2 : Nat) (b4_2 : Nat → Int32) (K_2 : Int32 → Int32 → Nat → (Nat → Int32) → Option ((Int32 × Nat × (Nat → Int32)) × Nat × Nat)) : Option ((Int32 × Nat × (Nat → Int32)) × Nat × Nat) :=
    Option.bind (F_Mo_closing (v3_2 + 1) known_h0 thrown_h0 wrong_h0 lastEnd_h0 at_h0 bad_h0 levels_h0 least_h0 found_h0 size_m5 n_a_all_m5 b_a_all_m5) fun r1 =>
    Option.bind (F_Mo_branchEnd (r1 + 1) known_h0 thrown_h0 wrong_h0 lastEnd_h0 at_h0 bad_h0 levels_h0 least_h0 found_h0 size_m5 n_a_all_m5 b_a_all_m5) fun r3 =>
    bw (F_Mo_task 1 p1 (v3_2 + 2) r1 1 known_h0 thrown_h0 wrong_h0 lastEnd_h0 at_h0 bad_h0 levels_h0 least_h0 found_h0 f3_1_2 n4_2 b4_2) fun ⟨r5, r6⟩ =>
    bw (F_Mo_task 2 p1 (r1 + 1) r3 r1 known_h0 thrown_h0 wrong_h0 lastEnd_h0 at_h0 bad_h0 levels_h0 least_h0 found_h0 (((((f3_1_2 + 1) + 1) + 1) + 1) + 1) r5 r6) fun ⟨r13, r14⟩ =>
    K_2 r3 ((((((((((f3_1_2 + 1) + 1) + 1) + 1) + 1) + 1) + 1) + 1) + 1) + 1) r13 r14
noncomputable def F_Mo_buildIf_2 (p1 : Int32) (known_h0 : Int32) (thrown_h0 : Int32) (wrong_h0 : Int32) (lastEnd_h0 : Int32) (at_h0 : Int32) (bad_h0 : Int32) (levels_h0 : Int32) (least_h0 : Int32) (found_h0 : Int32) (size_m5 : Int32) (n_a_all_m5 : Nat) (b_a_all_m5 : Nat → Int32) : Nat → Int32 → Int32 → Nat → (Nat → Int32) → Option ((Int32 × Nat × (Nat → Int32)) × Nat × Nat)
  | 0, _, _, _, _ => none
  | k_2 + 1, v3_2, f3_1_2, n4_2, b4_2 =>
    Option.bind (F_Nm_at v3_2 size_m5 n_a_all_m5 b_a_all_m5) fun _ =>
    if (b_a_all_m5 (Int32.toNatClampNeg v3_2)) = 10 then (F_Mo_buildIf_28 p1 known_h0 thrown_h0 wrong_h0 lastEnd_h0 at_h0 bad_h0 levels_h0 least_h0 found_h0 size_m5 n_a_all_m5 b_a_all_m5 v3_2 f3_1_2 n4_2 b4_2 (F_Mo_buildIf_2 p1 known_h0 thrown_h0 wrong_h0 lastEnd_h0 at_h0 bad_h0 levels_h0 least_h0 found_h0 size_m5 n_a_all_m5 b_a_all_m5  k_2)  )
    else (Option.bind (F_Nm_at v3_2 size_m5 n_a_all_m5 b_a_all_m5) fun _ =>
      if (b_a_all_m5 (Int32.toNatClampNeg v3_2)) = 11 then (F_Mo_buildIf_28 p1 known_h0 thrown_h0 wrong_h0 lastEnd_h0 at_h0 bad_h0 levels_h0 least_h0 found_h0 size_m5 n_a_all_m5 b_a_all_m5 v3_2 f3_1_2 n4_2 b4_2 (F_Mo_buildIf_2 p1 known_h0 thrown_h0 wrong_h0 lastEnd_h0 at_h0 bad_h0 levels_h0 least_h0 found_h0 size_m5 n_a_all_m5 b_a_all_m5  k_2)  )
      else (Option.bind (F_Nm_at v3_2 size_m5 n_a_all_m5 b_a_all_m5) fun _ =>
        if (b_a_all_m5 (Int32.toNatClampNeg v3_2)) = 12 then (Option.bind (F_Mo_branchEnd (v3_2 + 1) known_h0 thrown_h0 wrong_h0 lastEnd_h0 at_h0 bad_h0 levels_h0 least_h0 found_h0 size_m5 n_a_all_m5 b_a_all_m5) fun r27 =>
          bw (F_Mo_task 2 p1 (v3_2 + 1) r27 v3_2 known_h0 thrown_h0 wrong_h0 lastEnd_h0 at_h0 bad_h0 levels_h0 least_h0 found_h0 f3_1_2 n4_2 b4_2) fun ⟨r29, r30⟩ =>
          (some ((((((f3_1_2 + 1) + 1) + 1) + 1) + 1, r29, r30), 0, 0)))
        else (some ((f3_1_2, n4_2, b4_2), 0, 0))))
noncomputable def F_Mo_buildIf (p1 : Int32) (p2 : Int32) (known_h0 : Int32) (thrown_h0 : Int32) (wrong_h0 : Int32) (lastEnd_h0 : Int32) (at_h0 : Int32) (bad_h0 : Int32) (levels_h0 : Int32) (least_h0 : Int32) (found_h0 : Int32) (size_m5 : Int32) (n_a_all_m5 : Nat) (b_a_all_m5 : Nat → Int32) (size_m33 : Int32) (n_a_all_m33 : Nat) (b_a_all_m33 : Nat → Int32) : Option ((Int32 × Nat × (Nat → Int32)) × Nat × Nat) :=
  F_Mo_buildIf_2 p1 known_h0 thrown_h0 wrong_h0 lastEnd_h0 at_h0 bad_h0 levels_h0 least_h0 found_h0 size_m5 n_a_all_m5 b_a_all_m5  FU p2 size_m33 n_a_all_m33 b_a_all_m33
theorem d_Mo_buildIf_0 : decode prog_12_method_66_code 0 = .ok (.iload_n 2, 1) := by decide +kernel
theorem d_Mo_buildIf_1 : decode prog_12_method_66_code 1 = .ok (.istore_n 3, 1) := by decide +kernel
theorem d_Mo_buildIf_2 : decode prog_12_method_66_code 2 = .ok (.aload_n 0, 1) := by decide +kernel
theorem d_Mo_buildIf_3 : decode prog_12_method_66_code 3 = .ok (.getfield 114, 3) := by decide +kernel
theorem d_Mo_buildIf_6 : decode prog_12_method_66_code 6 = .ok (.iload_n 3, 1) := by decide +kernel
theorem d_Mo_buildIf_7 : decode prog_12_method_66_code 7 = .ok (.invokevirtual 214, 3) := by decide +kernel
theorem d_Mo_buildIf_10 : decode prog_12_method_66_code 10 = .ok (.bipush 10, 2) := by decide +kernel
theorem d_Mo_buildIf_12 : decode prog_12_method_66_code 12 = .ok (.if_icmp .eq 16, 3) := by decide +kernel
theorem d_Mo_buildIf_15 : decode prog_12_method_66_code 15 = .ok (.aload_n 0, 1) := by decide +kernel
theorem d_Mo_buildIf_16 : decode prog_12_method_66_code 16 = .ok (.getfield 114, 3) := by decide +kernel
theorem d_Mo_buildIf_19 : decode prog_12_method_66_code 19 = .ok (.iload_n 3, 1) := by decide +kernel
theorem d_Mo_buildIf_20 : decode prog_12_method_66_code 20 = .ok (.invokevirtual 214, 3) := by decide +kernel
theorem d_Mo_buildIf_23 : decode prog_12_method_66_code 23 = .ok (.bipush 11, 2) := by decide +kernel
theorem d_Mo_buildIf_25 : decode prog_12_method_66_code 25 = .ok (.if_icmp .ne 54, 3) := by decide +kernel
theorem d_Mo_buildIf_28 : decode prog_12_method_66_code 28 = .ok (.aload_n 0, 1) := by decide +kernel
theorem d_Mo_buildIf_29 : decode prog_12_method_66_code 29 = .ok (.iload_n 3, 1) := by decide +kernel
theorem d_Mo_buildIf_30 : decode prog_12_method_66_code 30 = .ok (.iconst 1, 1) := by decide +kernel
theorem d_Mo_buildIf_31 : decode prog_12_method_66_code 31 = .ok (.iadd, 1) := by decide +kernel
theorem d_Mo_buildIf_32 : decode prog_12_method_66_code 32 = .ok (.invokevirtual 350, 3) := by decide +kernel
theorem d_Mo_buildIf_35 : decode prog_12_method_66_code 35 = .ok (.istore 4, 2) := by decide +kernel
theorem d_Mo_buildIf_37 : decode prog_12_method_66_code 37 = .ok (.aload_n 0, 1) := by decide +kernel
theorem d_Mo_buildIf_38 : decode prog_12_method_66_code 38 = .ok (.iload 4, 2) := by decide +kernel
theorem d_Mo_buildIf_40 : decode prog_12_method_66_code 40 = .ok (.iconst 1, 1) := by decide +kernel
theorem d_Mo_buildIf_41 : decode prog_12_method_66_code 41 = .ok (.iadd, 1) := by decide +kernel
theorem d_Mo_buildIf_42 : decode prog_12_method_66_code 42 = .ok (.invokevirtual 436, 3) := by decide +kernel
theorem d_Mo_buildIf_45 : decode prog_12_method_66_code 45 = .ok (.istore 5, 2) := by decide +kernel
theorem d_Mo_buildIf_47 : decode prog_12_method_66_code 47 = .ok (.aload_n 0, 1) := by decide +kernel
theorem d_Mo_buildIf_48 : decode prog_12_method_66_code 48 = .ok (.iconst 1, 1) := by decide +kernel
theorem d_Mo_buildIf_49 : decode prog_12_method_66_code 49 = .ok (.iload_n 1, 1) := by decide +kernel
theorem d_Mo_buildIf_50 : decode prog_12_method_66_code 50 = .ok (.iload_n 3, 1) := by decide +kernel
theorem d_Mo_buildIf_51 : decode prog_12_method_66_code 51 = .ok (.iconst 2, 1) := by decide +kernel
theorem d_Mo_buildIf_52 : decode prog_12_method_66_code 52 = .ok (.iadd, 1) := by decide +kernel
theorem d_Mo_buildIf_53 : decode prog_12_method_66_code 53 = .ok (.iload 4, 2) := by decide +kernel
theorem d_Mo_buildIf_55 : decode prog_12_method_66_code 55 = .ok (.iconst 1, 1) := by decide +kernel
theorem d_Mo_buildIf_56 : decode prog_12_method_66_code 56 = .ok (.invokevirtual 390, 3) := by decide +kernel
theorem d_Mo_buildIf_59 : decode prog_12_method_66_code 59 = .ok (.aload_n 0, 1) := by decide +kernel
theorem d_Mo_buildIf_60 : decode prog_12_method_66_code 60 = .ok (.iconst 2, 1) := by decide +kernel
theorem d_Mo_buildIf_61 : decode prog_12_method_66_code 61 = .ok (.iload_n 1, 1) := by decide +kernel
theorem d_Mo_buildIf_62 : decode prog_12_method_66_code 62 = .ok (.iload 4, 2) := by decide +kernel
theorem d_Mo_buildIf_64 : decode prog_12_method_66_code 64 = .ok (.iconst 1, 1) := by decide +kernel
theorem d_Mo_buildIf_65 : decode prog_12_method_66_code 65 = .ok (.iadd, 1) := by decide +kernel
theorem d_Mo_buildIf_66 : decode prog_12_method_66_code 66 = .ok (.iload 5, 2) := by decide +kernel
theorem d_Mo_buildIf_68 : decode prog_12_method_66_code 68 = .ok (.iload 4, 2) := by decide +kernel
theorem d_Mo_buildIf_70 : decode prog_12_method_66_code 70 = .ok (.invokevirtual 390, 3) := by decide +kernel
theorem d_Mo_buildIf_73 : decode prog_12_method_66_code 73 = .ok (.iload 5, 2) := by decide +kernel
theorem d_Mo_buildIf_75 : decode prog_12_method_66_code 75 = .ok (.istore_n 3, 1) := by decide +kernel
theorem d_Mo_buildIf_76 : decode prog_12_method_66_code 76 = .ok (.goto (-74), 3) := by decide +kernel
theorem d_Mo_buildIf_79 : decode prog_12_method_66_code 79 = .ok (.aload_n 0, 1) := by decide +kernel
theorem d_Mo_buildIf_80 : decode prog_12_method_66_code 80 = .ok (.getfield 114, 3) := by decide +kernel
theorem d_Mo_buildIf_83 : decode prog_12_method_66_code 83 = .ok (.iload_n 3, 1) := by decide +kernel
theorem d_Mo_buildIf_84 : decode prog_12_method_66_code 84 = .ok (.invokevirtual 214, 3) := by decide +kernel
theorem d_Mo_buildIf_87 : decode prog_12_method_66_code 87 = .ok (.bipush 12, 2) := by decide +kernel
theorem d_Mo_buildIf_89 : decode prog_12_method_66_code 89 = .ok (.if_icmp .ne 20, 3) := by decide +kernel
theorem d_Mo_buildIf_92 : decode prog_12_method_66_code 92 = .ok (.aload_n 0, 1) := by decide +kernel
theorem d_Mo_buildIf_93 : decode prog_12_method_66_code 93 = .ok (.iconst 2, 1) := by decide +kernel
theorem d_Mo_buildIf_94 : decode prog_12_method_66_code 94 = .ok (.iload_n 1, 1) := by decide +kernel
theorem d_Mo_buildIf_95 : decode prog_12_method_66_code 95 = .ok (.iload_n 3, 1) := by decide +kernel
theorem d_Mo_buildIf_96 : decode prog_12_method_66_code 96 = .ok (.iconst 1, 1) := by decide +kernel
theorem d_Mo_buildIf_97 : decode prog_12_method_66_code 97 = .ok (.iadd, 1) := by decide +kernel
theorem d_Mo_buildIf_98 : decode prog_12_method_66_code 98 = .ok (.aload_n 0, 1) := by decide +kernel
theorem d_Mo_buildIf_99 : decode prog_12_method_66_code 99 = .ok (.iload_n 3, 1) := by decide +kernel
theorem d_Mo_buildIf_100 : decode prog_12_method_66_code 100 = .ok (.iconst 1, 1) := by decide +kernel
theorem d_Mo_buildIf_101 : decode prog_12_method_66_code 101 = .ok (.iadd, 1) := by decide +kernel
theorem d_Mo_buildIf_102 : decode prog_12_method_66_code 102 = .ok (.invokevirtual 436, 3) := by decide +kernel
theorem d_Mo_buildIf_105 : decode prog_12_method_66_code 105 = .ok (.iload_n 3, 1) := by decide +kernel
theorem d_Mo_buildIf_106 : decode prog_12_method_66_code 106 = .ok (.invokevirtual 390, 3) := by decide +kernel
theorem d_Mo_buildIf_109 : decode prog_12_method_66_code 109 = .ok (.return_, 1) := by decide +kernel
set_option maxHeartbeats 4000000 in
set_option maxRecDepth 100000 in
theorem L_Mo_buildIf_2 (l : Launch) (D : va_G) (cI cB cJ cS : ClassId) (h0 : Nat) (am : Nat → Nat) (a_all_m5 : Nat) (a_all_m33 : Nat) (p1 : Int32) (p2 : Int32) (known_h0 : Int32) (thrown_h0 : Int32) (wrong_h0 : Int32) (lastEnd_h0 : Int32) (at_h0 : Int32) (bad_h0 : Int32) (levels_h0 : Int32) (least_h0 : Int32) (found_h0 : Int32) (size_m5 : Int32) (n_a_all_m5 : Nat) (b_a_all_m5 : Nat → Int32) (size_m33 : Int32) (n_a_all_m33 : Nat) (b_a_all_m33 : Nat → Int32) (o_3_1 : Int32) (on_nq_3_0 : Nat) (ob_nq_3_0 : Nat → Int32) (mc ms : Nat) (p : Program) (e : Env) (s : State) (m : MethodId) (below : List Frame) (meth : Method) (c : Code) (hr : meth.sig.returnType = (Option.none : Option Jvm.ClassFile.FieldType)) (hnm : meth.name = y_Mo_buildIf.name) : ∀ (k_2 : Nat) (q3_0_2 : Nat) (v3_2 : Int32) (f3_1_2 : Int32) (n4_2 : Nat) (b4_2 : Nat → Int32) (cl_2 sl_2 C_2 S_2 : Nat), F_Mo_buildIf_2 p1 known_h0 thrown_h0 wrong_h0 lastEnd_h0 at_h0 bad_h0 levels_h0 least_h0 found_h0 size_m5 n_a_all_m5 b_a_all_m5  k_2 v3_2 f3_1_2 n4_2 b4_2 = some ((o_3_1, on_nq_3_0, ob_nq_3_0), C_2, S_2) → cl_2 + C_2 ≤ mc → sl_2 + S_2 ≤ ms → J (KxOf p l e { frames := 3, cells := mc, slots := ms, locals := 69 } s m [.ref h0, .int p1, .int p2].toArray below meth c D (gT cI cB cJ cS) [(h0, .inr (9, moF am known_h0 thrown_h0 wrong_h0 lastEnd_h0 at_h0 bad_h0 levels_h0 least_h0 found_h0)), ((am 5), .inr (8, [.ref a_all_m5, .int size_m5])), (a_all_m5, .inl (cI, n_a_all_m5, .inl b_a_all_m5)), ((am 33), .inr (8, [.ref a_all_m33, .int size_m33])), (a_all_m33, .inl (cI, n_a_all_m33, .inl b_a_all_m33))] (fun v w => ∃ nq_3_0 : Nat, v = none ∧ w = [(h0, .inr (9, moF am known_h0 thrown_h0 wrong_h0 lastEnd_h0 at_h0 bad_h0 levels_h0 least_h0 found_h0)), ((am 5), .inr (8, [.ref a_all_m5, .int size_m5])), (a_all_m5, .inl (cI, n_a_all_m5, .inl b_a_all_m5)), ((am 33), .inr (8, [.ref nq_3_0, .int o_3_1])), (nq_3_0, .inl (cI, on_nq_3_0, .inl ob_nq_3_0))]) mc ms) prog_12_method_66_code 6 R_Mo 2 [(3, .int v3_2), (0, .ref h0), (1, .int p1), (2, .int p2)] [] [(h0, .inr (9, moF am known_h0 thrown_h0 wrong_h0 lastEnd_h0 at_h0 bad_h0 levels_h0 least_h0 found_h0)), ((am 5), .inr (8, [.ref a_all_m5, .int size_m5])), (a_all_m5, .inl (cI, n_a_all_m5, .inl b_a_all_m5)), ((am 33), .inr (8, [.ref q3_0_2, .int f3_1_2])), (q3_0_2, .inl (cI, n4_2, .inl b4_2))] cl_2 sl_2 := by
  intro k_2
  induction k_2 with
  | zero => intro q3_0_2 v3_2 f3_1_2 n4_2 b4_2 cl_2 sl_2 C_2 S_2 h; rw [F_Mo_buildIf_2] at h; cases h
  | succ k_2 ih_2 =>
    intro q3_0_2 v3_2 f3_1_2 n4_2 b4_2 cl_2 sl_2 C_2 S_2 h hC hS
    rw [F_Mo_buildIf_2] at h
    have L_28 : ∀ (cl_28 sl_28 C_28 S_28 : Nat), F_Mo_buildIf_28 p1 known_h0 thrown_h0 wrong_h0 lastEnd_h0 at_h0 bad_h0 levels_h0 least_h0 found_h0 size_m5 n_a_all_m5 b_a_all_m5 v3_2 f3_1_2 n4_2 b4_2 (F_Mo_buildIf_2 p1 known_h0 thrown_h0 wrong_h0 lastEnd_h0 at_h0 bad_h0 levels_h0 least_h0 found_h0 size_m5 n_a_all_m5 b_a_all_m5  k_2)   = some ((o_3_1, on_nq_3_0, ob_nq_3_0), C_28, S_28) → cl_28 + C_28 ≤ mc → sl_28 + S_28 ≤ ms → J (KxOf p l e { frames := 3, cells := mc, slots := ms, locals := 69 } s m [.ref h0, .int p1, .int p2].toArray below meth c D (gT cI cB cJ cS) [(h0, .inr (9, moF am known_h0 thrown_h0 wrong_h0 lastEnd_h0 at_h0 bad_h0 levels_h0 least_h0 found_h0)), ((am 5), .inr (8, [.ref a_all_m5, .int size_m5])), (a_all_m5, .inl (cI, n_a_all_m5, .inl b_a_all_m5)), ((am 33), .inr (8, [.ref a_all_m33, .int size_m33])), (a_all_m33, .inl (cI, n_a_all_m33, .inl b_a_all_m33))] (fun v w => ∃ nq_3_0 : Nat, v = none ∧ w = [(h0, .inr (9, moF am known_h0 thrown_h0 wrong_h0 lastEnd_h0 at_h0 bad_h0 levels_h0 least_h0 found_h0)), ((am 5), .inr (8, [.ref a_all_m5, .int size_m5])), (a_all_m5, .inl (cI, n_a_all_m5, .inl b_a_all_m5)), ((am 33), .inr (8, [.ref nq_3_0, .int o_3_1])), (nq_3_0, .inl (cI, on_nq_3_0, .inl ob_nq_3_0))]) mc ms) prog_12_method_66_code 6 R_Mo 28 [(3, .int v3_2), (0, .ref h0), (1, .int p1), (2, .int p2)] [] [(h0, .inr (9, moF am known_h0 thrown_h0 wrong_h0 lastEnd_h0 at_h0 bad_h0 levels_h0 least_h0 found_h0)), ((am 33), .inr (8, [.ref q3_0_2, .int f3_1_2])), (q3_0_2, .inl (cI, n4_2, .inl b4_2)), ((am 5), .inr (8, [.ref a_all_m5, .int size_m5])), (a_all_m5, .inl (cI, n_a_all_m5, .inl b_a_all_m5))] cl_28 sl_28 := by
      clear h
      intro  cl_28 sl_28 C_28 S_28 h hC hS
      unfold F_Mo_buildIf_28 at h
      refine j_aload_n d_Mo_buildIf_28 rfl 1 rfl ?_
      refine j_iload_n d_Mo_buildIf_29 rfl 0 rfl ?_
      refine j_iconst (v := 1) d_Mo_buildIf_30 (by decide) ?_
      refine j_iadd d_Mo_buildIf_31 ?_
      replace h := bd_s h
      obtain ⟨r1, k2, h⟩ := h
      refine j_callV (n := 1) (As := [.int (v3_2 + 1)]) (rest := []) (wr := [((am 33), .inr (8, [.ref q3_0_2, .int f3_1_2])), (q3_0_2, .inl (cI, n4_2, .inl b4_2))]) (c_Mo_closing l D cI cB cJ cS h0 am a_all_m5 (v3_2 + 1) known_h0 thrown_h0 wrong_h0 lastEnd_h0 at_h0 bad_h0 levels_h0 least_h0 found_h0 size_m5 n_a_all_m5 b_a_all_m5  r1 k2) k_Mo_350 (by decide) ⟨Nat.le_of_ble_eq_true rfl, Nat.le_of_ble_eq_true rfl⟩ rfl 0 rfl [0, 3, 4] [1, 2] rfl (by decide) rfl (by decide) (by decide) rfl rfl (Nat.le_of_ble_eq_true rfl) d_Mo_buildIf_32 ⟨show cl_28 + 0 ≤ mc by omega, show sl_28 + 0 ≤ ms by omega⟩ (fun v w hq => ?_)
      obtain ⟨rfl, rfl⟩ := hq
      refine j_norm (pc' := 35) (st' := [.int r1]) (ws' := [((am 33), .inr (8, [.ref q3_0_2, .int f3_1_2])), (q3_0_2, .inl (cI, n4_2, .inl b4_2)), (h0, .inr (9, moF am known_h0 thrown_h0 wrong_h0 lastEnd_h0 at_h0 bad_h0 levels_h0 least_h0 found_h0)), ((am 5), .inr (8, [.ref a_all_m5, .int size_m5])), (a_all_m5, .inl (cI, n_a_all_m5, .inl b_a_all_m5))]) (cl' := cl_28) (sl' := sl_28) rfl rfl rfl rfl rfl rfl ?_
      refine j_istore (lv' := [(4, .int r1), (3, .int v3_2), (0, .ref h0), (1, .int p1), (2, .int p2)]) d_Mo_buildIf_35 (by decide) rfl ?_
      refine j_aload_n d_Mo_buildIf_37 rfl 2 rfl ?_
      refine j_iload d_Mo_buildIf_38 0 rfl ?_
      refine j_iconst (v := 1) d_Mo_buildIf_40 (by decide) ?_
      refine j_iadd d_Mo_buildIf_41 ?_
      replace h := bd_s h
      obtain ⟨r3, k4, h⟩ := h
      refine j_callV (n := 1) (As := [.int (r1 + 1)]) (rest := []) (wr := [((am 33), .inr (8, [.ref q3_0_2, .int f3_1_2])), (q3_0_2, .inl (cI, n4_2, .inl b4_2))]) (c_Mo_branchEnd l D cI cB cJ cS h0 am a_all_m5 (r1 + 1) known_h0 thrown_h0 wrong_h0 lastEnd_h0 at_h0 bad_h0 levels_h0 least_h0 found_h0 size_m5 n_a_all_m5 b_a_all_m5  r3 k4) k_Mo_436 (by decide) ⟨Nat.le_of_ble_eq_true rfl, Nat.le_of_ble_eq_true rfl⟩ rfl 0 rfl [2, 3, 4] [0, 1] rfl (by decide) rfl (by decide) (by decide) rfl rfl (Nat.le_of_ble_eq_true rfl) d_Mo_buildIf_42 ⟨show cl_28 + 0 ≤ mc by omega, show sl_28 + 0 ≤ ms by omega⟩ (fun v w hq => ?_)
      obtain ⟨rfl, rfl⟩ := hq
      refine j_norm (pc' := 45) (st' := [.int r3]) (ws' := [((am 33), .inr (8, [.ref q3_0_2, .int f3_1_2])), (q3_0_2, .inl (cI, n4_2, .inl b4_2)), (h0, .inr (9, moF am known_h0 thrown_h0 wrong_h0 lastEnd_h0 at_h0 bad_h0 levels_h0 least_h0 found_h0)), ((am 5), .inr (8, [.ref a_all_m5, .int size_m5])), (a_all_m5, .inl (cI, n_a_all_m5, .inl b_a_all_m5))]) (cl' := cl_28) (sl' := sl_28) rfl rfl rfl rfl rfl rfl ?_
      refine j_istore (lv' := [(5, .int r3), (4, .int r1), (3, .int v3_2), (0, .ref h0), (1, .int p1), (2, .int p2)]) d_Mo_buildIf_45 (by decide) rfl ?_
      refine j_aload_n d_Mo_buildIf_47 rfl 3 rfl ?_
      refine j_iconst (v := 1) d_Mo_buildIf_48 (by decide) ?_
      refine j_iload_n d_Mo_buildIf_49 rfl 4 rfl ?_
      refine j_iload_n d_Mo_buildIf_50 rfl 2 rfl ?_
      refine j_iconst (v := 2) d_Mo_buildIf_51 (by decide) ?_
      refine j_iadd d_Mo_buildIf_52 ?_
      refine j_iload d_Mo_buildIf_53 1 rfl ?_
      refine j_iconst (v := 1) d_Mo_buildIf_55 (by decide) ?_
      replace h := bw_s h
      obtain ⟨⟨r5, r6⟩, C8, S9, C10, S11, k12, h, e1, e2⟩ := h
      replace hC : cl_28 + C8 + C10 ≤ mc := by omega
      replace hS : sl_28 + S9 + S11 ≤ ms := by omega
      clear e1 e2
      refine j_callV (n := 5) (As := [.int 1, .int p1, .int (v3_2 + 2), .int r1, .int 1]) (rest := []) (wr := [((am 5), .inr (8, [.ref a_all_m5, .int size_m5])), (a_all_m5, .inl (cI, n_a_all_m5, .inl b_a_all_m5))]) (c_Mo_task l D cI cB cJ cS h0 am q3_0_2 1 p1 (v3_2 + 2) r1 1 known_h0 thrown_h0 wrong_h0 lastEnd_h0 at_h0 bad_h0 levels_h0 least_h0 found_h0 f3_1_2 n4_2 b4_2  r5 r6 C8 S9 k12) k_Mo_390 (by decide) ⟨Nat.le_of_ble_eq_true rfl, Nat.le_of_ble_eq_true rfl⟩ rfl 0 rfl [2, 0, 1] [3, 4] rfl (by decide) rfl (by decide) (by decide) rfl rfl (Nat.le_of_ble_eq_true rfl) d_Mo_buildIf_56 ⟨show cl_28 + C8 ≤ mc by omega, show sl_28 + S9 ≤ ms by omega⟩ (fun v w hq => ?_)
      obtain ⟨q7, rfl, rfl⟩ := hq
      refine j_norm (pc' := 59) (st' := []) (ws' := [((am 5), .inr (8, [.ref a_all_m5, .int size_m5])), (a_all_m5, .inl (cI, n_a_all_m5, .inl b_a_all_m5)), (h0, .inr (9, moF am known_h0 thrown_h0 wrong_h0 lastEnd_h0 at_h0 bad_h0 levels_h0 least_h0 found_h0)), ((am 33), .inr (8, [.ref q7, .int (((((f3_1_2 + 1) + 1) + 1) + 1) + 1)])), (q7, .inl (cI, r5, .inl r6))]) (cl' := cl_28 + C8) (sl' := sl_28 + S9) rfl rfl rfl rfl rfl rfl ?_
      refine j_aload_n d_Mo_buildIf_59 rfl 3 rfl ?_
      refine j_iconst (v := 2) d_Mo_buildIf_60 (by decide) ?_
      refine j_iload_n d_Mo_buildIf_61 rfl 4 rfl ?_
      refine j_iload d_Mo_buildIf_62 1 rfl ?_
      refine j_iconst (v := 1) d_Mo_buildIf_64 (by decide) ?_
      refine j_iadd d_Mo_buildIf_65 ?_
      refine j_iload d_Mo_buildIf_66 0 rfl ?_
      refine j_iload d_Mo_buildIf_68 1 rfl ?_
      replace h := bw_s h
      obtain ⟨⟨r13, r14⟩, C16, S17, C18, S19, k20, h, e1, e2⟩ := h
      replace hC : cl_28 + C8 + C16 + C18 ≤ mc := by omega
      replace hS : sl_28 + S9 + S17 + S19 ≤ ms := by omega
      clear e1 e2
      refine j_callV (n := 5) (As := [.int 2, .int p1, .int (r1 + 1), .int r3, .int r1]) (rest := []) (wr := [((am 5), .inr (8, [.ref a_all_m5, .int size_m5])), (a_all_m5, .inl (cI, n_a_all_m5, .inl b_a_all_m5))]) (c_Mo_task l D cI cB cJ cS h0 am q7 2 p1 (r1 + 1) r3 r1 known_h0 thrown_h0 wrong_h0 lastEnd_h0 at_h0 bad_h0 levels_h0 least_h0 found_h0 (((((f3_1_2 + 1) + 1) + 1) + 1) + 1) r5 r6  r13 r14 C16 S17 k20) k_Mo_390 (by decide) ⟨Nat.le_of_ble_eq_true rfl, Nat.le_of_ble_eq_true rfl⟩ rfl 0 rfl [2, 3, 4] [0, 1] rfl (by decide) rfl (by decide) (by decide) rfl rfl (Nat.le_of_ble_eq_true rfl) d_Mo_buildIf_70 ⟨show cl_28 + C8 + C16 ≤ mc by omega, show sl_28 + S9 + S17 ≤ ms by omega⟩ (fun v w hq => ?_)
      obtain ⟨q15, rfl, rfl⟩ := hq
      refine j_norm (pc' := 73) (st' := []) (ws' := [((am 5), .inr (8, [.ref a_all_m5, .int size_m5])), (a_all_m5, .inl (cI, n_a_all_m5, .inl b_a_all_m5)), (h0, .inr (9, moF am known_h0 thrown_h0 wrong_h0 lastEnd_h0 at_h0 bad_h0 levels_h0 least_h0 found_h0)), ((am 33), .inr (8, [.ref q15, .int ((((((((((f3_1_2 + 1) + 1) + 1) + 1) + 1) + 1) + 1) + 1) + 1) + 1)])), (q15, .inl (cI, r13, .inl r14))]) (cl' := cl_28 + C8 + C16) (sl' := sl_28 + S9 + S17) rfl rfl rfl rfl rfl rfl ?_
      refine j_iload d_Mo_buildIf_73 0 rfl ?_
      refine j_istore_n (lv' := [(3, .int r3), (5, .int r3), (4, .int r1), (0, .ref h0), (1, .int p1), (2, .int p2)]) d_Mo_buildIf_75 rfl (by decide) rfl ?_
      refine j_goto (tgt := 2) d_Mo_buildIf_76 (by decide) ?_
      refine j_sub (w := [(h0, .inr (9, moF am known_h0 thrown_h0 wrong_h0 lastEnd_h0 at_h0 bad_h0 levels_h0 least_h0 found_h0)), ((am 5), .inr (8, [.ref a_all_m5, .int size_m5])), (a_all_m5, .inl (cI, n_a_all_m5, .inl b_a_all_m5)), ((am 33), .inr (8, [.ref q15, .int ((((((((((f3_1_2 + 1) + 1) + 1) + 1) + 1) + 1) + 1) + 1) + 1) + 1)])), (q15, .inl (cI, r13, .inl r14))]) (lv' := [(3, .int r3), (0, .ref h0), (1, .int p1), (2, .int p2)]) [2, 0, 1, 3, 4] rfl (by decide) [0, 3, 4, 5] rfl ?_
      exact ih_2 q15 r3 ((((((((((f3_1_2 + 1) + 1) + 1) + 1) + 1) + 1) + 1) + 1) + 1) + 1) r13 r14 (cl_28 + C8 + C16) (sl_28 + S9 + S17) C18 S19 h hC hS
    refine j_aload_n d_Mo_buildIf_2 rfl 1 rfl ?_
    refine j_get ig_Mo rfl 0 rfl 5 (by decide) rfl m_1118 rfl d_Mo_buildIf_3 ?_
    refine j_iload_n d_Mo_buildIf_6 rfl 0 rfl ?_
    replace h := bd_s h
    obtain ⟨_, k21, h⟩ := h
    refine j_callV (n := 1) (As := [.int v3_2]) (rest := []) (wr := [(h0, .inr (9, moF am known_h0 thrown_h0 wrong_h0 lastEnd_h0 at_h0 bad_h0 levels_h0 least_h0 found_h0)), ((am 33), .inr (8, [.ref q3_0_2, .int f3_1_2])), (q3_0_2, .inl (cI, n4_2, .inl b4_2))]) (c_Nm_at l D cI cB cJ cS (am 5) a_all_m5 v3_2 size_m5 n_a_all_m5 b_a_all_m5  k21) k_Mo_214 (by decide) ⟨Nat.le_of_ble_eq_true rfl, Nat.le_of_ble_eq_true rfl⟩ rfl 0 rfl [1, 2] [0, 3, 4] rfl (by decide) rfl (by decide) (by decide) rfl rfl (Nat.le_of_ble_eq_true rfl) d_Mo_buildIf_7 ⟨show cl_2 + 0 ≤ mc by omega, show sl_2 + 0 ≤ ms by omega⟩ (fun v w hq => ?_)
    obtain ⟨rfl, rfl⟩ := hq
    refine j_norm (pc' := 10) (st' := [.int (b_a_all_m5 (Int32.toNatClampNeg v3_2))]) (ws' := [(h0, .inr (9, moF am known_h0 thrown_h0 wrong_h0 lastEnd_h0 at_h0 bad_h0 levels_h0 least_h0 found_h0)), ((am 33), .inr (8, [.ref q3_0_2, .int f3_1_2])), (q3_0_2, .inl (cI, n4_2, .inl b4_2)), ((am 5), .inr (8, [.ref a_all_m5, .int size_m5])), (a_all_m5, .inl (cI, n_a_all_m5, .inl b_a_all_m5))]) (cl' := cl_2) (sl' := sl_2) rfl rfl rfl rfl rfl rfl ?_
    refine j_bipush (v := 10) d_Mo_buildIf_10 (by decide) ?_
    refine j_icmp_eq (tgt := 28) d_Mo_buildIf_12 (by decide) (fun c22 => ?_) (fun c22 => ?_)
    · replace h := it_t c22 h
      refine j_sub (w := [(h0, .inr (9, moF am known_h0 thrown_h0 wrong_h0 lastEnd_h0 at_h0 bad_h0 levels_h0 least_h0 found_h0)), ((am 33), .inr (8, [.ref q3_0_2, .int f3_1_2])), (q3_0_2, .inl (cI, n4_2, .inl b4_2)), ((am 5), .inr (8, [.ref a_all_m5, .int size_m5])), (a_all_m5, .inl (cI, n_a_all_m5, .inl b_a_all_m5))]) (lv' := [(3, .int v3_2), (0, .ref h0), (1, .int p1), (2, .int p2)]) [0, 1, 2, 3, 4] rfl (by decide) [0, 1, 2, 3] rfl ?_
      exact L_28  cl_2 sl_2 C_2 S_2 h hC hS
    · replace h := it_f c22 h
      refine j_aload_n d_Mo_buildIf_15 rfl 1 rfl ?_
      refine j_get ig_Mo rfl 0 rfl 5 (by decide) rfl m_1118 rfl d_Mo_buildIf_16 ?_
      refine j_iload_n d_Mo_buildIf_19 rfl 0 rfl ?_
      replace h := bd_s h
      obtain ⟨_, k23, h⟩ := h
      refine j_callV (n := 1) (As := [.int v3_2]) (rest := []) (wr := [(h0, .inr (9, moF am known_h0 thrown_h0 wrong_h0 lastEnd_h0 at_h0 bad_h0 levels_h0 least_h0 found_h0)), ((am 33), .inr (8, [.ref q3_0_2, .int f3_1_2])), (q3_0_2, .inl (cI, n4_2, .inl b4_2))]) (c_Nm_at l D cI cB cJ cS (am 5) a_all_m5 v3_2 size_m5 n_a_all_m5 b_a_all_m5  k23) k_Mo_214 (by decide) ⟨Nat.le_of_ble_eq_true rfl, Nat.le_of_ble_eq_true rfl⟩ rfl 0 rfl [3, 4] [0, 1, 2] rfl (by decide) rfl (by decide) (by decide) rfl rfl (Nat.le_of_ble_eq_true rfl) d_Mo_buildIf_20 ⟨show cl_2 + 0 ≤ mc by omega, show sl_2 + 0 ≤ ms by omega⟩ (fun v w hq => ?_)
      obtain ⟨rfl, rfl⟩ := hq
      refine j_norm (pc' := 23) (st' := [.int (b_a_all_m5 (Int32.toNatClampNeg v3_2))]) (ws' := [(h0, .inr (9, moF am known_h0 thrown_h0 wrong_h0 lastEnd_h0 at_h0 bad_h0 levels_h0 least_h0 found_h0)), ((am 33), .inr (8, [.ref q3_0_2, .int f3_1_2])), (q3_0_2, .inl (cI, n4_2, .inl b4_2)), ((am 5), .inr (8, [.ref a_all_m5, .int size_m5])), (a_all_m5, .inl (cI, n_a_all_m5, .inl b_a_all_m5))]) (cl' := cl_2) (sl' := sl_2) rfl rfl rfl rfl rfl rfl ?_
      refine j_bipush (v := 11) d_Mo_buildIf_23 (by decide) ?_
      refine j_icmp_ne (tgt := 79) d_Mo_buildIf_25 (by decide) (fun c24 => ?_) (fun c24 => ?_)
      · replace h := it_f c24 h
        refine j_aload_n d_Mo_buildIf_79 rfl 1 rfl ?_
        refine j_get ig_Mo rfl 0 rfl 5 (by decide) rfl m_1118 rfl d_Mo_buildIf_80 ?_
        refine j_iload_n d_Mo_buildIf_83 rfl 0 rfl ?_
        replace h := bd_s h
        obtain ⟨_, k25, h⟩ := h
        refine j_callV (n := 1) (As := [.int v3_2]) (rest := []) (wr := [(h0, .inr (9, moF am known_h0 thrown_h0 wrong_h0 lastEnd_h0 at_h0 bad_h0 levels_h0 least_h0 found_h0)), ((am 33), .inr (8, [.ref q3_0_2, .int f3_1_2])), (q3_0_2, .inl (cI, n4_2, .inl b4_2))]) (c_Nm_at l D cI cB cJ cS (am 5) a_all_m5 v3_2 size_m5 n_a_all_m5 b_a_all_m5  k25) k_Mo_214 (by decide) ⟨Nat.le_of_ble_eq_true rfl, Nat.le_of_ble_eq_true rfl⟩ rfl 0 rfl [3, 4] [0, 1, 2] rfl (by decide) rfl (by decide) (by decide) rfl rfl (Nat.le_of_ble_eq_true rfl) d_Mo_buildIf_84 ⟨show cl_2 + 0 ≤ mc by omega, show sl_2 + 0 ≤ ms by omega⟩ (fun v w hq => ?_)
        obtain ⟨rfl, rfl⟩ := hq
        refine j_norm (pc' := 87) (st' := [.int (b_a_all_m5 (Int32.toNatClampNeg v3_2))]) (ws' := [(h0, .inr (9, moF am known_h0 thrown_h0 wrong_h0 lastEnd_h0 at_h0 bad_h0 levels_h0 least_h0 found_h0)), ((am 33), .inr (8, [.ref q3_0_2, .int f3_1_2])), (q3_0_2, .inl (cI, n4_2, .inl b4_2)), ((am 5), .inr (8, [.ref a_all_m5, .int size_m5])), (a_all_m5, .inl (cI, n_a_all_m5, .inl b_a_all_m5))]) (cl' := cl_2) (sl' := sl_2) rfl rfl rfl rfl rfl rfl ?_
        refine j_bipush (v := 12) d_Mo_buildIf_87 (by decide) ?_
        refine j_icmp_ne (tgt := 109) d_Mo_buildIf_89 (by decide) (fun c26 => ?_) (fun c26 => ?_)
        · replace h := it_f c26 h
          replace h := lf_s h
          obtain ⟨h, e1, e2⟩ := h
          replace h := Prod.mk.inj h
          obtain ⟨h9, h⟩ := h
          subst h9
          replace h := Prod.mk.inj h
          obtain ⟨h9, h⟩ := h
          subst h9
          subst h
          refine j_widen (cl' := mc) (sl' := ms) (by omega) (by omega) ?_
          exact j_vret (w := [(h0, .inr (9, moF am known_h0 thrown_h0 wrong_h0 lastEnd_h0 at_h0 bad_h0 levels_h0 least_h0 found_h0)), ((am 5), .inr (8, [.ref a_all_m5, .int size_m5])), (a_all_m5, .inl (cI, n_a_all_m5, .inl b_a_all_m5)), ((am 33), .inr (8, [.ref q3_0_2, .int f3_1_2])), (q3_0_2, .inl (cI, n4_2, .inl b4_2))]) hr d_Mo_buildIf_109 [0, 3, 4, 1, 2] rfl (by decide) ⟨q3_0_2, rfl, rfl⟩
        · replace h := it_t c26 h
          refine j_aload_n d_Mo_buildIf_92 rfl 1 rfl ?_
          refine j_iconst (v := 2) d_Mo_buildIf_93 (by decide) ?_
          refine j_iload_n d_Mo_buildIf_94 rfl 2 rfl ?_
          refine j_iload_n d_Mo_buildIf_95 rfl 0 rfl ?_
          refine j_iconst (v := 1) d_Mo_buildIf_96 (by decide) ?_
          refine j_iadd d_Mo_buildIf_97 ?_
          refine j_aload_n d_Mo_buildIf_98 rfl 1 rfl ?_
          refine j_iload_n d_Mo_buildIf_99 rfl 0 rfl ?_
          refine j_iconst (v := 1) d_Mo_buildIf_100 (by decide) ?_
          refine j_iadd d_Mo_buildIf_101 ?_
          replace h := bd_s h
          obtain ⟨r27, k28, h⟩ := h
          refine j_callV (n := 1) (As := [.int (v3_2 + 1)]) (rest := [.int (v3_2 + 1), .int p1, .int 2, .ref h0]) (wr := [((am 33), .inr (8, [.ref q3_0_2, .int f3_1_2])), (q3_0_2, .inl (cI, n4_2, .inl b4_2))]) (c_Mo_branchEnd l D cI cB cJ cS h0 am a_all_m5 (v3_2 + 1) known_h0 thrown_h0 wrong_h0 lastEnd_h0 at_h0 bad_h0 levels_h0 least_h0 found_h0 size_m5 n_a_all_m5 b_a_all_m5  r27 k28) k_Mo_436 (by decide) ⟨Nat.le_of_ble_eq_true rfl, Nat.le_of_ble_eq_true rfl⟩ rfl 0 rfl [0, 3, 4] [1, 2] rfl (by decide) rfl (by decide) (by decide) rfl rfl (Nat.le_of_ble_eq_true rfl) d_Mo_buildIf_102 ⟨show cl_2 + 0 ≤ mc by omega, show sl_2 + 0 ≤ ms by omega⟩ (fun v w hq => ?_)
          obtain ⟨rfl, rfl⟩ := hq
          refine j_norm (pc' := 105) (st' := [.int r27, .int (v3_2 + 1), .int p1, .int 2, .ref h0]) (ws' := [((am 33), .inr (8, [.ref q3_0_2, .int f3_1_2])), (q3_0_2, .inl (cI, n4_2, .inl b4_2)), (h0, .inr (9, moF am known_h0 thrown_h0 wrong_h0 lastEnd_h0 at_h0 bad_h0 levels_h0 least_h0 found_h0)), ((am 5), .inr (8, [.ref a_all_m5, .int size_m5])), (a_all_m5, .inl (cI, n_a_all_m5, .inl b_a_all_m5))]) (cl' := cl_2) (sl' := sl_2) rfl rfl rfl rfl rfl rfl ?_
          refine j_iload_n d_Mo_buildIf_105 rfl 0 rfl ?_
          replace h := bw_s h
          obtain ⟨⟨r29, r30⟩, C32, S33, C34, S35, k36, h, e1, e2⟩ := h
          replace hC : cl_2 + C32 + C34 ≤ mc := by omega
          replace hS : sl_2 + S33 + S35 ≤ ms := by omega
          clear e1 e2
          refine j_callV (n := 5) (As := [.int 2, .int p1, .int (v3_2 + 1), .int r27, .int v3_2]) (rest := []) (wr := [((am 5), .inr (8, [.ref a_all_m5, .int size_m5])), (a_all_m5, .inl (cI, n_a_all_m5, .inl b_a_all_m5))]) (c_Mo_task l D cI cB cJ cS h0 am q3_0_2 2 p1 (v3_2 + 1) r27 v3_2 known_h0 thrown_h0 wrong_h0 lastEnd_h0 at_h0 bad_h0 levels_h0 least_h0 found_h0 f3_1_2 n4_2 b4_2  r29 r30 C32 S33 k36) k_Mo_390 (by decide) ⟨Nat.le_of_ble_eq_true rfl, Nat.le_of_ble_eq_true rfl⟩ rfl 0 rfl [2, 0, 1] [3, 4] rfl (by decide) rfl (by decide) (by decide) rfl rfl (Nat.le_of_ble_eq_true rfl) d_Mo_buildIf_106 ⟨show cl_2 + C32 ≤ mc by omega, show sl_2 + S33 ≤ ms by omega⟩ (fun v w hq => ?_)
          obtain ⟨q31, rfl, rfl⟩ := hq
          refine j_norm (pc' := 109) (st' := []) (ws' := [((am 5), .inr (8, [.ref a_all_m5, .int size_m5])), (a_all_m5, .inl (cI, n_a_all_m5, .inl b_a_all_m5)), (h0, .inr (9, moF am known_h0 thrown_h0 wrong_h0 lastEnd_h0 at_h0 bad_h0 levels_h0 least_h0 found_h0)), ((am 33), .inr (8, [.ref q31, .int (((((f3_1_2 + 1) + 1) + 1) + 1) + 1)])), (q31, .inl (cI, r29, .inl r30))]) (cl' := cl_2 + C32) (sl' := sl_2 + S33) rfl rfl rfl rfl rfl rfl ?_
          replace h := lf_s h
          obtain ⟨h, e1, e2⟩ := h
          replace h := Prod.mk.inj h
          obtain ⟨h9, h⟩ := h
          subst h9
          replace h := Prod.mk.inj h
          obtain ⟨h9, h⟩ := h
          subst h9
          subst h
          refine j_widen (cl' := mc) (sl' := ms) (by omega) (by omega) ?_
          exact j_vret (w := [(h0, .inr (9, moF am known_h0 thrown_h0 wrong_h0 lastEnd_h0 at_h0 bad_h0 levels_h0 least_h0 found_h0)), ((am 5), .inr (8, [.ref a_all_m5, .int size_m5])), (a_all_m5, .inl (cI, n_a_all_m5, .inl b_a_all_m5)), ((am 33), .inr (8, [.ref q31, .int (((((f3_1_2 + 1) + 1) + 1) + 1) + 1)])), (q31, .inl (cI, r29, .inl r30))]) hr d_Mo_buildIf_109 [2, 0, 1, 3, 4] rfl (by decide) ⟨q31, rfl, rfl⟩
      · replace h := it_t c24 h
        refine j_sub (w := [(h0, .inr (9, moF am known_h0 thrown_h0 wrong_h0 lastEnd_h0 at_h0 bad_h0 levels_h0 least_h0 found_h0)), ((am 33), .inr (8, [.ref q3_0_2, .int f3_1_2])), (q3_0_2, .inl (cI, n4_2, .inl b4_2)), ((am 5), .inr (8, [.ref a_all_m5, .int size_m5])), (a_all_m5, .inl (cI, n_a_all_m5, .inl b_a_all_m5))]) (lv' := [(3, .int v3_2), (0, .ref h0), (1, .int p1), (2, .int p2)]) [0, 1, 2, 3, 4] rfl (by decide) [0, 1, 2, 3] rfl ?_
        exact L_28  cl_2 sl_2 C_2 S_2 h hC hS
set_option maxHeartbeats 4000000 in
set_option maxRecDepth 100000 in
theorem c_Mo_buildIf (l : Launch) (D : va_G) (cI cB cJ cS : ClassId) (h0 : Nat) (am : Nat → Nat) (a_all_m5 : Nat) (a_all_m33 : Nat) (p1 : Int32) (p2 : Int32) (known_h0 : Int32) (thrown_h0 : Int32) (wrong_h0 : Int32) (lastEnd_h0 : Int32) (at_h0 : Int32) (bad_h0 : Int32) (levels_h0 : Int32) (least_h0 : Int32) (found_h0 : Int32) (size_m5 : Int32) (n_a_all_m5 : Nat) (b_a_all_m5 : Nat → Int32) (size_m33 : Int32) (n_a_all_m33 : Nat) (b_a_all_m33 : Nat → Int32) (o_3_1 : Int32) (on_nq_3_0 : Nat) (ob_nq_3_0 : Nat → Int32) (mc ms : Nat) (h : F_Mo_buildIf p1 p2 known_h0 thrown_h0 wrong_h0 lastEnd_h0 at_h0 bad_h0 levels_h0 least_h0 found_h0 size_m5 n_a_all_m5 b_a_all_m5 size_m33 n_a_all_m33 b_a_all_m33 = some ((o_3_1, on_nq_3_0, ob_nq_3_0), mc, ms)) : Ct l D (gT cI cB cJ cS) y_Mo_buildIf prog_12_method_66_code 6 (Option.none : Option Jvm.ClassFile.FieldType) 3 69 mc ms [.ref h0, .int p1, .int p2] [(h0, .inr (9, moF am known_h0 thrown_h0 wrong_h0 lastEnd_h0 at_h0 bad_h0 levels_h0 least_h0 found_h0)), ((am 5), .inr (8, [.ref a_all_m5, .int size_m5])), (a_all_m5, .inl (cI, n_a_all_m5, .inl b_a_all_m5)), ((am 33), .inr (8, [.ref a_all_m33, .int size_m33])), (a_all_m33, .inl (cI, n_a_all_m33, .inl b_a_all_m33))] (fun v w => ∃ nq_3_0 : Nat, v = none ∧ w = [(h0, .inr (9, moF am known_h0 thrown_h0 wrong_h0 lastEnd_h0 at_h0 bad_h0 levels_h0 least_h0 found_h0)), ((am 5), .inr (8, [.ref a_all_m5, .int size_m5])), (a_all_m5, .inl (cI, n_a_all_m5, .inl b_a_all_m5)), ((am 33), .inr (8, [.ref nq_3_0, .int o_3_1])), (nq_3_0, .inl (cI, on_nq_3_0, .inl ob_nq_3_0))]) := by
  refine Ct.mk (by decide) (Nat.le_of_ble_eq_true rfl) ?_
  intro p e s m below meth c hr hnm
  refine j_norm (pc' := 0) (lv' := [(0, .ref h0), (1, .int p1), (2, .int p2)]) (st' := []) (ws' := [(h0, .inr (9, moF am known_h0 thrown_h0 wrong_h0 lastEnd_h0 at_h0 bad_h0 levels_h0 least_h0 found_h0)), ((am 5), .inr (8, [.ref a_all_m5, .int size_m5])), (a_all_m5, .inl (cI, n_a_all_m5, .inl b_a_all_m5)), ((am 33), .inr (8, [.ref a_all_m33, .int size_m33])), (a_all_m33, .inl (cI, n_a_all_m33, .inl b_a_all_m33))]) (cl' := 0) (sl' := 0) rfl rfl rfl rfl rfl rfl ?_
  unfold F_Mo_buildIf at h
  have hC : 0 + mc ≤ mc := by omega
  have hS : 0 + ms ≤ ms := by omega
  refine j_iload_n d_Mo_buildIf_0 rfl 2 rfl ?_
  refine j_istore_n (lv' := [(3, .int p2), (0, .ref h0), (1, .int p1), (2, .int p2)]) d_Mo_buildIf_1 rfl (by decide) rfl ?_
  refine j_sub (w := [(h0, .inr (9, moF am known_h0 thrown_h0 wrong_h0 lastEnd_h0 at_h0 bad_h0 levels_h0 least_h0 found_h0)), ((am 5), .inr (8, [.ref a_all_m5, .int size_m5])), (a_all_m5, .inl (cI, n_a_all_m5, .inl b_a_all_m5)), ((am 33), .inr (8, [.ref a_all_m33, .int size_m33])), (a_all_m33, .inl (cI, n_a_all_m33, .inl b_a_all_m33))]) (lv' := [(3, .int p2), (0, .ref h0), (1, .int p1), (2, .int p2)]) [0, 1, 2, 3, 4] rfl (by decide) [0, 1, 2, 3] rfl ?_
  exact L_Mo_buildIf_2 l D cI cB cJ cS h0 am a_all_m5 a_all_m33 p1 p2 known_h0 thrown_h0 wrong_h0 lastEnd_h0 at_h0 bad_h0 levels_h0 least_h0 found_h0 size_m5 n_a_all_m5 b_a_all_m5 size_m33 n_a_all_m33 b_a_all_m33 o_3_1 on_nq_3_0 ob_nq_3_0 mc ms p e s m below meth c hr hnm FU a_all_m33 p2 size_m33 n_a_all_m33 b_a_all_m33 0 0 mc ms h hC hS
