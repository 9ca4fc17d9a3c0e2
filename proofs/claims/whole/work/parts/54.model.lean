noncomputable def F_Mo_readExpression_486 (known_h0 : Int32) (thrown_h0 : Int32) (wrong_h0 : Int32) (lastEnd_h0 : Int32) (least_h0 : Int32) (found_h0 : Int32) (size_m5 : Int32) (n_a_all_m5 : Nat) (b_a_all_m5 : Nat → Int32) (v4_17 : Int32) (v3_17 : Int32) (v2_17 : Int32) (f0_17_17 : Int32) (f0_18_17 : Int32) (f0_19_17 : Int32) (f1_1_17 : Int32) (n4_17 : Nat) (b4_17 : Nat → Int32) (K_17 : Int32 → Int32 → Int32 → Int32 → Int32 → Int32 → Int32 → Int32 → Nat → (Nat → Int32) → Option ((Int32 × Int32 × Int32 × Int32 × Int32 × Nat × (Nat → Int32)) × Nat × Nat)) : Option ((Int32 × Int32 × Int32 × Int32 × Int32 × Nat × (Nat → Int32)) × Nat × Nat) :=
    if f1_1_17 = 0 then (some ((1, f0_17_17, f0_18_17, f0_19_17, f1_1_17, n4_17, b4_17), 0, 0))
    else (Option.bind (F_Mo_top 0 known_h0 thrown_h0 wrong_h0 lastEnd_h0 f0_17_17 f0_18_17 f0_19_17 least_h0 found_h0 f1_1_17 n4_17 b4_17) fun _ =>
      Option.bind (F_Mo_inBracket (b4_17 (Int32.toNatClampNeg ((f1_1_17 - 5) + 0))) (b_a_all_m5 (Int32.toNatClampNeg f0_17_17)) known_h0 thrown_h0 wrong_h0 lastEnd_h0 f0_17_17 f0_18_17 f0_19_17 least_h0 found_h0 size_m5 n_a_all_m5 b_a_all_m5 f1_1_17 n4_17 b4_17) fun ⟨r3, r4, r5, r6⟩ =>
      if 0 ≤ r3 then (if r3 = 0 then (Option.bind (F_Mo_top 3 known_h0 thrown_h0 wrong_h0 lastEnd_h0 r4 r5 f0_19_17 least_h0 found_h0 f1_1_17 n4_17 r6) fun _ =>
          Option.bind (F_Mo_top 4 known_h0 thrown_h0 wrong_h0 lastEnd_h0 r4 r5 f0_19_17 least_h0 found_h0 f1_1_17 n4_17 r6) fun _ =>
          K_17 v4_17 0 v2_17 (r6 (Int32.toNatClampNeg ((f1_1_17 - 5) + 3))) r4 r5 ((f0_19_17 - (r6 (Int32.toNatClampNeg ((f1_1_17 - 5) + 4)))) - 1) (f1_1_17 - 5) n4_17 r6)
        else if r3 = 1 then (K_17 1 v3_17 0 0 r4 r5 f0_19_17 f1_1_17 n4_17 r6)
        else (K_17 0 v3_17 0 0 r4 r5 f0_19_17 f1_1_17 n4_17 r6))
      else (some ((0, r4, r5, f0_19_17, f1_1_17, n4_17, r6), 0, 0)))
noncomputable def F_Mo_readExpression_469 (v3_17 : Int32) (f0_17_17 : Int32) (f0_18_17 : Int32) (f0_19_17 : Int32) (f1_1_17 : Int32) (n4_17 : Nat) (b4_17 : Nat → Int32) (K_17 : Int32 → Int32 → Int32 → Int32 → Int32 → Int32 → Int32 → Int32 → Nat → (Nat → Int32) → Option ((Int32 × Int32 × Int32 × Int32 × Int32 × Nat × (Nat → Int32)) × Nat × Nat)) (v1_469 : Int32) (t0_469 : Int32) : Option ((Int32 × Int32 × Int32 × Int32 × Int32 × Nat × (Nat → Int32)) × Nat × Nat) :=
    K_17 1 v3_17 t0_469 v1_469 (f0_17_17 + 1) f0_18_17 f0_19_17 f1_1_17 n4_17 b4_17
noncomputable def F_Mo_readExpression_442 (known_h0 : Int32) (thrown_h0 : Int32) (wrong_h0 : Int32) (lastEnd_h0 : Int32) (least_h0 : Int32) (found_h0 : Int32) (b_a_all_m5 : Nat → Int32) (n_m2 : Nat) (b_m2 : Nat → Int32) (v3_17 : Int32) (f0_17_17 : Int32) (f0_18_17 : Int32) (f0_19_17 : Int32) (f1_1_17 : Int32) (n4_17 : Nat) (b4_17 : Nat → Int32) (K_17 : Int32 → Int32 → Int32 → Int32 → Int32 → Int32 → Int32 → Int32 → Nat → (Nat → Int32) → Option ((Int32 × Int32 × Int32 × Int32 × Int32 × Nat × (Nat → Int32)) × Nat × Nat)) (t0_442 : Int32) : Option ((Int32 × Int32 × Int32 × Int32 × Int32 × Nat × (Nat → Int32)) × Nat × Nat) :=
    if t0_442 ≤ 2 then (Option.bind (F_Mo_rankOf (b_a_all_m5 (Int32.toNatClampNeg f0_17_17)) known_h0 thrown_h0 wrong_h0 lastEnd_h0 f0_17_17 f0_18_17 f0_19_17 least_h0 found_h0 n_m2 b_m2) fun r15 =>
      if r15 = 8 then (F_Mo_readExpression_469 v3_17 f0_17_17 f0_18_17 f0_19_17 f1_1_17 n4_17 b4_17 K_17  t0_442 1)
      else (F_Mo_readExpression_469 v3_17 f0_17_17 f0_18_17 f0_19_17 f1_1_17 n4_17 b4_17 K_17  t0_442 0))
    else (some ((0, f0_17_17, f0_17_17, f0_19_17, f1_1_17, n4_17, b4_17), 0, 0))
noncomputable def F_Mo_readExpression_391 (known_h0 : Int32) (thrown_h0 : Int32) (wrong_h0 : Int32) (lastEnd_h0 : Int32) (least_h0 : Int32) (found_h0 : Int32) (size_m5 : Int32) (n_a_all_m5 : Nat) (b_a_all_m5 : Nat → Int32) (n_m2 : Nat) (b_m2 : Nat → Int32) (v4_17 : Int32) (v3_17 : Int32) (v2_17 : Int32) (v1_17 : Int32) (f0_17_17 : Int32) (f0_18_17 : Int32) (f0_19_17 : Int32) (f1_1_17 : Int32) (n4_17 : Nat) (b4_17 : Nat → Int32) (K_17 : Int32 → Int32 → Int32 → Int32 → Int32 → Int32 → Int32 → Int32 → Nat → (Nat → Int32) → Option ((Int32 × Int32 × Int32 × Int32 × Int32 × Nat × (Nat → Int32)) × Nat × Nat)) : Option ((Int32 × Int32 × Int32 × Int32 × Int32 × Nat × (Nat → Int32)) × Nat × Nat) :=
    Option.bind (F_Mo_rankOf (b_a_all_m5 (Int32.toNatClampNeg f0_17_17)) known_h0 thrown_h0 wrong_h0 lastEnd_h0 f0_17_17 f0_18_17 f0_19_17 least_h0 found_h0 n_m2 b_m2) fun r19 =>
    if r19 ≤ 0 then (F_Mo_readExpression_486 known_h0 thrown_h0 wrong_h0 lastEnd_h0 least_h0 found_h0 size_m5 n_a_all_m5 b_a_all_m5 v4_17 v3_17 v2_17 f0_17_17 f0_18_17 f0_19_17 f1_1_17 n4_17 b4_17 K_17  )
    else (Option.bind (F_Mo_isColonBefore known_h0 thrown_h0 wrong_h0 lastEnd_h0 f0_17_17 f0_18_17 f0_19_17 least_h0 found_h0 size_m5 n_a_all_m5 b_a_all_m5) fun r22 =>
      if r22 = 0 then (Option.bind (F_Mo_isEmptyOpen known_h0 thrown_h0 wrong_h0 lastEnd_h0 f0_17_17 f0_18_17 f0_19_17 least_h0 found_h0 size_m5 n_a_all_m5 b_a_all_m5) fun r26 =>
        if r26 = 0 then (Option.bind (F_Mo_rankOf (b_a_all_m5 (Int32.toNatClampNeg f0_17_17)) known_h0 thrown_h0 wrong_h0 lastEnd_h0 f0_17_17 f0_18_17 f0_19_17 least_h0 found_h0 n_m2 b_m2) fun r30 =>
          if 4 ≤ r30 then (if (b_a_all_m5 (Int32.toNatClampNeg f0_17_17)) = 38 then (F_Mo_readExpression_442 known_h0 thrown_h0 wrong_h0 lastEnd_h0 least_h0 found_h0 b_a_all_m5 n_m2 b_m2 v3_17 f0_17_17 f0_18_17 f0_19_17 f1_1_17 n4_17 b4_17 K_17  (v1_17 + 1))
            else (F_Mo_readExpression_442 known_h0 thrown_h0 wrong_h0 lastEnd_h0 least_h0 found_h0 b_a_all_m5 n_m2 b_m2 v3_17 f0_17_17 f0_18_17 f0_19_17 f1_1_17 n4_17 b4_17 K_17  v1_17))
          else (F_Mo_readExpression_442 known_h0 thrown_h0 wrong_h0 lastEnd_h0 least_h0 found_h0 b_a_all_m5 n_m2 b_m2 v3_17 f0_17_17 f0_18_17 f0_19_17 f1_1_17 n4_17 b4_17 K_17  0))
        else (F_Mo_readExpression_486 known_h0 thrown_h0 wrong_h0 lastEnd_h0 least_h0 found_h0 size_m5 n_a_all_m5 b_a_all_m5 v4_17 v3_17 v2_17 f0_17_17 f0_18_17 f0_19_17 f1_1_17 n4_17 b4_17 K_17  ))
      else (F_Mo_readExpression_486 known_h0 thrown_h0 wrong_h0 lastEnd_h0 least_h0 found_h0 size_m5 n_a_all_m5 b_a_all_m5 v4_17 v3_17 v2_17 f0_17_17 f0_18_17 f0_19_17 f1_1_17 n4_17 b4_17 K_17  ))
noncomputable def F_Mo_readExpression_329 (v3_17 : Int32) (v1_17 : Int32) (f0_17_17 : Int32) (f0_19_17 : Int32) (f1_1_17 : Int32) (n4_17 : Nat) (K_17 : Int32 → Int32 → Int32 → Int32 → Int32 → Int32 → Int32 → Int32 → Nat → (Nat → Int32) → Option ((Int32 × Int32 × Int32 × Int32 × Int32 × Nat × (Nat → Int32)) × Nat × Nat)) (b1_329 : Nat → Int32) (f3_18_329 : Int32) : Option ((Int32 × Int32 × Int32 × Int32 × Int32 × Nat × (Nat → Int32)) × Nat × Nat) :=
    K_17 0 0 0 v1_17 (f0_17_17 + 1) f3_18_329 (f0_19_17 - v3_17) f1_1_17 n4_17 b1_329
noncomputable def F_Mo_readExpression_288 (known_h0 : Int32) (thrown_h0 : Int32) (wrong_h0 : Int32) (lastEnd_h0 : Int32) (least_h0 : Int32) (found_h0 : Int32) (b_a_all_m5 : Nat → Int32) (v3_17 : Int32) (v1_17 : Int32) (f0_17_17 : Int32) (f0_18_17 : Int32) (f0_19_17 : Int32) (f1_1_17 : Int32) (n4_17 : Nat) (b4_17 : Nat → Int32) (K_17 : Int32 → Int32 → Int32 → Int32 → Int32 → Int32 → Int32 → Int32 → Nat → (Nat → Int32) → Option ((Int32 × Int32 × Int32 × Int32 × Int32 × Nat × (Nat → Int32)) × Nat × Nat)) : Option ((Int32 × Int32 × Int32 × Int32 × Int32 × Nat × (Nat → Int32)) × Nat × Nat) :=
    if (b_a_all_m5 (Int32.toNatClampNeg f0_17_17)) = 2 then (if (b_a_all_m5 (Int32.toNatClampNeg f0_17_17)) = 13 then (Option.bind (F_Mo_mark known_h0 thrown_h0 wrong_h0 lastEnd_h0 f0_17_17 f0_18_17 f0_19_17 least_h0 found_h0 f1_1_17 n4_17 b4_17) fun ⟨r36, r37, r38⟩ =>
        if r36 = 0 then (some ((0, f0_17_17, r37, f0_19_17, f1_1_17, n4_17, r38), 0, 0))
        else (F_Mo_readExpression_329 v3_17 v1_17 f0_17_17 f0_19_17 f1_1_17 n4_17 K_17  r38 r37))
      else (F_Mo_readExpression_329 v3_17 v1_17 f0_17_17 f0_19_17 f1_1_17 n4_17 K_17  b4_17 f0_18_17))
    else if (b_a_all_m5 (Int32.toNatClampNeg f0_17_17)) = 3 then (if (b_a_all_m5 (Int32.toNatClampNeg f0_17_17)) = 13 then (Option.bind (F_Mo_mark known_h0 thrown_h0 wrong_h0 lastEnd_h0 f0_17_17 f0_18_17 f0_19_17 least_h0 found_h0 f1_1_17 n4_17 b4_17) fun ⟨r44, r45, r46⟩ =>
        if r44 = 0 then (some ((0, f0_17_17, r45, f0_19_17, f1_1_17, n4_17, r46), 0, 0))
        else (F_Mo_readExpression_329 v3_17 v1_17 f0_17_17 f0_19_17 f1_1_17 n4_17 K_17  r46 r45))
      else (F_Mo_readExpression_329 v3_17 v1_17 f0_17_17 f0_19_17 f1_1_17 n4_17 K_17  b4_17 f0_18_17))
    else if (b_a_all_m5 (Int32.toNatClampNeg f0_17_17)) = 4 then (if (b_a_all_m5 (Int32.toNatClampNeg f0_17_17)) = 13 then (Option.bind (F_Mo_mark known_h0 thrown_h0 wrong_h0 lastEnd_h0 f0_17_17 f0_18_17 f0_19_17 least_h0 found_h0 f1_1_17 n4_17 b4_17) fun ⟨r52, r53, r54⟩ =>
        if r52 = 0 then (some ((0, f0_17_17, r53, f0_19_17, f1_1_17, n4_17, r54), 0, 0))
        else (F_Mo_readExpression_329 v3_17 v1_17 f0_17_17 f0_19_17 f1_1_17 n4_17 K_17  r54 r53))
      else (F_Mo_readExpression_329 v3_17 v1_17 f0_17_17 f0_19_17 f1_1_17 n4_17 K_17  b4_17 f0_18_17))
    else if (b_a_all_m5 (Int32.toNatClampNeg f0_17_17)) = 13 then (if (b_a_all_m5 (Int32.toNatClampNeg f0_17_17)) = 13 then (Option.bind (F_Mo_mark known_h0 thrown_h0 wrong_h0 lastEnd_h0 f0_17_17 f0_18_17 f0_19_17 least_h0 found_h0 f1_1_17 n4_17 b4_17) fun ⟨r61, r62, r63⟩ =>
        if r61 = 0 then (some ((0, f0_17_17, r62, f0_19_17, f1_1_17, n4_17, r63), 0, 0))
        else (F_Mo_readExpression_329 v3_17 v1_17 f0_17_17 f0_19_17 f1_1_17 n4_17 K_17  r63 r62))
      else (F_Mo_readExpression_329 v3_17 v1_17 f0_17_17 f0_19_17 f1_1_17 n4_17 K_17  b4_17 f0_18_17))
    else (some ((0, f0_17_17, f0_17_17, f0_19_17, f1_1_17, n4_17, b4_17), 0, 0))
noncomputable def F_Mo_readExpression_271 (known_h0 : Int32) (thrown_h0 : Int32) (wrong_h0 : Int32) (lastEnd_h0 : Int32) (least_h0 : Int32) (found_h0 : Int32) (f1_1_17 : Int32) (K_17 : Int32 → Int32 → Int32 → Int32 → Int32 → Int32 → Int32 → Int32 → Nat → (Nat → Int32) → Option ((Int32 × Int32 × Int32 × Int32 × Int32 × Nat × (Nat → Int32)) × Nat × Nat)) (v7_271 : Int32) (v6_271 : Int32) (t0_271 : Int32) (n2_271 : Nat) (b2_271 : Nat → Int32) (f3_17_271 : Int32) (f3_18_271 : Int32) (f3_19_271 : Int32) : Option ((Int32 × Int32 × Int32 × Int32 × Int32 × Nat × (Nat → Int32)) × Nat × Nat) :=
    if v7_271 = 1 then (Option.bind (F_Mo_setTop 1 1 known_h0 thrown_h0 wrong_h0 lastEnd_h0 f3_17_271 f3_18_271 f3_19_271 least_h0 found_h0 (((((f1_1_17 + 1) + 1) + 1) + 1) + 1) n2_271 b2_271) fun _ =>
      K_17 t0_271 0 0 0 f3_17_271 f3_18_271 f3_19_271 (((((f1_1_17 + 1) + 1) + 1) + 1) + 1) n2_271 (upd b2_271 (Int32.toNatClampNeg (((((((f1_1_17 + 1) + 1) + 1) + 1) + 1) - 5) + 1)) 1))
    else (K_17 t0_271 0 0 0 f3_17_271 f3_18_271 f3_19_271 (((((f1_1_17 + 1) + 1) + 1) + 1) + 1) n2_271 b2_271)
noncomputable def F_Mo_readExpression_247 (known_h0 : Int32) (thrown_h0 : Int32) (wrong_h0 : Int32) (lastEnd_h0 : Int32) (least_h0 : Int32) (found_h0 : Int32) (f1_1_17 : Int32) (K_17 : Int32 → Int32 → Int32 → Int32 → Int32 → Int32 → Int32 → Int32 → Nat → (Nat → Int32) → Option ((Int32 × Int32 × Int32 × Int32 × Int32 × Nat × (Nat → Int32)) × Nat × Nat)) (v6_247 : Int32) (t0_247 : Int32) (n2_247 : Nat) (b2_247 : Nat → Int32) (f3_17_247 : Int32) (f3_18_247 : Int32) (f3_19_247 : Int32) : Option ((Int32 × Int32 × Int32 × Int32 × Int32 × Nat × (Nat → Int32)) × Nat × Nat) :=
    if 0 ≤ t0_247 then (if v6_247 = 0 then (if t0_247 = 0 then (F_Mo_readExpression_271 known_h0 thrown_h0 wrong_h0 lastEnd_h0 least_h0 found_h0 f1_1_17 K_17  t0_247 v6_247 1 n2_247 b2_247 f3_17_247 f3_18_247 f3_19_247)
        else (F_Mo_readExpression_271 known_h0 thrown_h0 wrong_h0 lastEnd_h0 least_h0 found_h0 f1_1_17 K_17  t0_247 v6_247 0 n2_247 b2_247 f3_17_247 f3_18_247 f3_19_247))
      else (F_Mo_readExpression_271 known_h0 thrown_h0 wrong_h0 lastEnd_h0 least_h0 found_h0 f1_1_17 K_17  t0_247 v6_247 0 n2_247 b2_247 f3_17_247 f3_18_247 f3_19_247))
    else (some ((0, f3_17_247, f3_18_247, f3_19_247, (((((f1_1_17 + 1) + 1) + 1) + 1) + 1), n2_247, b2_247), 0, 0))
noncomputable def F_Mo_readExpression_226 (known_h0 : Int32) (thrown_h0 : Int32) (wrong_h0 : Int32) (lastEnd_h0 : Int32) (least_h0 : Int32) (found_h0 : Int32) (size_m5 : Int32) (n_a_all_m5 : Nat) (b_a_all_m5 : Nat → Int32) (f0_17_17 : Int32) (f1_1_17 : Int32) (K_17 : Int32 → Int32 → Int32 → Int32 → Int32 → Int32 → Int32 → Int32 → Nat → (Nat → Int32) → Option ((Int32 × Int32 × Int32 × Int32 × Int32 × Nat × (Nat → Int32)) × Nat × Nat)) (t0_226 : Int32) (n2_226 : Nat) (b2_226 : Nat → Int32) (f3_17_226 : Int32) (f3_18_226 : Int32) (f3_19_226 : Int32) : Option ((Int32 × Int32 × Int32 × Int32 × Int32 × Nat × (Nat → Int32)) × Nat × Nat) :=
    if (b_a_all_m5 (Int32.toNatClampNeg f0_17_17)) = 2 then (if t0_226 = 0 then (Option.bind (F_Mo_wholeColon known_h0 thrown_h0 wrong_h0 lastEnd_h0 f3_17_226 f3_18_226 f3_19_226 least_h0 found_h0 size_m5 n_a_all_m5 b_a_all_m5 (((((f1_1_17 + 1) + 1) + 1) + 1) + 1) n2_226 b2_226) fun ⟨r74, r75, r76, r77⟩ =>
        F_Mo_readExpression_247 known_h0 thrown_h0 wrong_h0 lastEnd_h0 least_h0 found_h0 f1_1_17 K_17  t0_226 r74 n2_226 r77 r75 r76 f3_19_226)
      else (F_Mo_readExpression_247 known_h0 thrown_h0 wrong_h0 lastEnd_h0 least_h0 found_h0 f1_1_17 K_17  t0_226 0 n2_226 b2_226 f3_17_226 f3_18_226 f3_19_226))
    else (F_Mo_readExpression_247 known_h0 thrown_h0 wrong_h0 lastEnd_h0 least_h0 found_h0 f1_1_17 K_17  t0_226 0 n2_226 b2_226 f3_17_226 f3_18_226 f3_19_226)
noncomputable def F_Mo_readExpression_206 (known_h0 : Int32) (thrown_h0 : Int32) (wrong_h0 : Int32) (lastEnd_h0 : Int32) (least_h0 : Int32) (found_h0 : Int32) (size_m5 : Int32) (n_a_all_m5 : Nat) (b_a_all_m5 : Nat → Int32) (f0_17_17 : Int32) (f1_1_17 : Int32) (K_17 : Int32 → Int32 → Int32 → Int32 → Int32 → Int32 → Int32 → Int32 → Nat → (Nat → Int32) → Option ((Int32 × Int32 × Int32 × Int32 × Int32 × Nat × (Nat → Int32)) × Nat × Nat)) (f3_17_206 : Int32) (f3_18_206 : Int32) (f3_19_206 : Int32) (n5_206 : Nat) (b5_206 : Nat → Int32) : Option ((Int32 × Int32 × Int32 × Int32 × Int32 × Nat × (Nat → Int32)) × Nat × Nat) :=
    if (b_a_all_m5 (Int32.toNatClampNeg f0_17_17)) = 2 then (Option.bind (F_Mo_kind known_h0 thrown_h0 wrong_h0 lastEnd_h0 f3_17_206 f3_18_206 f3_19_206 least_h0 found_h0 size_m5 n_a_all_m5 b_a_all_m5) fun _ =>
      if (b_a_all_m5 (Int32.toNatClampNeg f3_17_206)) = 51 then (F_Mo_readExpression_226 known_h0 thrown_h0 wrong_h0 lastEnd_h0 least_h0 found_h0 size_m5 n_a_all_m5 b_a_all_m5 f0_17_17 f1_1_17 K_17  1 n5_206 b5_206 f3_17_206 f3_18_206 f3_19_206)
      else (F_Mo_readExpression_226 known_h0 thrown_h0 wrong_h0 lastEnd_h0 least_h0 found_h0 size_m5 n_a_all_m5 b_a_all_m5 f0_17_17 f1_1_17 K_17  0 n5_206 b5_206 f3_17_206 f3_18_206 f3_19_206))
    else (F_Mo_readExpression_226 known_h0 thrown_h0 wrong_h0 lastEnd_h0 least_h0 found_h0 size_m5 n_a_all_m5 b_a_all_m5 f0_17_17 f1_1_17 K_17  0 n5_206 b5_206 f3_17_206 f3_18_206 f3_19_206)
noncomputable def F_Mo_readExpression_155 (known_h0 : Int32) (thrown_h0 : Int32) (wrong_h0 : Int32) (lastEnd_h0 : Int32) (least_h0 : Int32) (found_h0 : Int32) (size_m5 : Int32) (n_a_all_m5 : Nat) (b_a_all_m5 : Nat → Int32) (v3_17 : Int32) (v1_17 : Int32) (f0_17_17 : Int32) (f0_18_17 : Int32) (f0_19_17 : Int32) (f1_1_17 : Int32) (n4_17 : Nat) (b4_17 : Nat → Int32) (K_17 : Int32 → Int32 → Int32 → Int32 → Int32 → Int32 → Int32 → Int32 → Nat → (Nat → Int32) → Option ((Int32 × Int32 × Int32 × Int32 × Int32 × Nat × (Nat → Int32)) × Nat × Nat)) (t0_155 : Int32) : Option ((Int32 × Int32 × Int32 × Int32 × Int32 × Nat × (Nat → Int32)) × Nat × Nat) :=
    Option.bind (F_Mo_kind known_h0 thrown_h0 wrong_h0 lastEnd_h0 t0_155 f0_18_17 f0_19_17 least_h0 found_h0 size_m5 n_a_all_m5 b_a_all_m5) fun _ =>
    Option.bind (F_Mo_enter (b_a_all_m5 (Int32.toNatClampNeg t0_155)) known_h0 thrown_h0 wrong_h0 lastEnd_h0 t0_155 f0_18_17 f0_19_17 least_h0 found_h0 size_m5 n_a_all_m5 b_a_all_m5) fun ⟨r83, r84, r85, r86⟩ =>
    if r83 = 0 then (some ((0, r84, r85, r86, f1_1_17, n4_17, b4_17), 0, 0))
    else (bw (F_Mo_push (b_a_all_m5 (Int32.toNatClampNeg f0_17_17)) v3_17 known_h0 thrown_h0 wrong_h0 lastEnd_h0 r84 r85 r86 least_h0 found_h0 f1_1_17 n4_17 b4_17) fun ⟨r90, r91⟩ =>
      Option.bind (F_Mo_setTop 3 v1_17 known_h0 thrown_h0 wrong_h0 lastEnd_h0 r84 r85 r86 least_h0 found_h0 (((((f1_1_17 + 1) + 1) + 1) + 1) + 1) r90 r91) fun _ =>
      if (b_a_all_m5 (Int32.toNatClampNeg f0_17_17)) = 52 then (Option.bind (F_Mo_kind known_h0 thrown_h0 wrong_h0 lastEnd_h0 r84 r85 r86 least_h0 found_h0 size_m5 n_a_all_m5 b_a_all_m5) fun _ =>
        if (b_a_all_m5 (Int32.toNatClampNeg r84)) = 53 then (F_Mo_readExpression_226 known_h0 thrown_h0 wrong_h0 lastEnd_h0 least_h0 found_h0 size_m5 n_a_all_m5 b_a_all_m5 f0_17_17 f1_1_17 K_17  1 r90 (upd r91 (Int32.toNatClampNeg (((((((f1_1_17 + 1) + 1) + 1) + 1) + 1) - 5) + 3)) v1_17) r84 r85 r86)
        else (F_Mo_readExpression_206 known_h0 thrown_h0 wrong_h0 lastEnd_h0 least_h0 found_h0 size_m5 n_a_all_m5 b_a_all_m5 f0_17_17 f1_1_17 K_17  r84 r85 r86 r90 (upd r91 (Int32.toNatClampNeg (((((((f1_1_17 + 1) + 1) + 1) + 1) + 1) - 5) + 3)) v1_17)))
      else (F_Mo_readExpression_206 known_h0 thrown_h0 wrong_h0 lastEnd_h0 least_h0 found_h0 size_m5 n_a_all_m5 b_a_all_m5 f0_17_17 f1_1_17 K_17  r84 r85 r86 r90 (upd r91 (Int32.toNatClampNeg (((((((f1_1_17 + 1) + 1) + 1) + 1) + 1) - 5) + 3)) v1_17)))
noncomputable def F_Mo_readExpression_135 (known_h0 : Int32) (thrown_h0 : Int32) (wrong_h0 : Int32) (lastEnd_h0 : Int32) (least_h0 : Int32) (found_h0 : Int32) (size_m5 : Int32) (n_a_all_m5 : Nat) (b_a_all_m5 : Nat → Int32) (v3_17 : Int32) (v1_17 : Int32) (f0_17_17 : Int32) (f0_18_17 : Int32) (f0_19_17 : Int32) (f1_1_17 : Int32) (n4_17 : Nat) (b4_17 : Nat → Int32) (K_17 : Int32 → Int32 → Int32 → Int32 → Int32 → Int32 → Int32 → Int32 → Nat → (Nat → Int32) → Option ((Int32 × Int32 × Int32 × Int32 × Int32 × Nat × (Nat → Int32)) × Nat × Nat)) : Option ((Int32 × Int32 × Int32 × Int32 × Int32 × Nat × (Nat → Int32)) × Nat × Nat) :=
    if (b_a_all_m5 (Int32.toNatClampNeg f0_17_17)) = 2 then (F_Mo_readExpression_155 known_h0 thrown_h0 wrong_h0 lastEnd_h0 least_h0 found_h0 size_m5 n_a_all_m5 b_a_all_m5 v3_17 v1_17 f0_17_17 f0_18_17 f0_19_17 f1_1_17 n4_17 b4_17 K_17  (f0_17_17 + 1))
    else (F_Mo_readExpression_155 known_h0 thrown_h0 wrong_h0 lastEnd_h0 least_h0 found_h0 size_m5 n_a_all_m5 b_a_all_m5 v3_17 v1_17 f0_17_17 f0_18_17 f0_19_17 f1_1_17 n4_17 b4_17 K_17  f0_17_17)
noncomputable def F_Mo_readExpression_97 (known_h0 : Int32) (thrown_h0 : Int32) (wrong_h0 : Int32) (lastEnd_h0 : Int32) (least_h0 : Int32) (found_h0 : Int32) (size_m5 : Int32) (n_a_all_m5 : Nat) (b_a_all_m5 : Nat → Int32) (v3_17 : Int32) (v1_17 : Int32) (f0_17_17 : Int32) (f0_18_17 : Int32) (f0_19_17 : Int32) (f1_1_17 : Int32) (n4_17 : Nat) (b4_17 : Nat → Int32) (K_17 : Int32 → Int32 → Int32 → Int32 → Int32 → Int32 → Int32 → Int32 → Nat → (Nat → Int32) → Option ((Int32 × Int32 × Int32 × Int32 × Int32 × Nat × (Nat → Int32)) × Nat × Nat)) : Option ((Int32 × Int32 × Int32 × Int32 × Int32 × Nat × (Nat → Int32)) × Nat × Nat) :=
    if (b_a_all_m5 (Int32.toNatClampNeg f0_17_17)) = 50 then (F_Mo_readExpression_135 known_h0 thrown_h0 wrong_h0 lastEnd_h0 least_h0 found_h0 size_m5 n_a_all_m5 b_a_all_m5 v3_17 v1_17 f0_17_17 f0_18_17 f0_19_17 f1_1_17 n4_17 b4_17 K_17  )
    else if (b_a_all_m5 (Int32.toNatClampNeg f0_17_17)) = 52 then (F_Mo_readExpression_135 known_h0 thrown_h0 wrong_h0 lastEnd_h0 least_h0 found_h0 size_m5 n_a_all_m5 b_a_all_m5 v3_17 v1_17 f0_17_17 f0_18_17 f0_19_17 f1_1_17 n4_17 b4_17 K_17  )
    else if (b_a_all_m5 (Int32.toNatClampNeg f0_17_17)) = 2 then (Option.bind (F_Nm_at (f0_17_17 + 1) size_m5 n_a_all_m5 b_a_all_m5) fun _ =>
      if (b_a_all_m5 (Int32.toNatClampNeg (f0_17_17 + 1))) = 50 then (F_Mo_readExpression_135 known_h0 thrown_h0 wrong_h0 lastEnd_h0 least_h0 found_h0 size_m5 n_a_all_m5 b_a_all_m5 v3_17 v1_17 f0_17_17 f0_18_17 f0_19_17 f1_1_17 n4_17 b4_17 K_17  )
      else (F_Mo_readExpression_288 known_h0 thrown_h0 wrong_h0 lastEnd_h0 least_h0 found_h0 b_a_all_m5 v3_17 v1_17 f0_17_17 f0_18_17 f0_19_17 f1_1_17 n4_17 b4_17 K_17  ))
    else (F_Mo_readExpression_288 known_h0 thrown_h0 wrong_h0 lastEnd_h0 least_h0 found_h0 b_a_all_m5 v3_17 v1_17 f0_17_17 f0_18_17 f0_19_17 f1_1_17 n4_17 b4_17 K_17  )
noncomputable def F_Mo_readExpression_76 (known_h0 : Int32) (thrown_h0 : Int32) (wrong_h0 : Int32) (lastEnd_h0 : Int32) (least_h0 : Int32) (found_h0 : Int32) (size_m5 : Int32) (n_a_all_m5 : Nat) (b_a_all_m5 : Nat → Int32) (v4_17 : Int32) (v3_17 : Int32) (v2_17 : Int32) (v1_17 : Int32) (f0_17_17 : Int32) (f0_18_17 : Int32) (f0_19_17 : Int32) (f1_1_17 : Int32) (n4_17 : Nat) (b4_17 : Nat → Int32) (K_17 : Int32 → Int32 → Int32 → Int32 → Int32 → Int32 → Int32 → Int32 → Nat → (Nat → Int32) → Option ((Int32 × Int32 × Int32 × Int32 × Int32 × Nat × (Nat → Int32)) × Nat × Nat)) : Option ((Int32 × Int32 × Int32 × Int32 × Int32 × Nat × (Nat → Int32)) × Nat × Nat) :=
    if v2_17 = 0 then (Option.bind (F_Mo_enter (b_a_all_m5 (Int32.toNatClampNeg f0_17_17)) known_h0 thrown_h0 wrong_h0 lastEnd_h0 f0_17_17 f0_18_17 f0_19_17 least_h0 found_h0 size_m5 n_a_all_m5 b_a_all_m5) fun ⟨r109, r110, r111, r112⟩ =>
      if r109 = 0 then (some ((0, r110, r111, r112, f1_1_17, n4_17, b4_17), 0, 0))
      else (K_17 v4_17 (v3_17 + 1) v2_17 v1_17 r110 r111 r112 f1_1_17 n4_17 b4_17))
    else (F_Mo_readExpression_97 known_h0 thrown_h0 wrong_h0 lastEnd_h0 least_h0 found_h0 size_m5 n_a_all_m5 b_a_all_m5 v3_17 v1_17 f0_17_17 f0_18_17 f0_19_17 f1_1_17 n4_17 b4_17 K_17  )
noncomputable def F_Mo_readExpression_55 (known_h0 : Int32) (thrown_h0 : Int32) (wrong_h0 : Int32) (lastEnd_h0 : Int32) (least_h0 : Int32) (found_h0 : Int32) (size_m5 : Int32) (n_a_all_m5 : Nat) (b_a_all_m5 : Nat → Int32) (v4_17 : Int32) (v3_17 : Int32) (v2_17 : Int32) (v1_17 : Int32) (f0_17_17 : Int32) (f0_18_17 : Int32) (f0_19_17 : Int32) (f1_1_17 : Int32) (n4_17 : Nat) (b4_17 : Nat → Int32) (K_17 : Int32 → Int32 → Int32 → Int32 → Int32 → Int32 → Int32 → Int32 → Nat → (Nat → Int32) → Option ((Int32 × Int32 × Int32 × Int32 × Int32 × Nat × (Nat → Int32)) × Nat × Nat)) : Option ((Int32 × Int32 × Int32 × Int32 × Int32 × Nat × (Nat → Int32)) × Nat × Nat) :=
    if (b_a_all_m5 (Int32.toNatClampNeg f0_17_17)) = 40 then (F_Mo_readExpression_76 known_h0 thrown_h0 wrong_h0 lastEnd_h0 least_h0 found_h0 size_m5 n_a_all_m5 b_a_all_m5 v4_17 v3_17 v2_17 v1_17 f0_17_17 f0_18_17 f0_19_17 f1_1_17 n4_17 b4_17 K_17  )
    else if (b_a_all_m5 (Int32.toNatClampNeg f0_17_17)) = 39 then (F_Mo_readExpression_76 known_h0 thrown_h0 wrong_h0 lastEnd_h0 least_h0 found_h0 size_m5 n_a_all_m5 b_a_all_m5 v4_17 v3_17 v2_17 v1_17 f0_17_17 f0_18_17 f0_19_17 f1_1_17 n4_17 b4_17 K_17  )
    else if (b_a_all_m5 (Int32.toNatClampNeg f0_17_17)) = 49 then (F_Mo_readExpression_76 known_h0 thrown_h0 wrong_h0 lastEnd_h0 least_h0 found_h0 size_m5 n_a_all_m5 b_a_all_m5 v4_17 v3_17 v2_17 v1_17 f0_17_17 f0_18_17 f0_19_17 f1_1_17 n4_17 b4_17 K_17  )
    else (F_Mo_readExpression_97 known_h0 thrown_h0 wrong_h0 lastEnd_h0 least_h0 found_h0 size_m5 n_a_all_m5 b_a_all_m5 v3_17 v1_17 f0_17_17 f0_18_17 f0_19_17 f1_1_17 n4_17 b4_17 K_17  )
noncomputable def F_Mo_readExpression_17 (known_h0 : Int32) (thrown_h0 : Int32) (wrong_h0 : Int32) (lastEnd_h0 : Int32) (least_h0 : Int32) (found_h0 : Int32) (size_m5 : Int32) (n_a_all_m5 : Nat) (b_a_all_m5 : Nat → Int32) (n_m2 : Nat) (b_m2 : Nat → Int32) : Nat → Int32 → Int32 → Int32 → Int32 → Int32 → Int32 → Int32 → Int32 → Nat → (Nat → Int32) → Option ((Int32 × Int32 × Int32 × Int32 × Int32 × Nat × (Nat → Int32)) × Nat × Nat)
  | 0, _, _, _, _, _, _, _, _, _, _ => none
  | k_17 + 1, v4_17, v3_17, v2_17, v1_17, f0_17_17, f0_18_17, f0_19_17, f1_1_17, n4_17, b4_17 =>
    Option.bind (F_Mo_kind known_h0 thrown_h0 wrong_h0 lastEnd_h0 f0_17_17 f0_18_17 f0_19_17 least_h0 found_h0 size_m5 n_a_all_m5 b_a_all_m5) fun _ =>
    if v4_17 = 0 then (if (b_a_all_m5 (Int32.toNatClampNeg f0_17_17)) = 48 then (Option.bind (F_Mo_isColonBefore known_h0 thrown_h0 wrong_h0 lastEnd_h0 f0_17_17 f0_18_17 f0_19_17 least_h0 found_h0 size_m5 n_a_all_m5 b_a_all_m5) fun r122 =>
        if r122 = 0 then (F_Mo_readExpression_17 known_h0 thrown_h0 wrong_h0 lastEnd_h0 least_h0 found_h0 size_m5 n_a_all_m5 b_a_all_m5 n_m2 b_m2  k_17 v4_17 v3_17 v2_17 v1_17 (f0_17_17 + 1) f0_18_17 f0_19_17 f1_1_17 n4_17 b4_17)
        else (F_Mo_readExpression_391 known_h0 thrown_h0 wrong_h0 lastEnd_h0 least_h0 found_h0 size_m5 n_a_all_m5 b_a_all_m5 n_m2 b_m2 v4_17 v3_17 v2_17 v1_17 f0_17_17 f0_18_17 f0_19_17 f1_1_17 n4_17 b4_17 (F_Mo_readExpression_17 known_h0 thrown_h0 wrong_h0 lastEnd_h0 least_h0 found_h0 size_m5 n_a_all_m5 b_a_all_m5 n_m2 b_m2  k_17)  ))
      else (F_Mo_readExpression_391 known_h0 thrown_h0 wrong_h0 lastEnd_h0 least_h0 found_h0 size_m5 n_a_all_m5 b_a_all_m5 n_m2 b_m2 v4_17 v3_17 v2_17 v1_17 f0_17_17 f0_18_17 f0_19_17 f1_1_17 n4_17 b4_17 (F_Mo_readExpression_17 known_h0 thrown_h0 wrong_h0 lastEnd_h0 least_h0 found_h0 size_m5 n_a_all_m5 b_a_all_m5 n_m2 b_m2  k_17)  ))
    else if (b_a_all_m5 (Int32.toNatClampNeg f0_17_17)) = 40 then (if v2_17 = 1 then (F_Mo_readExpression_17 known_h0 thrown_h0 wrong_h0 lastEnd_h0 least_h0 found_h0 size_m5 n_a_all_m5 b_a_all_m5 n_m2 b_m2  k_17 v4_17 v3_17 2 v1_17 (f0_17_17 + 1) f0_18_17 f0_19_17 f1_1_17 n4_17 b4_17)
      else (F_Mo_readExpression_55 known_h0 thrown_h0 wrong_h0 lastEnd_h0 least_h0 found_h0 size_m5 n_a_all_m5 b_a_all_m5 v4_17 v3_17 v2_17 v1_17 f0_17_17 f0_18_17 f0_19_17 f1_1_17 n4_17 b4_17 (F_Mo_readExpression_17 known_h0 thrown_h0 wrong_h0 lastEnd_h0 least_h0 found_h0 size_m5 n_a_all_m5 b_a_all_m5 n_m2 b_m2  k_17)  ))
    else (F_Mo_readExpression_55 known_h0 thrown_h0 wrong_h0 lastEnd_h0 least_h0 found_h0 size_m5 n_a_all_m5 b_a_all_m5 v4_17 v3_17 v2_17 v1_17 f0_17_17 f0_18_17 f0_19_17 f1_1_17 n4_17 b4_17 (F_Mo_readExpression_17 known_h0 thrown_h0 wrong_h0 lastEnd_h0 least_h0 found_h0 size_m5 n_a_all_m5 b_a_all_m5 n_m2 b_m2  k_17)  )
noncomputable def F_Mo_readExpression (known_h0 : Int32) (thrown_h0 : Int32) (wrong_h0 : Int32) (lastEnd_h0 : Int32) (at_h0 : Int32) (bad_h0 : Int32) (levels_h0 : Int32) (least_h0 : Int32) (found_h0 : Int32) (size_m20 : Int32) (size_m5 : Int32) (n_a_all_m5 : Nat) (b_a_all_m5 : Nat → Int32) (n_a_all_m20 : Nat) (b_a_all_m20 : Nat → Int32) (n_m2 : Nat) (b_m2 : Nat → Int32) : Option ((Int32 × Int32 × Int32 × Int32 × Int32 × Nat × (Nat → Int32)) × Nat × Nat) :=
  F_Mo_readExpression_17 known_h0 thrown_h0 wrong_h0 lastEnd_h0 least_h0 found_h0 size_m5 n_a_all_m5 b_a_all_m5 n_m2 b_m2  FU 1 0 0 0 at_h0 bad_h0 levels_h0 0 n_a_all_m20 b_a_all_m20
theorem d_Mo_readExpression_0 : decode prog_12_method_30_code 0 = .ok (.aload_n 0, 1) := by decide +kernel
theorem d_Mo_readExpression_1 : decode prog_12_method_30_code 1 = .ok (.getfield 142, 3) := by decide +kernel
theorem d_Mo_readExpression_4 : decode prog_12_method_30_code 4 = .ok (.iconst 0, 1) := by decide +kernel
theorem d_Mo_readExpression_5 : decode prog_12_method_30_code 5 = .ok (.putfield 204, 3) := by decide +kernel
theorem d_Mo_readExpression_8 : decode prog_12_method_30_code 8 = .ok (.iconst 0, 1) := by decide +kernel
theorem d_Mo_readExpression_9 : decode prog_12_method_30_code 9 = .ok (.istore_n 1, 1) := by decide +kernel
theorem d_Mo_readExpression_10 : decode prog_12_method_30_code 10 = .ok (.iconst 0, 1) := by decide +kernel
theorem d_Mo_readExpression_11 : decode prog_12_method_30_code 11 = .ok (.istore_n 2, 1) := by decide +kernel
theorem d_Mo_readExpression_12 : decode prog_12_method_30_code 12 = .ok (.iconst 0, 1) := by decide +kernel
theorem d_Mo_readExpression_13 : decode prog_12_method_30_code 13 = .ok (.istore_n 3, 1) := by decide +kernel
theorem d_Mo_readExpression_14 : decode prog_12_method_30_code 14 = .ok (.iconst 1, 1) := by decide +kernel
theorem d_Mo_readExpression_15 : decode prog_12_method_30_code 15 = .ok (.istore 4, 2) := by decide +kernel
theorem d_Mo_readExpression_17 : decode prog_12_method_30_code 17 = .ok (.aload_n 0, 1) := by decide +kernel
theorem d_Mo_readExpression_18 : decode prog_12_method_30_code 18 = .ok (.invokevirtual 275, 3) := by decide +kernel
theorem d_Mo_readExpression_21 : decode prog_12_method_30_code 21 = .ok (.istore 5, 2) := by decide +kernel
theorem d_Mo_readExpression_23 : decode prog_12_method_30_code 23 = .ok (.iload 4, 2) := by decide +kernel
theorem d_Mo_readExpression_25 : decode prog_12_method_30_code 25 = .ok (.ifCond .eq 339, 3) := by decide +kernel
theorem d_Mo_readExpression_28 : decode prog_12_method_30_code 28 = .ok (.iload 5, 2) := by decide +kernel
theorem d_Mo_readExpression_30 : decode prog_12_method_30_code 30 = .ok (.bipush 40, 2) := by decide +kernel
theorem d_Mo_readExpression_32 : decode prog_12_method_30_code 32 = .ok (.if_icmp .ne 23, 3) := by decide +kernel
theorem d_Mo_readExpression_35 : decode prog_12_method_30_code 35 = .ok (.iload_n 2, 1) := by decide +kernel
theorem d_Mo_readExpression_36 : decode prog_12_method_30_code 36 = .ok (.iconst 1, 1) := by decide +kernel
theorem d_Mo_readExpression_37 : decode prog_12_method_30_code 37 = .ok (.if_icmp .ne 18, 3) := by decide +kernel
theorem d_Mo_readExpression_40 : decode prog_12_method_30_code 40 = .ok (.iconst 2, 1) := by decide +kernel
theorem d_Mo_readExpression_41 : decode prog_12_method_30_code 41 = .ok (.istore_n 2, 1) := by decide +kernel
theorem d_Mo_readExpression_42 : decode prog_12_method_30_code 42 = .ok (.aload_n 0, 1) := by decide +kernel
theorem d_Mo_readExpression_43 : decode prog_12_method_30_code 43 = .ok (.dup, 1) := by decide +kernel
theorem d_Mo_readExpression_44 : decode prog_12_method_30_code 44 = .ok (.getfield 270, 3) := by decide +kernel
theorem d_Mo_readExpression_47 : decode prog_12_method_30_code 47 = .ok (.iconst 1, 1) := by decide +kernel
theorem d_Mo_readExpression_48 : decode prog_12_method_30_code 48 = .ok (.iadd, 1) := by decide +kernel
theorem d_Mo_readExpression_49 : decode prog_12_method_30_code 49 = .ok (.putfield 270, 3) := by decide +kernel
theorem d_Mo_readExpression_52 : decode prog_12_method_30_code 52 = .ok (.goto 529, 3) := by decide +kernel
theorem d_Mo_readExpression_55 : decode prog_12_method_30_code 55 = .ok (.iload 5, 2) := by decide +kernel
theorem d_Mo_readExpression_57 : decode prog_12_method_30_code 57 = .ok (.bipush 40, 2) := by decide +kernel
theorem d_Mo_readExpression_59 : decode prog_12_method_30_code 59 = .ok (.if_icmp .eq 17, 3) := by decide +kernel
theorem d_Mo_readExpression_62 : decode prog_12_method_30_code 62 = .ok (.iload 5, 2) := by decide +kernel
theorem d_Mo_readExpression_64 : decode prog_12_method_30_code 64 = .ok (.bipush 39, 2) := by decide +kernel
theorem d_Mo_readExpression_66 : decode prog_12_method_30_code 66 = .ok (.if_icmp .eq 10, 3) := by decide +kernel
theorem d_Mo_readExpression_69 : decode prog_12_method_30_code 69 = .ok (.iload 5, 2) := by decide +kernel
theorem d_Mo_readExpression_71 : decode prog_12_method_30_code 71 = .ok (.bipush 49, 2) := by decide +kernel
theorem d_Mo_readExpression_73 : decode prog_12_method_30_code 73 = .ok (.if_icmp .ne 24, 3) := by decide +kernel
theorem d_Mo_readExpression_76 : decode prog_12_method_30_code 76 = .ok (.iload_n 2, 1) := by decide +kernel
theorem d_Mo_readExpression_77 : decode prog_12_method_30_code 77 = .ok (.ifCond .ne 20, 3) := by decide +kernel
theorem d_Mo_readExpression_80 : decode prog_12_method_30_code 80 = .ok (.aload_n 0, 1) := by decide +kernel
theorem d_Mo_readExpression_81 : decode prog_12_method_30_code 81 = .ok (.iload 5, 2) := by decide +kernel
theorem d_Mo_readExpression_83 : decode prog_12_method_30_code 83 = .ok (.invokevirtual 297, 3) := by decide +kernel
theorem d_Mo_readExpression_86 : decode prog_12_method_30_code 86 = .ok (.ifCond .ne 5, 3) := by decide +kernel
theorem d_Mo_readExpression_89 : decode prog_12_method_30_code 89 = .ok (.iconst 0, 1) := by decide +kernel
theorem d_Mo_readExpression_90 : decode prog_12_method_30_code 90 = .ok (.ireturn, 1) := by decide +kernel
theorem d_Mo_readExpression_91 : decode prog_12_method_30_code 91 = .ok (.iinc 3 1, 3) := by decide +kernel
theorem d_Mo_readExpression_94 : decode prog_12_method_30_code 94 = .ok (.goto 487, 3) := by decide +kernel
theorem d_Mo_readExpression_97 : decode prog_12_method_30_code 97 = .ok (.iload 5, 2) := by decide +kernel
theorem d_Mo_readExpression_99 : decode prog_12_method_30_code 99 = .ok (.bipush 50, 2) := by decide +kernel
theorem d_Mo_readExpression_101 : decode prog_12_method_30_code 101 = .ok (.if_icmp .eq 34, 3) := by decide +kernel
theorem d_Mo_readExpression_104 : decode prog_12_method_30_code 104 = .ok (.iload 5, 2) := by decide +kernel
theorem d_Mo_readExpression_106 : decode prog_12_method_30_code 106 = .ok (.bipush 52, 2) := by decide +kernel
theorem d_Mo_readExpression_108 : decode prog_12_method_30_code 108 = .ok (.if_icmp .eq 27, 3) := by decide +kernel
theorem d_Mo_readExpression_111 : decode prog_12_method_30_code 111 = .ok (.iload 5, 2) := by decide +kernel
theorem d_Mo_readExpression_113 : decode prog_12_method_30_code 113 = .ok (.iconst 2, 1) := by decide +kernel
theorem d_Mo_readExpression_114 : decode prog_12_method_30_code 114 = .ok (.if_icmp .ne 174, 3) := by decide +kernel
theorem d_Mo_readExpression_117 : decode prog_12_method_30_code 117 = .ok (.aload_n 0, 1) := by decide +kernel
theorem d_Mo_readExpression_118 : decode prog_12_method_30_code 118 = .ok (.getfield 114, 3) := by decide +kernel
theorem d_Mo_readExpression_121 : decode prog_12_method_30_code 121 = .ok (.aload_n 0, 1) := by decide +kernel
theorem d_Mo_readExpression_122 : decode prog_12_method_30_code 122 = .ok (.getfield 270, 3) := by decide +kernel
theorem d_Mo_readExpression_125 : decode prog_12_method_30_code 125 = .ok (.iconst 1, 1) := by decide +kernel
theorem d_Mo_readExpression_126 : decode prog_12_method_30_code 126 = .ok (.iadd, 1) := by decide +kernel
theorem d_Mo_readExpression_127 : decode prog_12_method_30_code 127 = .ok (.invokevirtual 214, 3) := by decide +kernel
theorem d_Mo_readExpression_130 : decode prog_12_method_30_code 130 = .ok (.bipush 50, 2) := by decide +kernel
theorem d_Mo_readExpression_132 : decode prog_12_method_30_code 132 = .ok (.if_icmp .ne 156, 3) := by decide +kernel
theorem d_Mo_readExpression_135 : decode prog_12_method_30_code 135 = .ok (.aload_n 0, 1) := by decide +kernel
theorem d_Mo_readExpression_136 : decode prog_12_method_30_code 136 = .ok (.iload 5, 2) := by decide +kernel
theorem d_Mo_readExpression_138 : decode prog_12_method_30_code 138 = .ok (.iconst 2, 1) := by decide +kernel
theorem d_Mo_readExpression_139 : decode prog_12_method_30_code 139 = .ok (.if_icmp .ne 12, 3) := by decide +kernel
theorem d_Mo_readExpression_142 : decode prog_12_method_30_code 142 = .ok (.aload_n 0, 1) := by decide +kernel
theorem d_Mo_readExpression_143 : decode prog_12_method_30_code 143 = .ok (.getfield 270, 3) := by decide +kernel
theorem d_Mo_readExpression_146 : decode prog_12_method_30_code 146 = .ok (.iconst 1, 1) := by decide +kernel
theorem d_Mo_readExpression_147 : decode prog_12_method_30_code 147 = .ok (.iadd, 1) := by decide +kernel
theorem d_Mo_readExpression_148 : decode prog_12_method_30_code 148 = .ok (.goto 7, 3) := by decide +kernel
theorem d_Mo_readExpression_151 : decode prog_12_method_30_code 151 = .ok (.aload_n 0, 1) := by decide +kernel
theorem d_Mo_readExpression_152 : decode prog_12_method_30_code 152 = .ok (.getfield 270, 3) := by decide +kernel
theorem d_Mo_readExpression_155 : decode prog_12_method_30_code 155 = .ok (.putfield 270, 3) := by decide +kernel
theorem d_Mo_readExpression_158 : decode prog_12_method_30_code 158 = .ok (.aload_n 0, 1) := by decide +kernel
theorem d_Mo_readExpression_159 : decode prog_12_method_30_code 159 = .ok (.aload_n 0, 1) := by decide +kernel
theorem d_Mo_readExpression_160 : decode prog_12_method_30_code 160 = .ok (.invokevirtual 275, 3) := by decide +kernel
theorem d_Mo_readExpression_163 : decode prog_12_method_30_code 163 = .ok (.invokevirtual 297, 3) := by decide +kernel
theorem d_Mo_readExpression_166 : decode prog_12_method_30_code 166 = .ok (.ifCond .ne 5, 3) := by decide +kernel
theorem d_Mo_readExpression_169 : decode prog_12_method_30_code 169 = .ok (.iconst 0, 1) := by decide +kernel
theorem d_Mo_readExpression_170 : decode prog_12_method_30_code 170 = .ok (.ireturn, 1) := by decide +kernel
theorem d_Mo_readExpression_171 : decode prog_12_method_30_code 171 = .ok (.aload_n 0, 1) := by decide +kernel
theorem d_Mo_readExpression_172 : decode prog_12_method_30_code 172 = .ok (.iload 5, 2) := by decide +kernel
theorem d_Mo_readExpression_174 : decode prog_12_method_30_code 174 = .ok (.iload_n 3, 1) := by decide +kernel
theorem d_Mo_readExpression_175 : decode prog_12_method_30_code 175 = .ok (.invokevirtual 300, 3) := by decide +kernel
theorem d_Mo_readExpression_178 : decode prog_12_method_30_code 178 = .ok (.aload_n 0, 1) := by decide +kernel
theorem d_Mo_readExpression_179 : decode prog_12_method_30_code 179 = .ok (.iconst 3, 1) := by decide +kernel
theorem d_Mo_readExpression_180 : decode prog_12_method_30_code 180 = .ok (.iload_n 1, 1) := by decide +kernel
theorem d_Mo_readExpression_181 : decode prog_12_method_30_code 181 = .ok (.invokevirtual 304, 3) := by decide +kernel
theorem d_Mo_readExpression_184 : decode prog_12_method_30_code 184 = .ok (.iconst 0, 1) := by decide +kernel
theorem d_Mo_readExpression_185 : decode prog_12_method_30_code 185 = .ok (.istore_n 1, 1) := by decide +kernel
theorem d_Mo_readExpression_186 : decode prog_12_method_30_code 186 = .ok (.iconst 0, 1) := by decide +kernel
theorem d_Mo_readExpression_187 : decode prog_12_method_30_code 187 = .ok (.istore_n 3, 1) := by decide +kernel
theorem d_Mo_readExpression_188 : decode prog_12_method_30_code 188 = .ok (.iconst 0, 1) := by decide +kernel
theorem d_Mo_readExpression_189 : decode prog_12_method_30_code 189 = .ok (.istore_n 2, 1) := by decide +kernel
theorem d_Mo_readExpression_190 : decode prog_12_method_30_code 190 = .ok (.iload 5, 2) := by decide +kernel
theorem d_Mo_readExpression_192 : decode prog_12_method_30_code 192 = .ok (.bipush 52, 2) := by decide +kernel
theorem d_Mo_readExpression_194 : decode prog_12_method_30_code 194 = .ok (.if_icmp .ne 12, 3) := by decide +kernel
theorem d_Mo_readExpression_197 : decode prog_12_method_30_code 197 = .ok (.aload_n 0, 1) := by decide +kernel
theorem d_Mo_readExpression_198 : decode prog_12_method_30_code 198 = .ok (.invokevirtual 275, 3) := by decide +kernel
theorem d_Mo_readExpression_201 : decode prog_12_method_30_code 201 = .ok (.bipush 53, 2) := by decide +kernel
theorem d_Mo_readExpression_203 : decode prog_12_method_30_code 203 = .ok (.if_icmp .eq 18, 3) := by decide +kernel
theorem d_Mo_readExpression_206 : decode prog_12_method_30_code 206 = .ok (.iload 5, 2) := by decide +kernel
theorem d_Mo_readExpression_208 : decode prog_12_method_30_code 208 = .ok (.iconst 2, 1) := by decide +kernel
theorem d_Mo_readExpression_209 : decode prog_12_method_30_code 209 = .ok (.if_icmp .ne 16, 3) := by decide +kernel
theorem d_Mo_readExpression_212 : decode prog_12_method_30_code 212 = .ok (.aload_n 0, 1) := by decide +kernel
theorem d_Mo_readExpression_213 : decode prog_12_method_30_code 213 = .ok (.invokevirtual 275, 3) := by decide +kernel
theorem d_Mo_readExpression_216 : decode prog_12_method_30_code 216 = .ok (.bipush 51, 2) := by decide +kernel
theorem d_Mo_readExpression_218 : decode prog_12_method_30_code 218 = .ok (.if_icmp .ne 7, 3) := by decide +kernel
theorem d_Mo_readExpression_221 : decode prog_12_method_30_code 221 = .ok (.iconst 1, 1) := by decide +kernel
theorem d_Mo_readExpression_222 : decode prog_12_method_30_code 222 = .ok (.goto 4, 3) := by decide +kernel
theorem d_Mo_readExpression_225 : decode prog_12_method_30_code 225 = .ok (.iconst 0, 1) := by decide +kernel
theorem d_Mo_readExpression_226 : decode prog_12_method_30_code 226 = .ok (.istore 6, 2) := by decide +kernel
theorem d_Mo_readExpression_228 : decode prog_12_method_30_code 228 = .ok (.iload 5, 2) := by decide +kernel
theorem d_Mo_readExpression_230 : decode prog_12_method_30_code 230 = .ok (.iconst 2, 1) := by decide +kernel
theorem d_Mo_readExpression_231 : decode prog_12_method_30_code 231 = .ok (.if_icmp .ne 15, 3) := by decide +kernel
theorem d_Mo_readExpression_234 : decode prog_12_method_30_code 234 = .ok (.iload 6, 2) := by decide +kernel
theorem d_Mo_readExpression_236 : decode prog_12_method_30_code 236 = .ok (.ifCond .ne 10, 3) := by decide +kernel
theorem d_Mo_readExpression_239 : decode prog_12_method_30_code 239 = .ok (.aload_n 0, 1) := by decide +kernel
theorem d_Mo_readExpression_240 : decode prog_12_method_30_code 240 = .ok (.invokevirtual 307, 3) := by decide +kernel
theorem d_Mo_readExpression_243 : decode prog_12_method_30_code 243 = .ok (.goto 4, 3) := by decide +kernel
theorem d_Mo_readExpression_246 : decode prog_12_method_30_code 246 = .ok (.iconst 0, 1) := by decide +kernel
theorem d_Mo_readExpression_247 : decode prog_12_method_30_code 247 = .ok (.istore 7, 2) := by decide +kernel
theorem d_Mo_readExpression_249 : decode prog_12_method_30_code 249 = .ok (.iload 7, 2) := by decide +kernel
theorem d_Mo_readExpression_251 : decode prog_12_method_30_code 251 = .ok (.ifCond .ge 5, 3) := by decide +kernel
theorem d_Mo_readExpression_254 : decode prog_12_method_30_code 254 = .ok (.iconst 0, 1) := by decide +kernel
theorem d_Mo_readExpression_255 : decode prog_12_method_30_code 255 = .ok (.ireturn, 1) := by decide +kernel
theorem d_Mo_readExpression_256 : decode prog_12_method_30_code 256 = .ok (.iload 6, 2) := by decide +kernel
theorem d_Mo_readExpression_258 : decode prog_12_method_30_code 258 = .ok (.ifCond .ne 12, 3) := by decide +kernel
theorem d_Mo_readExpression_261 : decode prog_12_method_30_code 261 = .ok (.iload 7, 2) := by decide +kernel
theorem d_Mo_readExpression_263 : decode prog_12_method_30_code 263 = .ok (.ifCond .ne 7, 3) := by decide +kernel
theorem d_Mo_readExpression_266 : decode prog_12_method_30_code 266 = .ok (.iconst 1, 1) := by decide +kernel
theorem d_Mo_readExpression_267 : decode prog_12_method_30_code 267 = .ok (.goto 4, 3) := by decide +kernel
theorem d_Mo_readExpression_270 : decode prog_12_method_30_code 270 = .ok (.iconst 0, 1) := by decide +kernel
theorem d_Mo_readExpression_271 : decode prog_12_method_30_code 271 = .ok (.istore 4, 2) := by decide +kernel
theorem d_Mo_readExpression_273 : decode prog_12_method_30_code 273 = .ok (.iload 7, 2) := by decide +kernel
theorem d_Mo_readExpression_275 : decode prog_12_method_30_code 275 = .ok (.iconst 1, 1) := by decide +kernel
theorem d_Mo_readExpression_276 : decode prog_12_method_30_code 276 = .ok (.if_icmp .ne 9, 3) := by decide +kernel
theorem d_Mo_readExpression_279 : decode prog_12_method_30_code 279 = .ok (.aload_n 0, 1) := by decide +kernel
theorem d_Mo_readExpression_280 : decode prog_12_method_30_code 280 = .ok (.iconst 1, 1) := by decide +kernel
theorem d_Mo_readExpression_281 : decode prog_12_method_30_code 281 = .ok (.iconst 1, 1) := by decide +kernel
theorem d_Mo_readExpression_282 : decode prog_12_method_30_code 282 = .ok (.invokevirtual 304, 3) := by decide +kernel
theorem d_Mo_readExpression_285 : decode prog_12_method_30_code 285 = .ok (.goto 296, 3) := by decide +kernel
theorem d_Mo_readExpression_288 : decode prog_12_method_30_code 288 = .ok (.iload 5, 2) := by decide +kernel
theorem d_Mo_readExpression_290 : decode prog_12_method_30_code 290 = .ok (.iconst 2, 1) := by decide +kernel
theorem d_Mo_readExpression_291 : decode prog_12_method_30_code 291 = .ok (.if_icmp .eq 22, 3) := by decide +kernel
theorem d_Mo_readExpression_294 : decode prog_12_method_30_code 294 = .ok (.iload 5, 2) := by decide +kernel
theorem d_Mo_readExpression_296 : decode prog_12_method_30_code 296 = .ok (.iconst 3, 1) := by decide +kernel
theorem d_Mo_readExpression_297 : decode prog_12_method_30_code 297 = .ok (.if_icmp .eq 16, 3) := by decide +kernel
theorem d_Mo_readExpression_300 : decode prog_12_method_30_code 300 = .ok (.iload 5, 2) := by decide +kernel
theorem d_Mo_readExpression_302 : decode prog_12_method_30_code 302 = .ok (.iconst 4, 1) := by decide +kernel
theorem d_Mo_readExpression_303 : decode prog_12_method_30_code 303 = .ok (.if_icmp .eq 10, 3) := by decide +kernel
theorem d_Mo_readExpression_306 : decode prog_12_method_30_code 306 = .ok (.iload 5, 2) := by decide +kernel
theorem d_Mo_readExpression_308 : decode prog_12_method_30_code 308 = .ok (.bipush 13, 2) := by decide +kernel
theorem d_Mo_readExpression_310 : decode prog_12_method_30_code 310 = .ok (.if_icmp .ne 49, 3) := by decide +kernel
theorem d_Mo_readExpression_313 : decode prog_12_method_30_code 313 = .ok (.iload 5, 2) := by decide +kernel
theorem d_Mo_readExpression_315 : decode prog_12_method_30_code 315 = .ok (.bipush 13, 2) := by decide +kernel
theorem d_Mo_readExpression_317 : decode prog_12_method_30_code 317 = .ok (.if_icmp .ne 12, 3) := by decide +kernel
theorem d_Mo_readExpression_320 : decode prog_12_method_30_code 320 = .ok (.aload_n 0, 1) := by decide +kernel
theorem d_Mo_readExpression_321 : decode prog_12_method_30_code 321 = .ok (.invokevirtual 291, 3) := by decide +kernel
theorem d_Mo_readExpression_324 : decode prog_12_method_30_code 324 = .ok (.ifCond .ne 5, 3) := by decide +kernel
theorem d_Mo_readExpression_327 : decode prog_12_method_30_code 327 = .ok (.iconst 0, 1) := by decide +kernel
theorem d_Mo_readExpression_328 : decode prog_12_method_30_code 328 = .ok (.ireturn, 1) := by decide +kernel
theorem d_Mo_readExpression_329 : decode prog_12_method_30_code 329 = .ok (.aload_n 0, 1) := by decide +kernel
theorem d_Mo_readExpression_330 : decode prog_12_method_30_code 330 = .ok (.dup, 1) := by decide +kernel
theorem d_Mo_readExpression_331 : decode prog_12_method_30_code 331 = .ok (.getfield 270, 3) := by decide +kernel
theorem d_Mo_readExpression_334 : decode prog_12_method_30_code 334 = .ok (.iconst 1, 1) := by decide +kernel
theorem d_Mo_readExpression_335 : decode prog_12_method_30_code 335 = .ok (.iadd, 1) := by decide +kernel
theorem d_Mo_readExpression_336 : decode prog_12_method_30_code 336 = .ok (.putfield 270, 3) := by decide +kernel
theorem d_Mo_readExpression_339 : decode prog_12_method_30_code 339 = .ok (.aload_n 0, 1) := by decide +kernel
theorem d_Mo_readExpression_340 : decode prog_12_method_30_code 340 = .ok (.aload_n 0, 1) := by decide +kernel
theorem d_Mo_readExpression_341 : decode prog_12_method_30_code 341 = .ok (.getfield 282, 3) := by decide +kernel
theorem d_Mo_readExpression_344 : decode prog_12_method_30_code 344 = .ok (.iload_n 3, 1) := by decide +kernel
theorem d_Mo_readExpression_345 : decode prog_12_method_30_code 345 = .ok (.isub, 1) := by decide +kernel
theorem d_Mo_readExpression_346 : decode prog_12_method_30_code 346 = .ok (.putfield 282, 3) := by decide +kernel
theorem d_Mo_readExpression_349 : decode prog_12_method_30_code 349 = .ok (.iconst 0, 1) := by decide +kernel
theorem d_Mo_readExpression_350 : decode prog_12_method_30_code 350 = .ok (.istore_n 3, 1) := by decide +kernel
theorem d_Mo_readExpression_351 : decode prog_12_method_30_code 351 = .ok (.iconst 0, 1) := by decide +kernel
theorem d_Mo_readExpression_352 : decode prog_12_method_30_code 352 = .ok (.istore_n 2, 1) := by decide +kernel
theorem d_Mo_readExpression_353 : decode prog_12_method_30_code 353 = .ok (.iconst 0, 1) := by decide +kernel
theorem d_Mo_readExpression_354 : decode prog_12_method_30_code 354 = .ok (.istore 4, 2) := by decide +kernel
theorem d_Mo_readExpression_356 : decode prog_12_method_30_code 356 = .ok (.goto 225, 3) := by decide +kernel
theorem d_Mo_readExpression_359 : decode prog_12_method_30_code 359 = .ok (.aload_n 0, 1) := by decide +kernel
theorem d_Mo_readExpression_360 : decode prog_12_method_30_code 360 = .ok (.invokevirtual 278, 3) := by decide +kernel
theorem d_Mo_readExpression_363 : decode prog_12_method_30_code 363 = .ok (.ireturn, 1) := by decide +kernel
theorem d_Mo_readExpression_364 : decode prog_12_method_30_code 364 = .ok (.iload 5, 2) := by decide +kernel
theorem d_Mo_readExpression_366 : decode prog_12_method_30_code 366 = .ok (.bipush 48, 2) := by decide +kernel
theorem d_Mo_readExpression_368 : decode prog_12_method_30_code 368 = .ok (.if_icmp .ne 23, 3) := by decide +kernel
theorem d_Mo_readExpression_371 : decode prog_12_method_30_code 371 = .ok (.aload_n 0, 1) := by decide +kernel
theorem d_Mo_readExpression_372 : decode prog_12_method_30_code 372 = .ok (.invokevirtual 310, 3) := by decide +kernel
theorem d_Mo_readExpression_375 : decode prog_12_method_30_code 375 = .ok (.ifCond .ne 16, 3) := by decide +kernel
theorem d_Mo_readExpression_378 : decode prog_12_method_30_code 378 = .ok (.aload_n 0, 1) := by decide +kernel
theorem d_Mo_readExpression_379 : decode prog_12_method_30_code 379 = .ok (.dup, 1) := by decide +kernel
theorem d_Mo_readExpression_380 : decode prog_12_method_30_code 380 = .ok (.getfield 270, 3) := by decide +kernel
theorem d_Mo_readExpression_383 : decode prog_12_method_30_code 383 = .ok (.iconst 1, 1) := by decide +kernel
theorem d_Mo_readExpression_384 : decode prog_12_method_30_code 384 = .ok (.iadd, 1) := by decide +kernel
theorem d_Mo_readExpression_385 : decode prog_12_method_30_code 385 = .ok (.putfield 270, 3) := by decide +kernel
theorem d_Mo_readExpression_388 : decode prog_12_method_30_code 388 = .ok (.goto 193, 3) := by decide +kernel
theorem d_Mo_readExpression_391 : decode prog_12_method_30_code 391 = .ok (.aload_n 0, 1) := by decide +kernel
theorem d_Mo_readExpression_392 : decode prog_12_method_30_code 392 = .ok (.iload 5, 2) := by decide +kernel
theorem d_Mo_readExpression_394 : decode prog_12_method_30_code 394 = .ok (.invokevirtual 313, 3) := by decide +kernel
theorem d_Mo_readExpression_397 : decode prog_12_method_30_code 397 = .ok (.ifCond .le 89, 3) := by decide +kernel
theorem d_Mo_readExpression_400 : decode prog_12_method_30_code 400 = .ok (.aload_n 0, 1) := by decide +kernel
theorem d_Mo_readExpression_401 : decode prog_12_method_30_code 401 = .ok (.invokevirtual 310, 3) := by decide +kernel
theorem d_Mo_readExpression_404 : decode prog_12_method_30_code 404 = .ok (.ifCond .ne 82, 3) := by decide +kernel
theorem d_Mo_readExpression_407 : decode prog_12_method_30_code 407 = .ok (.aload_n 0, 1) := by decide +kernel
theorem d_Mo_readExpression_408 : decode prog_12_method_30_code 408 = .ok (.invokevirtual 316, 3) := by decide +kernel
theorem d_Mo_readExpression_411 : decode prog_12_method_30_code 411 = .ok (.ifCond .ne 75, 3) := by decide +kernel
theorem d_Mo_readExpression_414 : decode prog_12_method_30_code 414 = .ok (.aload_n 0, 1) := by decide +kernel
theorem d_Mo_readExpression_415 : decode prog_12_method_30_code 415 = .ok (.iload 5, 2) := by decide +kernel
theorem d_Mo_readExpression_417 : decode prog_12_method_30_code 417 = .ok (.invokevirtual 313, 3) := by decide +kernel
theorem d_Mo_readExpression_420 : decode prog_12_method_30_code 420 = .ok (.iconst 4, 1) := by decide +kernel
theorem d_Mo_readExpression_421 : decode prog_12_method_30_code 421 = .ok (.if_icmp .ge 7, 3) := by decide +kernel
theorem d_Mo_readExpression_424 : decode prog_12_method_30_code 424 = .ok (.iconst 0, 1) := by decide +kernel
theorem d_Mo_readExpression_425 : decode prog_12_method_30_code 425 = .ok (.goto 17, 3) := by decide +kernel
theorem d_Mo_readExpression_428 : decode prog_12_method_30_code 428 = .ok (.iload 5, 2) := by decide +kernel
theorem d_Mo_readExpression_430 : decode prog_12_method_30_code 430 = .ok (.bipush 38, 2) := by decide +kernel
theorem d_Mo_readExpression_432 : decode prog_12_method_30_code 432 = .ok (.if_icmp .ne 9, 3) := by decide +kernel
theorem d_Mo_readExpression_435 : decode prog_12_method_30_code 435 = .ok (.iload_n 1, 1) := by decide +kernel
theorem d_Mo_readExpression_436 : decode prog_12_method_30_code 436 = .ok (.iconst 1, 1) := by decide +kernel
theorem d_Mo_readExpression_437 : decode prog_12_method_30_code 437 = .ok (.iadd, 1) := by decide +kernel
theorem d_Mo_readExpression_438 : decode prog_12_method_30_code 438 = .ok (.goto 4, 3) := by decide +kernel
theorem d_Mo_readExpression_441 : decode prog_12_method_30_code 441 = .ok (.iload_n 1, 1) := by decide +kernel
theorem d_Mo_readExpression_442 : decode prog_12_method_30_code 442 = .ok (.istore_n 1, 1) := by decide +kernel
theorem d_Mo_readExpression_443 : decode prog_12_method_30_code 443 = .ok (.iload_n 1, 1) := by decide +kernel
theorem d_Mo_readExpression_444 : decode prog_12_method_30_code 444 = .ok (.iconst 2, 1) := by decide +kernel
theorem d_Mo_readExpression_445 : decode prog_12_method_30_code 445 = .ok (.if_icmp .le 8, 3) := by decide +kernel
theorem d_Mo_readExpression_448 : decode prog_12_method_30_code 448 = .ok (.aload_n 0, 1) := by decide +kernel
theorem d_Mo_readExpression_449 : decode prog_12_method_30_code 449 = .ok (.invokevirtual 278, 3) := by decide +kernel
theorem d_Mo_readExpression_452 : decode prog_12_method_30_code 452 = .ok (.ireturn, 1) := by decide +kernel
theorem d_Mo_readExpression_453 : decode prog_12_method_30_code 453 = .ok (.aload_n 0, 1) := by decide +kernel
theorem d_Mo_readExpression_454 : decode prog_12_method_30_code 454 = .ok (.iload 5, 2) := by decide +kernel
theorem d_Mo_readExpression_456 : decode prog_12_method_30_code 456 = .ok (.invokevirtual 313, 3) := by decide +kernel
theorem d_Mo_readExpression_459 : decode prog_12_method_30_code 459 = .ok (.bipush 8, 2) := by decide +kernel
theorem d_Mo_readExpression_461 : decode prog_12_method_30_code 461 = .ok (.if_icmp .ne 7, 3) := by decide +kernel
theorem d_Mo_readExpression_464 : decode prog_12_method_30_code 464 = .ok (.iconst 1, 1) := by decide +kernel
theorem d_Mo_readExpression_465 : decode prog_12_method_30_code 465 = .ok (.goto 4, 3) := by decide +kernel
theorem d_Mo_readExpression_468 : decode prog_12_method_30_code 468 = .ok (.iconst 0, 1) := by decide +kernel
theorem d_Mo_readExpression_469 : decode prog_12_method_30_code 469 = .ok (.istore_n 2, 1) := by decide +kernel
theorem d_Mo_readExpression_470 : decode prog_12_method_30_code 470 = .ok (.iconst 1, 1) := by decide +kernel
theorem d_Mo_readExpression_471 : decode prog_12_method_30_code 471 = .ok (.istore 4, 2) := by decide +kernel
theorem d_Mo_readExpression_473 : decode prog_12_method_30_code 473 = .ok (.aload_n 0, 1) := by decide +kernel
theorem d_Mo_readExpression_474 : decode prog_12_method_30_code 474 = .ok (.dup, 1) := by decide +kernel
theorem d_Mo_readExpression_475 : decode prog_12_method_30_code 475 = .ok (.getfield 270, 3) := by decide +kernel
theorem d_Mo_readExpression_478 : decode prog_12_method_30_code 478 = .ok (.iconst 1, 1) := by decide +kernel
theorem d_Mo_readExpression_479 : decode prog_12_method_30_code 479 = .ok (.iadd, 1) := by decide +kernel
theorem d_Mo_readExpression_480 : decode prog_12_method_30_code 480 = .ok (.putfield 270, 3) := by decide +kernel
theorem d_Mo_readExpression_483 : decode prog_12_method_30_code 483 = .ok (.goto 98, 3) := by decide +kernel
theorem d_Mo_readExpression_486 : decode prog_12_method_30_code 486 = .ok (.aload_n 0, 1) := by decide +kernel
theorem d_Mo_readExpression_487 : decode prog_12_method_30_code 487 = .ok (.getfield 142, 3) := by decide +kernel
theorem d_Mo_readExpression_490 : decode prog_12_method_30_code 490 = .ok (.getfield 204, 3) := by decide +kernel
theorem d_Mo_readExpression_493 : decode prog_12_method_30_code 493 = .ok (.ifCond .ne 5, 3) := by decide +kernel
theorem d_Mo_readExpression_496 : decode prog_12_method_30_code 496 = .ok (.iconst 1, 1) := by decide +kernel
theorem d_Mo_readExpression_497 : decode prog_12_method_30_code 497 = .ok (.ireturn, 1) := by decide +kernel
theorem d_Mo_readExpression_498 : decode prog_12_method_30_code 498 = .ok (.aload_n 0, 1) := by decide +kernel
theorem d_Mo_readExpression_499 : decode prog_12_method_30_code 499 = .ok (.iconst 0, 1) := by decide +kernel
theorem d_Mo_readExpression_500 : decode prog_12_method_30_code 500 = .ok (.invokevirtual 319, 3) := by decide +kernel
theorem d_Mo_readExpression_503 : decode prog_12_method_30_code 503 = .ok (.istore 6, 2) := by decide +kernel
theorem d_Mo_readExpression_505 : decode prog_12_method_30_code 505 = .ok (.aload_n 0, 1) := by decide +kernel
theorem d_Mo_readExpression_506 : decode prog_12_method_30_code 506 = .ok (.iload 6, 2) := by decide +kernel
theorem d_Mo_readExpression_508 : decode prog_12_method_30_code 508 = .ok (.iload 5, 2) := by decide +kernel
theorem d_Mo_readExpression_510 : decode prog_12_method_30_code 510 = .ok (.invokevirtual 322, 3) := by decide +kernel
theorem d_Mo_readExpression_513 : decode prog_12_method_30_code 513 = .ok (.istore 7, 2) := by decide +kernel
theorem d_Mo_readExpression_515 : decode prog_12_method_30_code 515 = .ok (.iload 7, 2) := by decide +kernel
theorem d_Mo_readExpression_517 : decode prog_12_method_30_code 517 = .ok (.ifCond .ge 5, 3) := by decide +kernel
theorem d_Mo_readExpression_520 : decode prog_12_method_30_code 520 = .ok (.iconst 0, 1) := by decide +kernel
theorem d_Mo_readExpression_521 : decode prog_12_method_30_code 521 = .ok (.ireturn, 1) := by decide +kernel
theorem d_Mo_readExpression_522 : decode prog_12_method_30_code 522 = .ok (.iload 7, 2) := by decide +kernel
theorem d_Mo_readExpression_524 : decode prog_12_method_30_code 524 = .ok (.ifCond .ne 40, 3) := by decide +kernel
theorem d_Mo_readExpression_527 : decode prog_12_method_30_code 527 = .ok (.aload_n 0, 1) := by decide +kernel
theorem d_Mo_readExpression_528 : decode prog_12_method_30_code 528 = .ok (.iconst 3, 1) := by decide +kernel
theorem d_Mo_readExpression_529 : decode prog_12_method_30_code 529 = .ok (.invokevirtual 319, 3) := by decide +kernel
theorem d_Mo_readExpression_532 : decode prog_12_method_30_code 532 = .ok (.istore_n 1, 1) := by decide +kernel
theorem d_Mo_readExpression_533 : decode prog_12_method_30_code 533 = .ok (.aload_n 0, 1) := by decide +kernel
theorem d_Mo_readExpression_534 : decode prog_12_method_30_code 534 = .ok (.iconst 4, 1) := by decide +kernel
theorem d_Mo_readExpression_535 : decode prog_12_method_30_code 535 = .ok (.invokevirtual 319, 3) := by decide +kernel
theorem d_Mo_readExpression_538 : decode prog_12_method_30_code 538 = .ok (.istore_n 3, 1) := by decide +kernel
theorem d_Mo_readExpression_539 : decode prog_12_method_30_code 539 = .ok (.aload_n 0, 1) := by decide +kernel
theorem d_Mo_readExpression_540 : decode prog_12_method_30_code 540 = .ok (.getfield 142, 3) := by decide +kernel
theorem d_Mo_readExpression_543 : decode prog_12_method_30_code 543 = .ok (.iconst 5, 1) := by decide +kernel
theorem d_Mo_readExpression_544 : decode prog_12_method_30_code 544 = .ok (.invokevirtual 211, 3) := by decide +kernel
theorem d_Mo_readExpression_547 : decode prog_12_method_30_code 547 = .ok (.aload_n 0, 1) := by decide +kernel
theorem d_Mo_readExpression_548 : decode prog_12_method_30_code 548 = .ok (.aload_n 0, 1) := by decide +kernel
theorem d_Mo_readExpression_549 : decode prog_12_method_30_code 549 = .ok (.getfield 282, 3) := by decide +kernel
theorem d_Mo_readExpression_552 : decode prog_12_method_30_code 552 = .ok (.iload_n 3, 1) := by decide +kernel
theorem d_Mo_readExpression_553 : decode prog_12_method_30_code 553 = .ok (.isub, 1) := by decide +kernel
theorem d_Mo_readExpression_554 : decode prog_12_method_30_code 554 = .ok (.iconst 1, 1) := by decide +kernel
theorem d_Mo_readExpression_555 : decode prog_12_method_30_code 555 = .ok (.isub, 1) := by decide +kernel
theorem d_Mo_readExpression_556 : decode prog_12_method_30_code 556 = .ok (.putfield 282, 3) := by decide +kernel
theorem d_Mo_readExpression_559 : decode prog_12_method_30_code 559 = .ok (.iconst 0, 1) := by decide +kernel
theorem d_Mo_readExpression_560 : decode prog_12_method_30_code 560 = .ok (.istore_n 3, 1) := by decide +kernel
theorem d_Mo_readExpression_561 : decode prog_12_method_30_code 561 = .ok (.goto 20, 3) := by decide +kernel
theorem d_Mo_readExpression_564 : decode prog_12_method_30_code 564 = .ok (.iconst 0, 1) := by decide +kernel
theorem d_Mo_readExpression_565 : decode prog_12_method_30_code 565 = .ok (.istore_n 1, 1) := by decide +kernel
theorem d_Mo_readExpression_566 : decode prog_12_method_30_code 566 = .ok (.iconst 0, 1) := by decide +kernel
theorem d_Mo_readExpression_567 : decode prog_12_method_30_code 567 = .ok (.istore_n 2, 1) := by decide +kernel
theorem d_Mo_readExpression_568 : decode prog_12_method_30_code 568 = .ok (.iload 7, 2) := by decide +kernel
theorem d_Mo_readExpression_570 : decode prog_12_method_30_code 570 = .ok (.iconst 1, 1) := by decide +kernel
theorem d_Mo_readExpression_571 : decode prog_12_method_30_code 571 = .ok (.if_icmp .ne 7, 3) := by decide +kernel
theorem d_Mo_readExpression_574 : decode prog_12_method_30_code 574 = .ok (.iconst 1, 1) := by decide +kernel
theorem d_Mo_readExpression_575 : decode prog_12_method_30_code 575 = .ok (.goto 4, 3) := by decide +kernel
theorem d_Mo_readExpression_578 : decode prog_12_method_30_code 578 = .ok (.iconst 0, 1) := by decide +kernel
theorem d_Mo_readExpression_579 : decode prog_12_method_30_code 579 = .ok (.istore 4, 2) := by decide +kernel
theorem d_Mo_readExpression_581 : decode prog_12_method_30_code 581 = .ok (.goto (-564), 3) := by decide +kernel
set_option maxHeartbeats 4000000 in
set_option maxRecDepth 100000 in
theorem L_Mo_readExpression_17 (l : Launch) (D : va_G) (cI cB cJ cS : ClassId) (h0 : Nat) (am : Nat → Nat) (a_all_m20 : Nat) (a_all_m5 : Nat) (known_h0 : Int32) (thrown_h0 : Int32) (wrong_h0 : Int32) (lastEnd_h0 : Int32) (at_h0 : Int32) (bad_h0 : Int32) (levels_h0 : Int32) (least_h0 : Int32) (found_h0 : Int32) (size_m20 : Int32) (size_m5 : Int32) (n_a_all_m5 : Nat) (b_a_all_m5 : Nat → Int32) (n_a_all_m20 : Nat) (b_a_all_m20 : Nat → Int32) (n_m2 : Nat) (b_m2 : Nat → Int32) (ret : Int32) (o_0_17 : Int32) (o_0_18 : Int32) (o_0_19 : Int32) (o_1_1 : Int32) (on_nq_1_0 : Nat) (ob_nq_1_0 : Nat → Int32) (mc ms : Nat) (p : Program) (e : Env) (s : State) (m : MethodId) (below : List Frame) (meth : Method) (c : Code) (hr : meth.sig.returnType = (Option.some Jvm.ClassFile.FieldType.boolean)) (hnm : meth.name = y_Mo_readExpression.name) : ∀ (k_17 : Nat) (q1_0_17 : Nat) (v4_17 : Int32) (v3_17 : Int32) (v2_17 : Int32) (v1_17 : Int32) (f0_17_17 : Int32) (f0_18_17 : Int32) (f0_19_17 : Int32) (f1_1_17 : Int32) (n4_17 : Nat) (b4_17 : Nat → Int32) (hz_v4_17 : zb v4_17) (cl_17 sl_17 C_17 S_17 : Nat), F_Mo_readExpression_17 known_h0 thrown_h0 wrong_h0 lastEnd_h0 least_h0 found_h0 size_m5 n_a_all_m5 b_a_all_m5 n_m2 b_m2  k_17 v4_17 v3_17 v2_17 v1_17 f0_17_17 f0_18_17 f0_19_17 f1_1_17 n4_17 b4_17 = some ((ret, o_0_17, o_0_18, o_0_19, o_1_1, on_nq_1_0, ob_nq_1_0), C_17, S_17) → cl_17 + C_17 ≤ mc → sl_17 + S_17 ≤ ms → J (KxOf p l e { frames := 4, cells := mc, slots := ms, locals := 86 } s m [.ref h0].toArray below meth c D (gT cI cB cJ cS) [(h0, .inr (9, moF am known_h0 thrown_h0 wrong_h0 lastEnd_h0 at_h0 bad_h0 levels_h0 least_h0 found_h0)), ((am 20), .inr (8, [.ref a_all_m20, .int size_m20])), ((am 5), .inr (8, [.ref a_all_m5, .int size_m5])), (a_all_m5, .inl (cI, n_a_all_m5, .inl b_a_all_m5)), (a_all_m20, .inl (cI, n_a_all_m20, .inl b_a_all_m20)), ((am 2), .inl (cI, n_m2, .inl b_m2))] (fun v w => ∃ nq_1_0 : Nat, v = some (.int ret) ∧ zb ret ∧ w = [(h0, .inr (9, moF am known_h0 thrown_h0 wrong_h0 lastEnd_h0 o_0_17 o_0_18 o_0_19 least_h0 found_h0)), ((am 20), .inr (8, [.ref nq_1_0, .int o_1_1])), ((am 5), .inr (8, [.ref a_all_m5, .int size_m5])), (a_all_m5, .inl (cI, n_a_all_m5, .inl b_a_all_m5)), ((am 2), .inl (cI, n_m2, .inl b_m2)), (nq_1_0, .inl (cI, on_nq_1_0, .inl ob_nq_1_0))]) mc ms) prog_12_method_30_code 8 R_Mo 17 [(4, .int v4_17), (3, .int v3_17), (2, .int v2_17), (1, .int v1_17), (0, .ref h0)] [] [(h0, .inr (9, moF am known_h0 thrown_h0 wrong_h0 lastEnd_h0 f0_17_17 f0_18_17 f0_19_17 least_h0 found_h0)), ((am 20), .inr (8, [.ref q1_0_17, .int f1_1_17])), ((am 5), .inr (8, [.ref a_all_m5, .int size_m5])), (a_all_m5, .inl (cI, n_a_all_m5, .inl b_a_all_m5)), (q1_0_17, .inl (cI, n4_17, .inl b4_17)), ((am 2), .inl (cI, n_m2, .inl b_m2))] cl_17 sl_17 := by
  intro k_17
  induction k_17 with
  | zero => intro q1_0_17 v4_17 v3_17 v2_17 v1_17 f0_17_17 f0_18_17 f0_19_17 f1_1_17 n4_17 b4_17 hz_v4_17 cl_17 sl_17 C_17 S_17 h; rw [F_Mo_readExpression_17] at h; cases h
  | succ k_17 ih_17 =>
    intro q1_0_17 v4_17 v3_17 v2_17 v1_17 f0_17_17 f0_18_17 f0_19_17 f1_1_17 n4_17 b4_17 hz_v4_17 cl_17 sl_17 C_17 S_17 h hC hS
    rw [F_Mo_readExpression_17] at h
    have L_486 : ∀ (cl_486 sl_486 C_486 S_486 : Nat), F_Mo_readExpression_486 known_h0 thrown_h0 wrong_h0 lastEnd_h0 least_h0 found_h0 size_m5 n_a_all_m5 b_a_all_m5 v4_17 v3_17 v2_17 f0_17_17 f0_18_17 f0_19_17 f1_1_17 n4_17 b4_17 (F_Mo_readExpression_17 known_h0 thrown_h0 wrong_h0 lastEnd_h0 least_h0 found_h0 size_m5 n_a_all_m5 b_a_all_m5 n_m2 b_m2  k_17)   = some ((ret, o_0_17, o_0_18, o_0_19, o_1_1, on_nq_1_0, ob_nq_1_0), C_486, S_486) → cl_486 + C_486 ≤ mc → sl_486 + S_486 ≤ ms → J (KxOf p l e { frames := 4, cells := mc, slots := ms, locals := 86 } s m [.ref h0].toArray below meth c D (gT cI cB cJ cS) [(h0, .inr (9, moF am known_h0 thrown_h0 wrong_h0 lastEnd_h0 at_h0 bad_h0 levels_h0 least_h0 found_h0)), ((am 20), .inr (8, [.ref a_all_m20, .int size_m20])), ((am 5), .inr (8, [.ref a_all_m5, .int size_m5])), (a_all_m5, .inl (cI, n_a_all_m5, .inl b_a_all_m5)), (a_all_m20, .inl (cI, n_a_all_m20, .inl b_a_all_m20)), ((am 2), .inl (cI, n_m2, .inl b_m2))] (fun v w => ∃ nq_1_0 : Nat, v = some (.int ret) ∧ zb ret ∧ w = [(h0, .inr (9, moF am known_h0 thrown_h0 wrong_h0 lastEnd_h0 o_0_17 o_0_18 o_0_19 least_h0 found_h0)), ((am 20), .inr (8, [.ref nq_1_0, .int o_1_1])), ((am 5), .inr (8, [.ref a_all_m5, .int size_m5])), (a_all_m5, .inl (cI, n_a_all_m5, .inl b_a_all_m5)), ((am 2), .inl (cI, n_m2, .inl b_m2)), (nq_1_0, .inl (cI, on_nq_1_0, .inl ob_nq_1_0))]) mc ms) prog_12_method_30_code 8 R_Mo 486 [(5, .int (b_a_all_m5 (Int32.toNatClampNeg f0_17_17))), (4, .int v4_17), (3, .int v3_17), (2, .int v2_17), (1, .int v1_17), (0, .ref h0)] [] [((am 20), .inr (8, [.ref q1_0_17, .int f1_1_17])), (q1_0_17, .inl (cI, n4_17, .inl b4_17)), ((am 5), .inr (8, [.ref a_all_m5, .int size_m5])), (a_all_m5, .inl (cI, n_a_all_m5, .inl b_a_all_m5)), (h0, .inr (9, moF am known_h0 thrown_h0 wrong_h0 lastEnd_h0 f0_17_17 f0_18_17 f0_19_17 least_h0 found_h0)), ((am 2), .inl (cI, n_m2, .inl b_m2))] cl_486 sl_486 := by
      clear h
      intro  cl_486 sl_486 C_486 S_486 h hC hS
      unfold F_Mo_readExpression_486 at h
      refine j_aload_n d_Mo_readExpression_486 rfl 5 rfl ?_
      refine j_get ig_Mo rfl 4 rfl 20 (by decide) rfl m_1133 rfl d_Mo_readExpression_487 ?_
      refine j_getN ig_Nm rfl 0 rfl 1 (by decide) rfl mn_13 rfl d_Mo_readExpression_490 ?_
      refine j_if_ne (tgt := 498) d_Mo_readExpression_493 (by decide) (fun c1 => ?_) (fun c1 => ?_)
      · replace h := it_f c1 h
        refine j_aload_n d_Mo_readExpression_498 rfl 5 rfl ?_
        refine j_iconst (v := 0) d_Mo_readExpression_499 (by decide) ?_
        replace h := bd_s h
        obtain ⟨_, k2, h⟩ := h
        refine j_callV (n := 1) (As := [.int 0]) (rest := []) (wr := [((am 5), .inr (8, [.ref a_all_m5, .int size_m5])), (a_all_m5, .inl (cI, n_a_all_m5, .inl b_a_all_m5)), ((am 2), .inl (cI, n_m2, .inl b_m2))]) (c_Mo_top l D cI cB cJ cS h0 am q1_0_17 0 known_h0 thrown_h0 wrong_h0 lastEnd_h0 f0_17_17 f0_18_17 f0_19_17 least_h0 found_h0 f1_1_17 n4_17 b4_17  k2) k_Mo_319 (by decide) ⟨Nat.le_of_ble_eq_true rfl, Nat.le_of_ble_eq_true rfl⟩ rfl 0 rfl [4, 0, 1] [2, 3, 5] rfl (by decide) rfl (by decide) (by decide) rfl rfl (Nat.le_of_ble_eq_true rfl) d_Mo_readExpression_500 ⟨show cl_486 + 0 ≤ mc by omega, show sl_486 + 0 ≤ ms by omega⟩ (fun v w hq => ?_)
        obtain ⟨rfl, rfl⟩ := hq
        refine j_norm (pc' := 503) (st' := [.int (b4_17 (Int32.toNatClampNeg ((f1_1_17 - 5) + 0)))]) (ws' := [((am 5), .inr (8, [.ref a_all_m5, .int size_m5])), (a_all_m5, .inl (cI, n_a_all_m5, .inl b_a_all_m5)), ((am 2), .inl (cI, n_m2, .inl b_m2)), (h0, .inr (9, moF am known_h0 thrown_h0 wrong_h0 lastEnd_h0 f0_17_17 f0_18_17 f0_19_17 least_h0 found_h0)), ((am 20), .inr (8, [.ref q1_0_17, .int f1_1_17])), (q1_0_17, .inl (cI, n4_17, .inl b4_17))]) (cl' := cl_486) (sl' := sl_486) rfl rfl rfl rfl rfl rfl ?_
        refine j_istore (lv' := [(6, .int (b4_17 (Int32.toNatClampNeg ((f1_1_17 - 5) + 0)))), (5, .int (b_a_all_m5 (Int32.toNatClampNeg f0_17_17))), (4, .int v4_17), (3, .int v3_17), (2, .int v2_17), (1, .int v1_17), (0, .ref h0)]) d_Mo_readExpression_503 (by decide) rfl ?_
        refine j_aload_n d_Mo_readExpression_505 rfl 6 rfl ?_
        refine j_iload d_Mo_readExpression_506 0 rfl ?_
        refine j_iload d_Mo_readExpression_508 1 rfl ?_
        replace h := bd_s h
        obtain ⟨⟨r3, r4, r5, r6⟩, k7, h⟩ := h
        refine j_callV (n := 2) (As := [.int (b4_17 (Int32.toNatClampNeg ((f1_1_17 - 5) + 0))), .int (b_a_all_m5 (Int32.toNatClampNeg f0_17_17))]) (rest := []) (wr := [((am 2), .inl (cI, n_m2, .inl b_m2))]) (c_Mo_inBracket l D cI cB cJ cS h0 am a_all_m5 q1_0_17 (b4_17 (Int32.toNatClampNeg ((f1_1_17 - 5) + 0))) (b_a_all_m5 (Int32.toNatClampNeg f0_17_17)) known_h0 thrown_h0 wrong_h0 lastEnd_h0 f0_17_17 f0_18_17 f0_19_17 least_h0 found_h0 size_m5 n_a_all_m5 b_a_all_m5 f1_1_17 n4_17 b4_17  r3 r4 r5 r6 k7) k_Mo_322 (by decide) ⟨Nat.le_of_ble_eq_true rfl, Nat.le_of_ble_eq_true rfl⟩ rfl 0 rfl [3, 0, 1, 4, 5] [2] rfl (by decide) rfl (by decide) (by decide) rfl rfl (Nat.le_of_ble_eq_true rfl) d_Mo_readExpression_510 ⟨show cl_486 + 0 ≤ mc by omega, show sl_486 + 0 ≤ ms by omega⟩ (fun v w hq => ?_)
        obtain ⟨rfl, rfl⟩ := hq
        refine j_norm (pc' := 513) (st' := [.int r3]) (ws' := [((am 2), .inl (cI, n_m2, .inl b_m2)), (h0, .inr (9, moF am known_h0 thrown_h0 wrong_h0 lastEnd_h0 r4 r5 f0_19_17 least_h0 found_h0)), ((am 5), .inr (8, [.ref a_all_m5, .int size_m5])), (a_all_m5, .inl (cI, n_a_all_m5, .inl b_a_all_m5)), ((am 20), .inr (8, [.ref q1_0_17, .int f1_1_17])), (q1_0_17, .inl (cI, n4_17, .inl r6))]) (cl' := cl_486) (sl' := sl_486) rfl rfl rfl rfl rfl rfl ?_
        refine j_istore (lv' := [(7, .int r3), (6, .int (b4_17 (Int32.toNatClampNeg ((f1_1_17 - 5) + 0)))), (5, .int (b_a_all_m5 (Int32.toNatClampNeg f0_17_17))), (4, .int v4_17), (3, .int v3_17), (2, .int v2_17), (1, .int v1_17), (0, .ref h0)]) d_Mo_readExpression_513 (by decide) rfl ?_
        refine j_iload d_Mo_readExpression_515 0 rfl ?_
        refine j_if_ge (tgt := 522) d_Mo_readExpression_517 (by decide) (fun c8 => ?_) (fun c8 => ?_)
        · replace h := it_t c8 h
          refine j_iload d_Mo_readExpression_522 0 rfl ?_
          refine j_if_ne (tgt := 564) d_Mo_readExpression_524 (by decide) (fun c9 => ?_) (fun c9 => ?_)
          · replace h := it_f c9 h
            refine j_iconst (v := 0) d_Mo_readExpression_564 (by decide) ?_
            refine j_istore_n (lv' := [(1, .int 0), (7, .int r3), (6, .int (b4_17 (Int32.toNatClampNeg ((f1_1_17 - 5) + 0)))), (5, .int (b_a_all_m5 (Int32.toNatClampNeg f0_17_17))), (4, .int v4_17), (3, .int v3_17), (2, .int v2_17), (0, .ref h0)]) d_Mo_readExpression_565 rfl (by decide) rfl ?_
            refine j_iconst (v := 0) d_Mo_readExpression_566 (by decide) ?_
            refine j_istore_n (lv' := [(2, .int 0), (1, .int 0), (7, .int r3), (6, .int (b4_17 (Int32.toNatClampNeg ((f1_1_17 - 5) + 0)))), (5, .int (b_a_all_m5 (Int32.toNatClampNeg f0_17_17))), (4, .int v4_17), (3, .int v3_17), (0, .ref h0)]) d_Mo_readExpression_567 rfl (by decide) rfl ?_
            refine j_iload d_Mo_readExpression_568 2 rfl ?_
            refine j_iconst (v := 1) d_Mo_readExpression_570 (by decide) ?_
            refine j_icmp_ne (tgt := 578) d_Mo_readExpression_571 (by decide) (fun c10 => ?_) (fun c10 => ?_)
            · replace h := it_f c10 h
              refine j_iconst (v := 0) d_Mo_readExpression_578 (by decide) ?_
              refine j_istore (lv' := [(4, .int 0), (2, .int 0), (1, .int 0), (7, .int r3), (6, .int (b4_17 (Int32.toNatClampNeg ((f1_1_17 - 5) + 0)))), (5, .int (b_a_all_m5 (Int32.toNatClampNeg f0_17_17))), (3, .int v3_17), (0, .ref h0)]) d_Mo_readExpression_579 (by decide) rfl ?_
              refine j_goto (tgt := 17) d_Mo_readExpression_581 (by decide) ?_
              refine j_sub (w := [(h0, .inr (9, moF am known_h0 thrown_h0 wrong_h0 lastEnd_h0 r4 r5 f0_19_17 least_h0 found_h0)), ((am 20), .inr (8, [.ref q1_0_17, .int f1_1_17])), ((am 5), .inr (8, [.ref a_all_m5, .int size_m5])), (a_all_m5, .inl (cI, n_a_all_m5, .inl b_a_all_m5)), (q1_0_17, .inl (cI, n4_17, .inl r6)), ((am 2), .inl (cI, n_m2, .inl b_m2))]) (lv' := [(4, .int 0), (3, .int v3_17), (2, .int 0), (1, .int 0), (0, .ref h0)]) [1, 4, 2, 3, 5, 0] rfl (by decide) [0, 6, 1, 2, 7] rfl ?_
              exact ih_17 q1_0_17 0 v3_17 0 0 r4 r5 f0_19_17 f1_1_17 n4_17 r6 zb0 cl_486 sl_486 C_486 S_486 h hC hS
            · replace h := it_t c10 h
              refine j_iconst (v := 1) d_Mo_readExpression_574 (by decide) ?_
              refine j_goto (tgt := 579) d_Mo_readExpression_575 (by decide) ?_
              refine j_istore (lv' := [(4, .int 1), (2, .int 0), (1, .int 0), (7, .int r3), (6, .int (b4_17 (Int32.toNatClampNeg ((f1_1_17 - 5) + 0)))), (5, .int (b_a_all_m5 (Int32.toNatClampNeg f0_17_17))), (3, .int v3_17), (0, .ref h0)]) d_Mo_readExpression_579 (by decide) rfl ?_
              refine j_goto (tgt := 17) d_Mo_readExpression_581 (by decide) ?_
              refine j_sub (w := [(h0, .inr (9, moF am known_h0 thrown_h0 wrong_h0 lastEnd_h0 r4 r5 f0_19_17 least_h0 found_h0)), ((am 20), .inr (8, [.ref q1_0_17, .int f1_1_17])), ((am 5), .inr (8, [.ref a_all_m5, .int size_m5])), (a_all_m5, .inl (cI, n_a_all_m5, .inl b_a_all_m5)), (q1_0_17, .inl (cI, n4_17, .inl r6)), ((am 2), .inl (cI, n_m2, .inl b_m2))]) (lv' := [(4, .int 1), (3, .int v3_17), (2, .int 0), (1, .int 0), (0, .ref h0)]) [1, 4, 2, 3, 5, 0] rfl (by decide) [0, 6, 1, 2, 7] rfl ?_
              exact ih_17 q1_0_17 1 v3_17 0 0 r4 r5 f0_19_17 f1_1_17 n4_17 r6 zb1 cl_486 sl_486 C_486 S_486 h hC hS
          · replace h := it_t c9 h
            refine j_aload_n d_Mo_readExpression_527 rfl 7 rfl ?_
            refine j_iconst (v := 3) d_Mo_readExpression_528 (by decide) ?_
            replace h := bd_s h
            obtain ⟨_, k11, h⟩ := h
            refine j_callV (n := 1) (As := [.int 3]) (rest := []) (wr := [((am 2), .inl (cI, n_m2, .inl b_m2)), ((am 5), .inr (8, [.ref a_all_m5, .int size_m5])), (a_all_m5, .inl (cI, n_a_all_m5, .inl b_a_all_m5))]) (c_Mo_top l D cI cB cJ cS h0 am q1_0_17 3 known_h0 thrown_h0 wrong_h0 lastEnd_h0 r4 r5 f0_19_17 least_h0 found_h0 f1_1_17 n4_17 r6  k11) k_Mo_319 (by decide) ⟨Nat.le_of_ble_eq_true rfl, Nat.le_of_ble_eq_true rfl⟩ rfl 0 rfl [1, 4, 5] [0, 2, 3] rfl (by decide) rfl (by decide) (by decide) rfl rfl (Nat.le_of_ble_eq_true rfl) d_Mo_readExpression_529 ⟨show cl_486 + 0 ≤ mc by omega, show sl_486 + 0 ≤ ms by omega⟩ (fun v w hq => ?_)
            obtain ⟨rfl, rfl⟩ := hq
            refine j_norm (pc' := 532) (st' := [.int (r6 (Int32.toNatClampNeg ((f1_1_17 - 5) + 3)))]) (ws' := [((am 2), .inl (cI, n_m2, .inl b_m2)), ((am 5), .inr (8, [.ref a_all_m5, .int size_m5])), (a_all_m5, .inl (cI, n_a_all_m5, .inl b_a_all_m5)), (h0, .inr (9, moF am known_h0 thrown_h0 wrong_h0 lastEnd_h0 r4 r5 f0_19_17 least_h0 found_h0)), ((am 20), .inr (8, [.ref q1_0_17, .int f1_1_17])), (q1_0_17, .inl (cI, n4_17, .inl r6))]) (cl' := cl_486) (sl' := sl_486) rfl rfl rfl rfl rfl rfl ?_
            refine j_istore_n (lv' := [(1, .int (r6 (Int32.toNatClampNeg ((f1_1_17 - 5) + 3)))), (7, .int r3), (6, .int (b4_17 (Int32.toNatClampNeg ((f1_1_17 - 5) + 0)))), (5, .int (b_a_all_m5 (Int32.toNatClampNeg f0_17_17))), (4, .int v4_17), (3, .int v3_17), (2, .int v2_17), (0, .ref h0)]) d_Mo_readExpression_532 rfl (by decide) rfl ?_
            refine j_aload_n d_Mo_readExpression_533 rfl 7 rfl ?_
            refine j_iconst (v := 4) d_Mo_readExpression_534 (by decide) ?_
            replace h := bd_s h
            obtain ⟨_, k12, h⟩ := h
            refine j_callV (n := 1) (As := [.int 4]) (rest := []) (wr := [((am 2), .inl (cI, n_m2, .inl b_m2)), ((am 5), .inr (8, [.ref a_all_m5, .int size_m5])), (a_all_m5, .inl (cI, n_a_all_m5, .inl b_a_all_m5))]) (c_Mo_top l D cI cB cJ cS h0 am q1_0_17 4 known_h0 thrown_h0 wrong_h0 lastEnd_h0 r4 r5 f0_19_17 least_h0 found_h0 f1_1_17 n4_17 r6  k12) k_Mo_319 (by decide) ⟨Nat.le_of_ble_eq_true rfl, Nat.le_of_ble_eq_true rfl⟩ rfl 0 rfl [3, 4, 5] [0, 1, 2] rfl (by decide) rfl (by decide) (by decide) rfl rfl (Nat.le_of_ble_eq_true rfl) d_Mo_readExpression_535 ⟨show cl_486 + 0 ≤ mc by omega, show sl_486 + 0 ≤ ms by omega⟩ (fun v w hq => ?_)
            obtain ⟨rfl, rfl⟩ := hq
            refine j_norm (pc' := 538) (st' := [.int (r6 (Int32.toNatClampNeg ((f1_1_17 - 5) + 4)))]) (ws' := [((am 2), .inl (cI, n_m2, .inl b_m2)), ((am 5), .inr (8, [.ref a_all_m5, .int size_m5])), (a_all_m5, .inl (cI, n_a_all_m5, .inl b_a_all_m5)), (h0, .inr (9, moF am known_h0 thrown_h0 wrong_h0 lastEnd_h0 r4 r5 f0_19_17 least_h0 found_h0)), ((am 20), .inr (8, [.ref q1_0_17, .int f1_1_17])), (q1_0_17, .inl (cI, n4_17, .inl r6))]) (cl' := cl_486) (sl' := sl_486) rfl rfl rfl rfl rfl rfl ?_
            refine j_istore_n (lv' := [(3, .int (r6 (Int32.toNatClampNeg ((f1_1_17 - 5) + 4)))), (1, .int (r6 (Int32.toNatClampNeg ((f1_1_17 - 5) + 3)))), (7, .int r3), (6, .int (b4_17 (Int32.toNatClampNeg ((f1_1_17 - 5) + 0)))), (5, .int (b_a_all_m5 (Int32.toNatClampNeg f0_17_17))), (4, .int v4_17), (2, .int v2_17), (0, .ref h0)]) d_Mo_readExpression_538 rfl (by decide) rfl ?_
            refine j_aload_n d_Mo_readExpression_539 rfl 7 rfl ?_
            refine j_get ig_Mo rfl 3 rfl 20 (by decide) rfl m_1133 rfl d_Mo_readExpression_540 ?_
            refine j_iconst (v := 5) d_Mo_readExpression_543 (by decide) ?_
            refine j_callV (n := 1) (As := [.int 5]) (rest := []) (wr := [((am 2), .inl (cI, n_m2, .inl b_m2)), ((am 5), .inr (8, [.ref a_all_m5, .int size_m5])), (a_all_m5, .inl (cI, n_a_all_m5, .inl b_a_all_m5)), (h0, .inr (9, moF am known_h0 thrown_h0 wrong_h0 lastEnd_h0 r4 r5 f0_19_17 least_h0 found_h0)), (q1_0_17, .inl (cI, n4_17, .inl r6))]) (c_Nm_drop l D cI cB cJ cS (am 20) q1_0_17 5 f1_1_17  ) k_Mo_211 (by decide) ⟨Nat.le_of_ble_eq_true rfl, Nat.le_of_ble_eq_true rfl⟩ rfl 0 rfl [4] [0, 1, 2, 3, 5] rfl (by decide) rfl (by decide) (by decide) rfl rfl (Nat.le_of_ble_eq_true rfl) d_Mo_readExpression_544 ⟨show cl_486 + 0 ≤ mc by omega, show sl_486 + 0 ≤ ms by omega⟩ (fun v w hq => ?_)
            obtain ⟨rfl, rfl⟩ := hq
            refine j_norm (pc' := 547) (st' := []) (ws' := [((am 2), .inl (cI, n_m2, .inl b_m2)), ((am 5), .inr (8, [.ref a_all_m5, .int size_m5])), (a_all_m5, .inl (cI, n_a_all_m5, .inl b_a_all_m5)), (h0, .inr (9, moF am known_h0 thrown_h0 wrong_h0 lastEnd_h0 r4 r5 f0_19_17 least_h0 found_h0)), (q1_0_17, .inl (cI, n4_17, .inl r6)), ((am 20), .inr (8, [.ref q1_0_17, .int (f1_1_17 - 5)]))]) (cl' := cl_486) (sl' := sl_486) rfl rfl rfl rfl rfl rfl ?_
            refine j_aload_n d_Mo_readExpression_547 rfl 7 rfl ?_
            refine j_aload_n d_Mo_readExpression_548 rfl 7 rfl ?_
            refine j_get ig_Mo rfl 3 rfl 19 (by decide) rfl m_1132 rfl d_Mo_readExpression_549 ?_
            refine j_iload_n d_Mo_readExpression_552 rfl 0 rfl ?_
            refine j_isub d_Mo_readExpression_553 ?_
            refine j_iconst (v := 1) d_Mo_readExpression_554 (by decide) ?_
            refine j_isub d_Mo_readExpression_555 ?_
            refine j_put (ws' := [((am 2), .inl (cI, n_m2, .inl b_m2)), ((am 5), .inr (8, [.ref a_all_m5, .int size_m5])), (a_all_m5, .inl (cI, n_a_all_m5, .inl b_a_all_m5)), (h0, .inr (9, moF am known_h0 thrown_h0 wrong_h0 lastEnd_h0 r4 r5 ((f0_19_17 - (r6 (Int32.toNatClampNeg ((f1_1_17 - 5) + 4)))) - 1) least_h0 found_h0)), (q1_0_17, .inl (cI, n4_17, .inl r6)), ((am 20), .inr (8, [.ref q1_0_17, .int (f1_1_17 - 5)]))]) ig_Mo tk_Mo nm_Mo rfl 3 rfl 19 (by decide) rfl m_1132 rfl (tk_Mo 19 (by decide)) rfl rfl (Nat.le_of_ble_eq_true rfl) d_Mo_readExpression_556 rfl ?_
            refine j_iconst (v := 0) d_Mo_readExpression_559 (by decide) ?_
            refine j_istore_n (lv' := [(3, .int 0), (1, .int (r6 (Int32.toNatClampNeg ((f1_1_17 - 5) + 3)))), (7, .int r3), (6, .int (b4_17 (Int32.toNatClampNeg ((f1_1_17 - 5) + 0)))), (5, .int (b_a_all_m5 (Int32.toNatClampNeg f0_17_17))), (4, .int v4_17), (2, .int v2_17), (0, .ref h0)]) d_Mo_readExpression_560 rfl (by decide) rfl ?_
            refine j_goto (tgt := 581) d_Mo_readExpression_561 (by decide) ?_
            refine j_goto (tgt := 17) d_Mo_readExpression_581 (by decide) ?_
            refine j_sub (w := [(h0, .inr (9, moF am known_h0 thrown_h0 wrong_h0 lastEnd_h0 r4 r5 ((f0_19_17 - (r6 (Int32.toNatClampNeg ((f1_1_17 - 5) + 4)))) - 1) least_h0 found_h0)), ((am 20), .inr (8, [.ref q1_0_17, .int (f1_1_17 - 5)])), ((am 5), .inr (8, [.ref a_all_m5, .int size_m5])), (a_all_m5, .inl (cI, n_a_all_m5, .inl b_a_all_m5)), (q1_0_17, .inl (cI, n4_17, .inl r6)), ((am 2), .inl (cI, n_m2, .inl b_m2))]) (lv' := [(4, .int v4_17), (3, .int 0), (2, .int v2_17), (1, .int (r6 (Int32.toNatClampNeg ((f1_1_17 - 5) + 3)))), (0, .ref h0)]) [3, 5, 1, 2, 4, 0] rfl (by decide) [5, 0, 6, 1, 7] rfl ?_
            exact ih_17 q1_0_17 v4_17 0 v2_17 (r6 (Int32.toNatClampNeg ((f1_1_17 - 5) + 3))) r4 r5 ((f0_19_17 - (r6 (Int32.toNatClampNeg ((f1_1_17 - 5) + 4)))) - 1) (f1_1_17 - 5) n4_17 r6 hz_v4_17 cl_486 sl_486 C_486 S_486 h hC hS
        · replace h := it_f c8 h
          refine j_iconst (v := 0) d_Mo_readExpression_520 (by decide) ?_
          replace h := lf_s h
          obtain ⟨h, e1, e2⟩ := h
          replace h := Prod.mk.inj h
          obtain ⟨h9, h⟩ := h
          subst h9
          replace h := Prod.mk.inj h
          obtain ⟨h9, h⟩ := h
          subst h9
          replace h := Prod.mk.inj h
          obtain ⟨h9, h⟩ := h
          subst h9
          replace h := Prod.mk.inj h
          obtain ⟨h9, h⟩ := h
          subst h9
          replace h := Prod.mk.inj h
          obtain ⟨h9, h⟩ := h
          subst h9
          replace h := Prod.mk.inj h
          obtain ⟨h9, h⟩ := h
          subst h9
          subst h
          refine j_widen (cl' := mc) (sl' := ms) (by omega) (by omega) ?_
          exact j_zret (w := [(h0, .inr (9, moF am known_h0 thrown_h0 wrong_h0 lastEnd_h0 r4 r5 f0_19_17 least_h0 found_h0)), ((am 20), .inr (8, [.ref q1_0_17, .int f1_1_17])), ((am 5), .inr (8, [.ref a_all_m5, .int size_m5])), (a_all_m5, .inl (cI, n_a_all_m5, .inl b_a_all_m5)), ((am 2), .inl (cI, n_m2, .inl b_m2)), (q1_0_17, .inl (cI, n4_17, .inl r6))]) hr (zb_n zb0) d_Mo_readExpression_521 [1, 4, 2, 3, 0, 5] rfl (by decide) ⟨q1_0_17, rfl, zb0, rfl⟩
      · replace h := it_t c1 h
        refine j_iconst (v := 1) d_Mo_readExpression_496 (by decide) ?_
        replace h := lf_s h
        obtain ⟨h, e1, e2⟩ := h
        replace h := Prod.mk.inj h
        obtain ⟨h9, h⟩ := h
        subst h9
        replace h := Prod.mk.inj h
        obtain ⟨h9, h⟩ := h
        subst h9
        replace h := Prod.mk.inj h
        obtain ⟨h9, h⟩ := h
        subst h9
        replace h := Prod.mk.inj h
        obtain ⟨h9, h⟩ := h
        subst h9
        replace h := Prod.mk.inj h
        obtain ⟨h9, h⟩ := h
        subst h9
        replace h := Prod.mk.inj h
        obtain ⟨h9, h⟩ := h
        subst h9
        subst h
        refine j_widen (cl' := mc) (sl' := ms) (by omega) (by omega) ?_
        exact j_zret (w := [(h0, .inr (9, moF am known_h0 thrown_h0 wrong_h0 lastEnd_h0 f0_17_17 f0_18_17 f0_19_17 least_h0 found_h0)), ((am 20), .inr (8, [.ref q1_0_17, .int f1_1_17])), ((am 5), .inr (8, [.ref a_all_m5, .int size_m5])), (a_all_m5, .inl (cI, n_a_all_m5, .inl b_a_all_m5)), ((am 2), .inl (cI, n_m2, .inl b_m2)), (q1_0_17, .inl (cI, n4_17, .inl b4_17))]) hr (zb_n zb1) d_Mo_readExpression_497 [4, 0, 2, 3, 5, 1] rfl (by decide) ⟨q1_0_17, rfl, zb1, rfl⟩
    have L_469 : ∀ (v1_469 : Int32) (t0_469 : Int32) (hz_t0_469 : zb t0_469) (cl_469 sl_469 C_469 S_469 : Nat), F_Mo_readExpression_469 v3_17 f0_17_17 f0_18_17 f0_19_17 f1_1_17 n4_17 b4_17 (F_Mo_readExpression_17 known_h0 thrown_h0 wrong_h0 lastEnd_h0 least_h0 found_h0 size_m5 n_a_all_m5 b_a_all_m5 n_m2 b_m2  k_17)  v1_469 t0_469 = some ((ret, o_0_17, o_0_18, o_0_19, o_1_1, on_nq_1_0, ob_nq_1_0), C_469, S_469) → cl_469 + C_469 ≤ mc → sl_469 + S_469 ≤ ms → J (KxOf p l e { frames := 4, cells := mc, slots := ms, locals := 86 } s m [.ref h0].toArray below meth c D (gT cI cB cJ cS) [(h0, .inr (9, moF am known_h0 thrown_h0 wrong_h0 lastEnd_h0 at_h0 bad_h0 levels_h0 least_h0 found_h0)), ((am 20), .inr (8, [.ref a_all_m20, .int size_m20])), ((am 5), .inr (8, [.ref a_all_m5, .int size_m5])), (a_all_m5, .inl (cI, n_a_all_m5, .inl b_a_all_m5)), (a_all_m20, .inl (cI, n_a_all_m20, .inl b_a_all_m20)), ((am 2), .inl (cI, n_m2, .inl b_m2))] (fun v w => ∃ nq_1_0 : Nat, v = some (.int ret) ∧ zb ret ∧ w = [(h0, .inr (9, moF am known_h0 thrown_h0 wrong_h0 lastEnd_h0 o_0_17 o_0_18 o_0_19 least_h0 found_h0)), ((am 20), .inr (8, [.ref nq_1_0, .int o_1_1])), ((am 5), .inr (8, [.ref a_all_m5, .int size_m5])), (a_all_m5, .inl (cI, n_a_all_m5, .inl b_a_all_m5)), ((am 2), .inl (cI, n_m2, .inl b_m2)), (nq_1_0, .inl (cI, on_nq_1_0, .inl ob_nq_1_0))]) mc ms) prog_12_method_30_code 8 R_Mo 469 [(1, .int v1_469), (5, .int (b_a_all_m5 (Int32.toNatClampNeg f0_17_17))), (4, .int v4_17), (3, .int v3_17), (2, .int v2_17), (0, .ref h0)] [.int t0_469] [((am 20), .inr (8, [.ref q1_0_17, .int f1_1_17])), (q1_0_17, .inl (cI, n4_17, .inl b4_17)), ((am 5), .inr (8, [.ref a_all_m5, .int size_m5])), (a_all_m5, .inl (cI, n_a_all_m5, .inl b_a_all_m5)), (h0, .inr (9, moF am known_h0 thrown_h0 wrong_h0 lastEnd_h0 f0_17_17 f0_18_17 f0_19_17 least_h0 found_h0)), ((am 2), .inl (cI, n_m2, .inl b_m2))] cl_469 sl_469 := by
      clear h
      intro v1_469 t0_469 hz_t0_469 cl_469 sl_469 C_469 S_469 h hC hS
      unfold F_Mo_readExpression_469 at h
      refine j_istore_n (lv' := [(2, .int t0_469), (1, .int v1_469), (5, .int (b_a_all_m5 (Int32.toNatClampNeg f0_17_17))), (4, .int v4_17), (3, .int v3_17), (0, .ref h0)]) d_Mo_readExpression_469 rfl (by decide) rfl ?_
      refine j_iconst (v := 1) d_Mo_readExpression_470 (by decide) ?_
      refine j_istore (lv' := [(4, .int 1), (2, .int t0_469), (1, .int v1_469), (5, .int (b_a_all_m5 (Int32.toNatClampNeg f0_17_17))), (3, .int v3_17), (0, .ref h0)]) d_Mo_readExpression_471 (by decide) rfl ?_
      refine j_aload_n d_Mo_readExpression_473 rfl 5 rfl ?_
      refine j_dup rfl d_Mo_readExpression_474 ?_
      refine j_get ig_Mo rfl 4 rfl 17 (by decide) rfl m_1130 rfl d_Mo_readExpression_475 ?_
      refine j_iconst (v := 1) d_Mo_readExpression_478 (by decide) ?_
      refine j_iadd d_Mo_readExpression_479 ?_
      refine j_put (ws' := [((am 20), .inr (8, [.ref q1_0_17, .int f1_1_17])), (q1_0_17, .inl (cI, n4_17, .inl b4_17)), ((am 5), .inr (8, [.ref a_all_m5, .int size_m5])), (a_all_m5, .inl (cI, n_a_all_m5, .inl b_a_all_m5)), (h0, .inr (9, moF am known_h0 thrown_h0 wrong_h0 lastEnd_h0 (f0_17_17 + 1) f0_18_17 f0_19_17 least_h0 found_h0)), ((am 2), .inl (cI, n_m2, .inl b_m2))]) ig_Mo tk_Mo nm_Mo rfl 4 rfl 17 (by decide) rfl m_1130 rfl (tk_Mo 17 (by decide)) rfl rfl (Nat.le_of_ble_eq_true rfl) d_Mo_readExpression_480 rfl ?_
      refine j_goto (tgt := 581) d_Mo_readExpression_483 (by decide) ?_
      refine j_goto (tgt := 17) d_Mo_readExpression_581 (by decide) ?_
      refine j_sub (w := [(h0, .inr (9, moF am known_h0 thrown_h0 wrong_h0 lastEnd_h0 (f0_17_17 + 1) f0_18_17 f0_19_17 least_h0 found_h0)), ((am 20), .inr (8, [.ref q1_0_17, .int f1_1_17])), ((am 5), .inr (8, [.ref a_all_m5, .int size_m5])), (a_all_m5, .inl (cI, n_a_all_m5, .inl b_a_all_m5)), (q1_0_17, .inl (cI, n4_17, .inl b4_17)), ((am 2), .inl (cI, n_m2, .inl b_m2))]) (lv' := [(4, .int 1), (3, .int v3_17), (2, .int t0_469), (1, .int v1_469), (0, .ref h0)]) [4, 0, 2, 3, 1, 5] rfl (by decide) [0, 4, 1, 2, 5] rfl ?_
      exact ih_17 q1_0_17 1 v3_17 t0_469 v1_469 (f0_17_17 + 1) f0_18_17 f0_19_17 f1_1_17 n4_17 b4_17 zb1 cl_469 sl_469 C_469 S_469 h hC hS
    have L_442 : ∀ (t0_442 : Int32) (cl_442 sl_442 C_442 S_442 : Nat), F_Mo_readExpression_442 known_h0 thrown_h0 wrong_h0 lastEnd_h0 least_h0 found_h0 b_a_all_m5 n_m2 b_m2 v3_17 f0_17_17 f0_18_17 f0_19_17 f1_1_17 n4_17 b4_17 (F_Mo_readExpression_17 known_h0 thrown_h0 wrong_h0 lastEnd_h0 least_h0 found_h0 size_m5 n_a_all_m5 b_a_all_m5 n_m2 b_m2  k_17)  t0_442 = some ((ret, o_0_17, o_0_18, o_0_19, o_1_1, on_nq_1_0, ob_nq_1_0), C_442, S_442) → cl_442 + C_442 ≤ mc → sl_442 + S_442 ≤ ms → J (KxOf p l e { frames := 4, cells := mc, slots := ms, locals := 86 } s m [.ref h0].toArray below meth c D (gT cI cB cJ cS) [(h0, .inr (9, moF am known_h0 thrown_h0 wrong_h0 lastEnd_h0 at_h0 bad_h0 levels_h0 least_h0 found_h0)), ((am 20), .inr (8, [.ref a_all_m20, .int size_m20])), ((am 5), .inr (8, [.ref a_all_m5, .int size_m5])), (a_all_m5, .inl (cI, n_a_all_m5, .inl b_a_all_m5)), (a_all_m20, .inl (cI, n_a_all_m20, .inl b_a_all_m20)), ((am 2), .inl (cI, n_m2, .inl b_m2))] (fun v w => ∃ nq_1_0 : Nat, v = some (.int ret) ∧ zb ret ∧ w = [(h0, .inr (9, moF am known_h0 thrown_h0 wrong_h0 lastEnd_h0 o_0_17 o_0_18 o_0_19 least_h0 found_h0)), ((am 20), .inr (8, [.ref nq_1_0, .int o_1_1])), ((am 5), .inr (8, [.ref a_all_m5, .int size_m5])), (a_all_m5, .inl (cI, n_a_all_m5, .inl b_a_all_m5)), ((am 2), .inl (cI, n_m2, .inl b_m2)), (nq_1_0, .inl (cI, on_nq_1_0, .inl ob_nq_1_0))]) mc ms) prog_12_method_30_code 8 R_Mo 442 [(5, .int (b_a_all_m5 (Int32.toNatClampNeg f0_17_17))), (4, .int v4_17), (3, .int v3_17), (2, .int v2_17), (1, .int v1_17), (0, .ref h0)] [.int t0_442] [((am 20), .inr (8, [.ref q1_0_17, .int f1_1_17])), (q1_0_17, .inl (cI, n4_17, .inl b4_17)), ((am 5), .inr (8, [.ref a_all_m5, .int size_m5])), (a_all_m5, .inl (cI, n_a_all_m5, .inl b_a_all_m5)), (h0, .inr (9, moF am known_h0 thrown_h0 wrong_h0 lastEnd_h0 f0_17_17 f0_18_17 f0_19_17 least_h0 found_h0)), ((am 2), .inl (cI, n_m2, .inl b_m2))] cl_442 sl_442 := by
      clear h
      intro t0_442 cl_442 sl_442 C_442 S_442 h hC hS
      unfold F_Mo_readExpression_442 at h
      refine j_istore_n (lv' := [(1, .int t0_442), (5, .int (b_a_all_m5 (Int32.toNatClampNeg f0_17_17))), (4, .int v4_17), (3, .int v3_17), (2, .int v2_17), (0, .ref h0)]) d_Mo_readExpression_442 rfl (by decide) rfl ?_
      refine j_iload_n d_Mo_readExpression_443 rfl 0 rfl ?_
      refine j_iconst (v := 2) d_Mo_readExpression_444 (by decide) ?_
      refine j_icmp_le (tgt := 453) d_Mo_readExpression_445 (by decide) (fun c14 => ?_) (fun c14 => ?_)
      · replace h := it_t c14 h
        refine j_aload_n d_Mo_readExpression_453 rfl 5 rfl ?_
        refine j_iload d_Mo_readExpression_454 1 rfl ?_
        replace h := bd_s h
        obtain ⟨r15, k16, h⟩ := h
        refine j_callV (n := 1) (As := [.int (b_a_all_m5 (Int32.toNatClampNeg f0_17_17))]) (rest := []) (wr := [((am 20), .inr (8, [.ref q1_0_17, .int f1_1_17])), (q1_0_17, .inl (cI, n4_17, .inl b4_17)), ((am 5), .inr (8, [.ref a_all_m5, .int size_m5])), (a_all_m5, .inl (cI, n_a_all_m5, .inl b_a_all_m5))]) (c_Mo_rankOf l D cI cB cJ cS h0 am (b_a_all_m5 (Int32.toNatClampNeg f0_17_17)) known_h0 thrown_h0 wrong_h0 lastEnd_h0 f0_17_17 f0_18_17 f0_19_17 least_h0 found_h0 n_m2 b_m2  r15 k16) k_Mo_313 (by decide) ⟨Nat.le_of_ble_eq_true rfl, Nat.le_of_ble_eq_true rfl⟩ rfl 0 rfl [4, 5] [0, 1, 2, 3] rfl (by decide) rfl (by decide) (by decide) rfl rfl (Nat.le_of_ble_eq_true rfl) d_Mo_readExpression_456 ⟨show cl_442 + 0 ≤ mc by omega, show sl_442 + 0 ≤ ms by omega⟩ (fun v w hq => ?_)
        obtain ⟨rfl, rfl⟩ := hq
        refine j_norm (pc' := 459) (st' := [.int r15]) (ws' := [((am 20), .inr (8, [.ref q1_0_17, .int f1_1_17])), (q1_0_17, .inl (cI, n4_17, .inl b4_17)), ((am 5), .inr (8, [.ref a_all_m5, .int size_m5])), (a_all_m5, .inl (cI, n_a_all_m5, .inl b_a_all_m5)), (h0, .inr (9, moF am known_h0 thrown_h0 wrong_h0 lastEnd_h0 f0_17_17 f0_18_17 f0_19_17 least_h0 found_h0)), ((am 2), .inl (cI, n_m2, .inl b_m2))]) (cl' := cl_442) (sl' := sl_442) rfl rfl rfl rfl rfl rfl ?_
        refine j_bipush (v := 8) d_Mo_readExpression_459 (by decide) ?_
        refine j_icmp_ne (tgt := 468) d_Mo_readExpression_461 (by decide) (fun c17 => ?_) (fun c17 => ?_)
        · replace h := it_f c17 h
          refine j_iconst (v := 0) d_Mo_readExpression_468 (by decide) ?_
          refine j_sub (w := [((am 20), .inr (8, [.ref q1_0_17, .int f1_1_17])), (q1_0_17, .inl (cI, n4_17, .inl b4_17)), ((am 5), .inr (8, [.ref a_all_m5, .int size_m5])), (a_all_m5, .inl (cI, n_a_all_m5, .inl b_a_all_m5)), (h0, .inr (9, moF am known_h0 thrown_h0 wrong_h0 lastEnd_h0 f0_17_17 f0_18_17 f0_19_17 least_h0 found_h0)), ((am 2), .inl (cI, n_m2, .inl b_m2))]) (lv' := [(1, .int t0_442), (5, .int (b_a_all_m5 (Int32.toNatClampNeg f0_17_17))), (4, .int v4_17), (3, .int v3_17), (2, .int v2_17), (0, .ref h0)]) [0, 1, 2, 3, 4, 5] rfl (by decide) [0, 1, 2, 3, 4, 5] rfl ?_
          exact L_469 t0_442 0 zb0 cl_442 sl_442 C_442 S_442 h hC hS
        · replace h := it_t c17 h
          refine j_iconst (v := 1) d_Mo_readExpression_464 (by decide) ?_
          refine j_goto (tgt := 469) d_Mo_readExpression_465 (by decide) ?_
          refine j_sub (w := [((am 20), .inr (8, [.ref q1_0_17, .int f1_1_17])), (q1_0_17, .inl (cI, n4_17, .inl b4_17)), ((am 5), .inr (8, [.ref a_all_m5, .int size_m5])), (a_all_m5, .inl (cI, n_a_all_m5, .inl b_a_all_m5)), (h0, .inr (9, moF am known_h0 thrown_h0 wrong_h0 lastEnd_h0 f0_17_17 f0_18_17 f0_19_17 least_h0 found_h0)), ((am 2), .inl (cI, n_m2, .inl b_m2))]) (lv' := [(1, .int t0_442), (5, .int (b_a_all_m5 (Int32.toNatClampNeg f0_17_17))), (4, .int v4_17), (3, .int v3_17), (2, .int v2_17), (0, .ref h0)]) [0, 1, 2, 3, 4, 5] rfl (by decide) [0, 1, 2, 3, 4, 5] rfl ?_
          exact L_469 t0_442 1 zb1 cl_442 sl_442 C_442 S_442 h hC hS
      · replace h := it_f c14 h
        refine j_aload_n d_Mo_readExpression_448 rfl 5 rfl ?_
        refine j_callV (n := 0) (As := []) (rest := []) (wr := [((am 20), .inr (8, [.ref q1_0_17, .int f1_1_17])), (q1_0_17, .inl (cI, n4_17, .inl b4_17)), ((am 5), .inr (8, [.ref a_all_m5, .int size_m5])), (a_all_m5, .inl (cI, n_a_all_m5, .inl b_a_all_m5)), ((am 2), .inl (cI, n_m2, .inl b_m2))]) (c_Mo_fail l D cI cB cJ cS h0 am known_h0 thrown_h0 wrong_h0 lastEnd_h0 f0_17_17 f0_18_17 f0_19_17 least_h0 found_h0  ) k_Mo_278 (by decide) ⟨Nat.le_of_ble_eq_true rfl, Nat.le_of_ble_eq_true rfl⟩ rfl 0 rfl [4] [0, 1, 2, 3, 5] rfl (by decide) rfl (by decide) (by decide) rfl rfl (Nat.le_of_ble_eq_true rfl) d_Mo_readExpression_449 ⟨show cl_442 + 0 ≤ mc by omega, show sl_442 + 0 ≤ ms by omega⟩ (fun v w hq => ?_)
        obtain ⟨rfl, _, rfl⟩ := hq
        refine j_norm (pc' := 452) (st' := [.int 0]) (ws' := [((am 20), .inr (8, [.ref q1_0_17, .int f1_1_17])), (q1_0_17, .inl (cI, n4_17, .inl b4_17)), ((am 5), .inr (8, [.ref a_all_m5, .int size_m5])), (a_all_m5, .inl (cI, n_a_all_m5, .inl b_a_all_m5)), ((am 2), .inl (cI, n_m2, .inl b_m2)), (h0, .inr (9, moF am known_h0 thrown_h0 wrong_h0 lastEnd_h0 f0_17_17 f0_17_17 f0_19_17 least_h0 found_h0))]) (cl' := cl_442) (sl' := sl_442) rfl rfl rfl rfl rfl rfl ?_
        replace h := lf_s h
        obtain ⟨h, e1, e2⟩ := h
        replace h := Prod.mk.inj h
        obtain ⟨h9, h⟩ := h
        subst h9
        replace h := Prod.mk.inj h
        obtain ⟨h9, h⟩ := h
        subst h9
        replace h := Prod.mk.inj h
        obtain ⟨h9, h⟩ := h
        subst h9
        replace h := Prod.mk.inj h
        obtain ⟨h9, h⟩ := h
        subst h9
        replace h := Prod.mk.inj h
        obtain ⟨h9, h⟩ := h
        subst h9
        replace h := Prod.mk.inj h
        obtain ⟨h9, h⟩ := h
        subst h9
        subst h
        refine j_widen (cl' := mc) (sl' := ms) (by omega) (by omega) ?_
        exact j_zret (w := [(h0, .inr (9, moF am known_h0 thrown_h0 wrong_h0 lastEnd_h0 f0_17_17 f0_17_17 f0_19_17 least_h0 found_h0)), ((am 20), .inr (8, [.ref q1_0_17, .int f1_1_17])), ((am 5), .inr (8, [.ref a_all_m5, .int size_m5])), (a_all_m5, .inl (cI, n_a_all_m5, .inl b_a_all_m5)), ((am 2), .inl (cI, n_m2, .inl b_m2)), (q1_0_17, .inl (cI, n4_17, .inl b4_17))]) hr (zb_n zb0) d_Mo_readExpression_452 [5, 0, 2, 3, 4, 1] rfl (by decide) ⟨q1_0_17, rfl, zb0, rfl⟩
    have L_391 : ∀ (cl_391 sl_391 C_391 S_391 : Nat), F_Mo_readExpression_391 known_h0 thrown_h0 wrong_h0 lastEnd_h0 least_h0 found_h0 size_m5 n_a_all_m5 b_a_all_m5 n_m2 b_m2 v4_17 v3_17 v2_17 v1_17 f0_17_17 f0_18_17 f0_19_17 f1_1_17 n4_17 b4_17 (F_Mo_readExpression_17 known_h0 thrown_h0 wrong_h0 lastEnd_h0 least_h0 found_h0 size_m5 n_a_all_m5 b_a_all_m5 n_m2 b_m2  k_17)   = some ((ret, o_0_17, o_0_18, o_0_19, o_1_1, on_nq_1_0, ob_nq_1_0), C_391, S_391) → cl_391 + C_391 ≤ mc → sl_391 + S_391 ≤ ms → J (KxOf p l e { frames := 4, cells := mc, slots := ms, locals := 86 } s m [.ref h0].toArray below meth c D (gT cI cB cJ cS) [(h0, .inr (9, moF am known_h0 thrown_h0 wrong_h0 lastEnd_h0 at_h0 bad_h0 levels_h0 least_h0 found_h0)), ((am 20), .inr (8, [.ref a_all_m20, .int size_m20])), ((am 5), .inr (8, [.ref a_all_m5, .int size_m5])), (a_all_m5, .inl (cI, n_a_all_m5, .inl b_a_all_m5)), (a_all_m20, .inl (cI, n_a_all_m20, .inl b_a_all_m20)), ((am 2), .inl (cI, n_m2, .inl b_m2))] (fun v w => ∃ nq_1_0 : Nat, v = some (.int ret) ∧ zb ret ∧ w = [(h0, .inr (9, moF am known_h0 thrown_h0 wrong_h0 lastEnd_h0 o_0_17 o_0_18 o_0_19 least_h0 found_h0)), ((am 20), .inr (8, [.ref nq_1_0, .int o_1_1])), ((am 5), .inr (8, [.ref a_all_m5, .int size_m5])), (a_all_m5, .inl (cI, n_a_all_m5, .inl b_a_all_m5)), ((am 2), .inl (cI, n_m2, .inl b_m2)), (nq_1_0, .inl (cI, on_nq_1_0, .inl ob_nq_1_0))]) mc ms) prog_12_method_30_code 8 R_Mo 391 [(5, .int (b_a_all_m5 (Int32.toNatClampNeg f0_17_17))), (4, .int v4_17), (3, .int v3_17), (2, .int v2_17), (1, .int v1_17), (0, .ref h0)] [] [((am 20), .inr (8, [.ref q1_0_17, .int f1_1_17])), (q1_0_17, .inl (cI, n4_17, .inl b4_17)), ((am 2), .inl (cI, n_m2, .inl b_m2)), (h0, .inr (9, moF am known_h0 thrown_h0 wrong_h0 lastEnd_h0 f0_17_17 f0_18_17 f0_19_17 least_h0 found_h0)), ((am 5), .inr (8, [.ref a_all_m5, .int size_m5])), (a_all_m5, .inl (cI, n_a_all_m5, .inl b_a_all_m5))] cl_391 sl_391 := by
      clear h
      intro  cl_391 sl_391 C_391 S_391 h hC hS
      unfold F_Mo_readExpression_391 at h
      refine j_aload_n d_Mo_readExpression_391 rfl 5 rfl ?_
      refine j_iload d_Mo_readExpression_392 0 rfl ?_
      replace h := bd_s h
      obtain ⟨r19, k20, h⟩ := h
      refine j_callV (n := 1) (As := [.int (b_a_all_m5 (Int32.toNatClampNeg f0_17_17))]) (rest := []) (wr := [((am 20), .inr (8, [.ref q1_0_17, .int f1_1_17])), (q1_0_17, .inl (cI, n4_17, .inl b4_17)), ((am 5), .inr (8, [.ref a_all_m5, .int size_m5])), (a_all_m5, .inl (cI, n_a_all_m5, .inl b_a_all_m5))]) (c_Mo_rankOf l D cI cB cJ cS h0 am (b_a_all_m5 (Int32.toNatClampNeg f0_17_17)) known_h0 thrown_h0 wrong_h0 lastEnd_h0 f0_17_17 f0_18_17 f0_19_17 least_h0 found_h0 n_m2 b_m2  r19 k20) k_Mo_313 (by decide) ⟨Nat.le_of_ble_eq_true rfl, Nat.le_of_ble_eq_true rfl⟩ rfl 0 rfl [3, 2] [0, 1, 4, 5] rfl (by decide) rfl (by decide) (by decide) rfl rfl (Nat.le_of_ble_eq_true rfl) d_Mo_readExpression_394 ⟨show cl_391 + 0 ≤ mc by omega, show sl_391 + 0 ≤ ms by omega⟩ (fun v w hq => ?_)
      obtain ⟨rfl, rfl⟩ := hq
      refine j_norm (pc' := 397) (st' := [.int r19]) (ws' := [((am 20), .inr (8, [.ref q1_0_17, .int f1_1_17])), (q1_0_17, .inl (cI, n4_17, .inl b4_17)), ((am 5), .inr (8, [.ref a_all_m5, .int size_m5])), (a_all_m5, .inl (cI, n_a_all_m5, .inl b_a_all_m5)), (h0, .inr (9, moF am known_h0 thrown_h0 wrong_h0 lastEnd_h0 f0_17_17 f0_18_17 f0_19_17 least_h0 found_h0)), ((am 2), .inl (cI, n_m2, .inl b_m2))]) (cl' := cl_391) (sl' := sl_391) rfl rfl rfl rfl rfl rfl ?_
      refine j_if_le (tgt := 486) d_Mo_readExpression_397 (by decide) (fun c21 => ?_) (fun c21 => ?_)
      · replace h := it_t c21 h
        refine j_sub (w := [((am 20), .inr (8, [.ref q1_0_17, .int f1_1_17])), (q1_0_17, .inl (cI, n4_17, .inl b4_17)), ((am 5), .inr (8, [.ref a_all_m5, .int size_m5])), (a_all_m5, .inl (cI, n_a_all_m5, .inl b_a_all_m5)), (h0, .inr (9, moF am known_h0 thrown_h0 wrong_h0 lastEnd_h0 f0_17_17 f0_18_17 f0_19_17 least_h0 found_h0)), ((am 2), .inl (cI, n_m2, .inl b_m2))]) (lv' := [(5, .int (b_a_all_m5 (Int32.toNatClampNeg f0_17_17))), (4, .int v4_17), (3, .int v3_17), (2, .int v2_17), (1, .int v1_17), (0, .ref h0)]) [0, 1, 2, 3, 4, 5] rfl (by decide) [0, 1, 2, 3, 4, 5] rfl ?_
        exact L_486  cl_391 sl_391 C_391 S_391 h hC hS
      · replace h := it_f c21 h
        refine j_aload_n d_Mo_readExpression_400 rfl 5 rfl ?_
        replace h := bd_s h
        obtain ⟨r22, k24, h⟩ := h
        refine j_callV (n := 0) (As := []) (rest := []) (wr := [((am 20), .inr (8, [.ref q1_0_17, .int f1_1_17])), (q1_0_17, .inl (cI, n4_17, .inl b4_17)), ((am 2), .inl (cI, n_m2, .inl b_m2))]) (c_Mo_isColonBefore l D cI cB cJ cS h0 am a_all_m5 known_h0 thrown_h0 wrong_h0 lastEnd_h0 f0_17_17 f0_18_17 f0_19_17 least_h0 found_h0 size_m5 n_a_all_m5 b_a_all_m5  r22 k24) k_Mo_310 (by decide) ⟨Nat.le_of_ble_eq_true rfl, Nat.le_of_ble_eq_true rfl⟩ rfl 0 rfl [4, 2, 3] [0, 1, 5] rfl (by decide) rfl (by decide) (by decide) rfl rfl (Nat.le_of_ble_eq_true rfl) d_Mo_readExpression_401 ⟨show cl_391 + 0 ≤ mc by omega, show sl_391 + 0 ≤ ms by omega⟩ (fun v w hq => ?_)
        obtain ⟨rfl, z23, rfl⟩ := hq
        refine j_norm (pc' := 404) (st' := [.int r22]) (ws' := [((am 20), .inr (8, [.ref q1_0_17, .int f1_1_17])), (q1_0_17, .inl (cI, n4_17, .inl b4_17)), ((am 2), .inl (cI, n_m2, .inl b_m2)), (h0, .inr (9, moF am known_h0 thrown_h0 wrong_h0 lastEnd_h0 f0_17_17 f0_18_17 f0_19_17 least_h0 found_h0)), ((am 5), .inr (8, [.ref a_all_m5, .int size_m5])), (a_all_m5, .inl (cI, n_a_all_m5, .inl b_a_all_m5))]) (cl' := cl_391) (sl' := sl_391) rfl rfl rfl rfl rfl rfl ?_
        refine j_if_ne (tgt := 486) d_Mo_readExpression_404 (by decide) (fun c25 => ?_) (fun c25 => ?_)
        · replace h := it_f c25 h
          refine j_sub (w := [((am 20), .inr (8, [.ref q1_0_17, .int f1_1_17])), (q1_0_17, .inl (cI, n4_17, .inl b4_17)), ((am 5), .inr (8, [.ref a_all_m5, .int size_m5])), (a_all_m5, .inl (cI, n_a_all_m5, .inl b_a_all_m5)), (h0, .inr (9, moF am known_h0 thrown_h0 wrong_h0 lastEnd_h0 f0_17_17 f0_18_17 f0_19_17 least_h0 found_h0)), ((am 2), .inl (cI, n_m2, .inl b_m2))]) (lv' := [(5, .int (b_a_all_m5 (Int32.toNatClampNeg f0_17_17))), (4, .int v4_17), (3, .int v3_17), (2, .int v2_17), (1, .int v1_17), (0, .ref h0)]) [0, 1, 4, 5, 3, 2] rfl (by decide) [0, 1, 2, 3, 4, 5] rfl ?_
          exact L_486  cl_391 sl_391 C_391 S_391 h hC hS
        · replace h := it_t c25 h
          refine j_aload_n d_Mo_readExpression_407 rfl 5 rfl ?_
          replace h := bd_s h
          obtain ⟨r26, k28, h⟩ := h
          refine j_callV (n := 0) (As := []) (rest := []) (wr := [((am 20), .inr (8, [.ref q1_0_17, .int f1_1_17])), (q1_0_17, .inl (cI, n4_17, .inl b4_17)), ((am 2), .inl (cI, n_m2, .inl b_m2))]) (c_Mo_isEmptyOpen l D cI cB cJ cS h0 am a_all_m5 known_h0 thrown_h0 wrong_h0 lastEnd_h0 f0_17_17 f0_18_17 f0_19_17 least_h0 found_h0 size_m5 n_a_all_m5 b_a_all_m5  r26 k28) k_Mo_316 (by decide) ⟨Nat.le_of_ble_eq_true rfl, Nat.le_of_ble_eq_true rfl⟩ rfl 0 rfl [3, 4, 5] [0, 1, 2] rfl (by decide) rfl (by decide) (by decide) rfl rfl (Nat.le_of_ble_eq_true rfl) d_Mo_readExpression_408 ⟨show cl_391 + 0 ≤ mc by omega, show sl_391 + 0 ≤ ms by omega⟩ (fun v w hq => ?_)
          obtain ⟨rfl, z27, rfl⟩ := hq
          refine j_norm (pc' := 411) (st' := [.int r26]) (ws' := [((am 20), .inr (8, [.ref q1_0_17, .int f1_1_17])), (q1_0_17, .inl (cI, n4_17, .inl b4_17)), ((am 2), .inl (cI, n_m2, .inl b_m2)), (h0, .inr (9, moF am known_h0 thrown_h0 wrong_h0 lastEnd_h0 f0_17_17 f0_18_17 f0_19_17 least_h0 found_h0)), ((am 5), .inr (8, [.ref a_all_m5, .int size_m5])), (a_all_m5, .inl (cI, n_a_all_m5, .inl b_a_all_m5))]) (cl' := cl_391) (sl' := sl_391) rfl rfl rfl rfl rfl rfl ?_
          refine j_if_ne (tgt := 486) d_Mo_readExpression_411 (by decide) (fun c29 => ?_) (fun c29 => ?_)
          · replace h := it_f c29 h
            refine j_sub (w := [((am 20), .inr (8, [.ref q1_0_17, .int f1_1_17])), (q1_0_17, .inl (cI, n4_17, .inl b4_17)), ((am 5), .inr (8, [.ref a_all_m5, .int size_m5])), (a_all_m5, .inl (cI, n_a_all_m5, .inl b_a_all_m5)), (h0, .inr (9, moF am known_h0 thrown_h0 wrong_h0 lastEnd_h0 f0_17_17 f0_18_17 f0_19_17 least_h0 found_h0)), ((am 2), .inl (cI, n_m2, .inl b_m2))]) (lv' := [(5, .int (b_a_all_m5 (Int32.toNatClampNeg f0_17_17))), (4, .int v4_17), (3, .int v3_17), (2, .int v2_17), (1, .int v1_17), (0, .ref h0)]) [0, 1, 4, 5, 3, 2] rfl (by decide) [0, 1, 2, 3, 4, 5] rfl ?_
            exact L_486  cl_391 sl_391 C_391 S_391 h hC hS
          · replace h := it_t c29 h
            refine j_aload_n d_Mo_readExpression_414 rfl 5 rfl ?_
            refine j_iload d_Mo_readExpression_415 0 rfl ?_
            replace h := bd_s h
            obtain ⟨r30, k31, h⟩ := h
            refine j_callV (n := 1) (As := [.int (b_a_all_m5 (Int32.toNatClampNeg f0_17_17))]) (rest := []) (wr := [((am 20), .inr (8, [.ref q1_0_17, .int f1_1_17])), (q1_0_17, .inl (cI, n4_17, .inl b4_17)), ((am 5), .inr (8, [.ref a_all_m5, .int size_m5])), (a_all_m5, .inl (cI, n_a_all_m5, .inl b_a_all_m5))]) (c_Mo_rankOf l D cI cB cJ cS h0 am (b_a_all_m5 (Int32.toNatClampNeg f0_17_17)) known_h0 thrown_h0 wrong_h0 lastEnd_h0 f0_17_17 f0_18_17 f0_19_17 least_h0 found_h0 n_m2 b_m2  r30 k31) k_Mo_313 (by decide) ⟨Nat.le_of_ble_eq_true rfl, Nat.le_of_ble_eq_true rfl⟩ rfl 0 rfl [3, 2] [0, 1, 4, 5] rfl (by decide) rfl (by decide) (by decide) rfl rfl (Nat.le_of_ble_eq_true rfl) d_Mo_readExpression_417 ⟨show cl_391 + 0 ≤ mc by omega, show sl_391 + 0 ≤ ms by omega⟩ (fun v w hq => ?_)
            obtain ⟨rfl, rfl⟩ := hq
            refine j_norm (pc' := 420) (st' := [.int r30]) (ws' := [((am 20), .inr (8, [.ref q1_0_17, .int f1_1_17])), (q1_0_17, .inl (cI, n4_17, .inl b4_17)), ((am 5), .inr (8, [.ref a_all_m5, .int size_m5])), (a_all_m5, .inl (cI, n_a_all_m5, .inl b_a_all_m5)), (h0, .inr (9, moF am known_h0 thrown_h0 wrong_h0 lastEnd_h0 f0_17_17 f0_18_17 f0_19_17 least_h0 found_h0)), ((am 2), .inl (cI, n_m2, .inl b_m2))]) (cl' := cl_391) (sl' := sl_391) rfl rfl rfl rfl rfl rfl ?_
            refine j_iconst (v := 4) d_Mo_readExpression_420 (by decide) ?_
            refine j_icmp_ge (tgt := 428) d_Mo_readExpression_421 (by decide) (fun c32 => ?_) (fun c32 => ?_)
            · replace h := it_t c32 h
              refine j_iload d_Mo_readExpression_428 0 rfl ?_
              refine j_bipush (v := 38) d_Mo_readExpression_430 (by decide) ?_
              refine j_icmp_ne (tgt := 441) d_Mo_readExpression_432 (by decide) (fun c33 => ?_) (fun c33 => ?_)
              · replace h := it_f c33 h
                refine j_iload_n d_Mo_readExpression_441 rfl 4 rfl ?_
                refine j_sub (w := [((am 20), .inr (8, [.ref q1_0_17, .int f1_1_17])), (q1_0_17, .inl (cI, n4_17, .inl b4_17)), ((am 5), .inr (8, [.ref a_all_m5, .int size_m5])), (a_all_m5, .inl (cI, n_a_all_m5, .inl b_a_all_m5)), (h0, .inr (9, moF am known_h0 thrown_h0 wrong_h0 lastEnd_h0 f0_17_17 f0_18_17 f0_19_17 least_h0 found_h0)), ((am 2), .inl (cI, n_m2, .inl b_m2))]) (lv' := [(5, .int (b_a_all_m5 (Int32.toNatClampNeg f0_17_17))), (4, .int v4_17), (3, .int v3_17), (2, .int v2_17), (1, .int v1_17), (0, .ref h0)]) [0, 1, 2, 3, 4, 5] rfl (by decide) [0, 1, 2, 3, 4, 5] rfl ?_
                exact L_442 v1_17 cl_391 sl_391 C_391 S_391 h hC hS
              · replace h := it_t c33 h
                refine j_iload_n d_Mo_readExpression_435 rfl 4 rfl ?_
                refine j_iconst (v := 1) d_Mo_readExpression_436 (by decide) ?_
                refine j_iadd d_Mo_readExpression_437 ?_
                refine j_goto (tgt := 442) d_Mo_readExpression_438 (by decide) ?_
                refine j_sub (w := [((am 20), .inr (8, [.ref q1_0_17, .int f1_1_17])), (q1_0_17, .inl (cI, n4_17, .inl b4_17)), ((am 5), .inr (8, [.ref a_all_m5, .int size_m5])), (a_all_m5, .inl (cI, n_a_all_m5, .inl b_a_all_m5)), (h0, .inr (9, moF am known_h0 thrown_h0 wrong_h0 lastEnd_h0 f0_17_17 f0_18_17 f0_19_17 least_h0 found_h0)), ((am 2), .inl (cI, n_m2, .inl b_m2))]) (lv' := [(5, .int (b_a_all_m5 (Int32.toNatClampNeg f0_17_17))), (4, .int v4_17), (3, .int v3_17), (2, .int v2_17), (1, .int v1_17), (0, .ref h0)]) [0, 1, 2, 3, 4, 5] rfl (by decide) [0, 1, 2, 3, 4, 5] rfl ?_
                exact L_442 (v1_17 + 1) cl_391 sl_391 C_391 S_391 h hC hS
            · replace h := it_f c32 h
              refine j_iconst (v := 0) d_Mo_readExpression_424 (by decide) ?_
              refine j_goto (tgt := 442) d_Mo_readExpression_425 (by decide) ?_
              refine j_sub (w := [((am 20), .inr (8, [.ref q1_0_17, .int f1_1_17])), (q1_0_17, .inl (cI, n4_17, .inl b4_17)), ((am 5), .inr (8, [.ref a_all_m5, .int size_m5])), (a_all_m5, .inl (cI, n_a_all_m5, .inl b_a_all_m5)), (h0, .inr (9, moF am known_h0 thrown_h0 wrong_h0 lastEnd_h0 f0_17_17 f0_18_17 f0_19_17 least_h0 found_h0)), ((am 2), .inl (cI, n_m2, .inl b_m2))]) (lv' := [(5, .int (b_a_all_m5 (Int32.toNatClampNeg f0_17_17))), (4, .int v4_17), (3, .int v3_17), (2, .int v2_17), (1, .int v1_17), (0, .ref h0)]) [0, 1, 2, 3, 4, 5] rfl (by decide) [0, 1, 2, 3, 4, 5] rfl ?_
              exact L_442 0 cl_391 sl_391 C_391 S_391 h hC hS
    have L_329 : ∀ (b1_329 : Nat → Int32) (f3_18_329 : Int32) (cl_329 sl_329 C_329 S_329 : Nat), F_Mo_readExpression_329 v3_17 v1_17 f0_17_17 f0_19_17 f1_1_17 n4_17 (F_Mo_readExpression_17 known_h0 thrown_h0 wrong_h0 lastEnd_h0 least_h0 found_h0 size_m5 n_a_all_m5 b_a_all_m5 n_m2 b_m2  k_17)  b1_329 f3_18_329 = some ((ret, o_0_17, o_0_18, o_0_19, o_1_1, on_nq_1_0, ob_nq_1_0), C_329, S_329) → cl_329 + C_329 ≤ mc → sl_329 + S_329 ≤ ms → J (KxOf p l e { frames := 4, cells := mc, slots := ms, locals := 86 } s m [.ref h0].toArray below meth c D (gT cI cB cJ cS) [(h0, .inr (9, moF am known_h0 thrown_h0 wrong_h0 lastEnd_h0 at_h0 bad_h0 levels_h0 least_h0 found_h0)), ((am 20), .inr (8, [.ref a_all_m20, .int size_m20])), ((am 5), .inr (8, [.ref a_all_m5, .int size_m5])), (a_all_m5, .inl (cI, n_a_all_m5, .inl b_a_all_m5)), (a_all_m20, .inl (cI, n_a_all_m20, .inl b_a_all_m20)), ((am 2), .inl (cI, n_m2, .inl b_m2))] (fun v w => ∃ nq_1_0 : Nat, v = some (.int ret) ∧ zb ret ∧ w = [(h0, .inr (9, moF am known_h0 thrown_h0 wrong_h0 lastEnd_h0 o_0_17 o_0_18 o_0_19 least_h0 found_h0)), ((am 20), .inr (8, [.ref nq_1_0, .int o_1_1])), ((am 5), .inr (8, [.ref a_all_m5, .int size_m5])), (a_all_m5, .inl (cI, n_a_all_m5, .inl b_a_all_m5)), ((am 2), .inl (cI, n_m2, .inl b_m2)), (nq_1_0, .inl (cI, on_nq_1_0, .inl ob_nq_1_0))]) mc ms) prog_12_method_30_code 8 R_Mo 329 [(5, .int (b_a_all_m5 (Int32.toNatClampNeg f0_17_17))), (4, .int v4_17), (3, .int v3_17), (2, .int v2_17), (1, .int v1_17), (0, .ref h0)] [] [((am 20), .inr (8, [.ref q1_0_17, .int f1_1_17])), (q1_0_17, .inl (cI, n4_17, .inl b1_329)), ((am 2), .inl (cI, n_m2, .inl b_m2)), (h0, .inr (9, moF am known_h0 thrown_h0 wrong_h0 lastEnd_h0 f0_17_17 f3_18_329 f0_19_17 least_h0 found_h0)), ((am 5), .inr (8, [.ref a_all_m5, .int size_m5])), (a_all_m5, .inl (cI, n_a_all_m5, .inl b_a_all_m5))] cl_329 sl_329 := by
      clear h
      intro b1_329 f3_18_329 cl_329 sl_329 C_329 S_329 h hC hS
      unfold F_Mo_readExpression_329 at h
      refine j_aload_n d_Mo_readExpression_329 rfl 5 rfl ?_
      refine j_dup rfl d_Mo_readExpression_330 ?_
      refine j_get ig_Mo rfl 3 rfl 17 (by decide) rfl m_1130 rfl d_Mo_readExpression_331 ?_
      refine j_iconst (v := 1) d_Mo_readExpression_334 (by decide) ?_
      refine j_iadd d_Mo_readExpression_335 ?_
      refine j_put (ws' := [((am 20), .inr (8, [.ref q1_0_17, .int f1_1_17])), (q1_0_17, .inl (cI, n4_17, .inl b1_329)), ((am 2), .inl (cI, n_m2, .inl b_m2)), (h0, .inr (9, moF am known_h0 thrown_h0 wrong_h0 lastEnd_h0 (f0_17_17 + 1) f3_18_329 f0_19_17 least_h0 found_h0)), ((am 5), .inr (8, [.ref a_all_m5, .int size_m5])), (a_all_m5, .inl (cI, n_a_all_m5, .inl b_a_all_m5))]) ig_Mo tk_Mo nm_Mo rfl 3 rfl 17 (by decide) rfl m_1130 rfl (tk_Mo 17 (by decide)) rfl rfl (Nat.le_of_ble_eq_true rfl) d_Mo_readExpression_336 rfl ?_
      refine j_aload_n d_Mo_readExpression_339 rfl 5 rfl ?_
      refine j_aload_n d_Mo_readExpression_340 rfl 5 rfl ?_
      refine j_get ig_Mo rfl 3 rfl 19 (by decide) rfl m_1132 rfl d_Mo_readExpression_341 ?_
      refine j_iload_n d_Mo_readExpression_344 rfl 2 rfl ?_
      refine j_isub d_Mo_readExpression_345 ?_
      refine j_put (ws' := [((am 20), .inr (8, [.ref q1_0_17, .int f1_1_17])), (q1_0_17, .inl (cI, n4_17, .inl b1_329)), ((am 2), .inl (cI, n_m2, .inl b_m2)), (h0, .inr (9, moF am known_h0 thrown_h0 wrong_h0 lastEnd_h0 (f0_17_17 + 1) f3_18_329 (f0_19_17 - v3_17) least_h0 found_h0)), ((am 5), .inr (8, [.ref a_all_m5, .int size_m5])), (a_all_m5, .inl (cI, n_a_all_m5, .inl b_a_all_m5))]) ig_Mo tk_Mo nm_Mo rfl 3 rfl 19 (by decide) rfl m_1132 rfl (tk_Mo 19 (by decide)) rfl rfl (Nat.le_of_ble_eq_true rfl) d_Mo_readExpression_346 rfl ?_
      refine j_iconst (v := 0) d_Mo_readExpression_349 (by decide) ?_
      refine j_istore_n (lv' := [(3, .int 0), (5, .int (b_a_all_m5 (Int32.toNatClampNeg f0_17_17))), (4, .int v4_17), (2, .int v2_17), (1, .int v1_17), (0, .ref h0)]) d_Mo_readExpression_350 rfl (by decide) rfl ?_
      refine j_iconst (v := 0) d_Mo_readExpression_351 (by decide) ?_
      refine j_istore_n (lv' := [(2, .int 0), (3, .int 0), (5, .int (b_a_all_m5 (Int32.toNatClampNeg f0_17_17))), (4, .int v4_17), (1, .int v1_17), (0, .ref h0)]) d_Mo_readExpression_352 rfl (by decide) rfl ?_
      refine j_iconst (v := 0) d_Mo_readExpression_353 (by decide) ?_
      refine j_istore (lv' := [(4, .int 0), (2, .int 0), (3, .int 0), (5, .int (b_a_all_m5 (Int32.toNatClampNeg f0_17_17))), (1, .int v1_17), (0, .ref h0)]) d_Mo_readExpression_354 (by decide) rfl ?_
      refine j_goto (tgt := 581) d_Mo_readExpression_356 (by decide) ?_
      refine j_goto (tgt := 17) d_Mo_readExpression_581 (by decide) ?_
      refine j_sub (w := [(h0, .inr (9, moF am known_h0 thrown_h0 wrong_h0 lastEnd_h0 (f0_17_17 + 1) f3_18_329 (f0_19_17 - v3_17) least_h0 found_h0)), ((am 20), .inr (8, [.ref q1_0_17, .int f1_1_17])), ((am 5), .inr (8, [.ref a_all_m5, .int size_m5])), (a_all_m5, .inl (cI, n_a_all_m5, .inl b_a_all_m5)), (q1_0_17, .inl (cI, n4_17, .inl b1_329)), ((am 2), .inl (cI, n_m2, .inl b_m2))]) (lv' := [(4, .int 0), (3, .int 0), (2, .int 0), (1, .int v1_17), (0, .ref h0)]) [3, 0, 4, 5, 1, 2] rfl (by decide) [0, 2, 1, 4, 5] rfl ?_
      exact ih_17 q1_0_17 0 0 0 v1_17 (f0_17_17 + 1) f3_18_329 (f0_19_17 - v3_17) f1_1_17 n4_17 b1_329 zb0 cl_329 sl_329 C_329 S_329 h hC hS
    have L_288 : ∀ (cl_288 sl_288 C_288 S_288 : Nat), F_Mo_readExpression_288 known_h0 thrown_h0 wrong_h0 lastEnd_h0 least_h0 found_h0 b_a_all_m5 v3_17 v1_17 f0_17_17 f0_18_17 f0_19_17 f1_1_17 n4_17 b4_17 (F_Mo_readExpression_17 known_h0 thrown_h0 wrong_h0 lastEnd_h0 least_h0 found_h0 size_m5 n_a_all_m5 b_a_all_m5 n_m2 b_m2  k_17)   = some ((ret, o_0_17, o_0_18, o_0_19, o_1_1, on_nq_1_0, ob_nq_1_0), C_288, S_288) → cl_288 + C_288 ≤ mc → sl_288 + S_288 ≤ ms → J (KxOf p l e { frames := 4, cells := mc, slots := ms, locals := 86 } s m [.ref h0].toArray below meth c D (gT cI cB cJ cS) [(h0, .inr (9, moF am known_h0 thrown_h0 wrong_h0 lastEnd_h0 at_h0 bad_h0 levels_h0 least_h0 found_h0)), ((am 20), .inr (8, [.ref a_all_m20, .int size_m20])), ((am 5), .inr (8, [.ref a_all_m5, .int size_m5])), (a_all_m5, .inl (cI, n_a_all_m5, .inl b_a_all_m5)), (a_all_m20, .inl (cI, n_a_all_m20, .inl b_a_all_m20)), ((am 2), .inl (cI, n_m2, .inl b_m2))] (fun v w => ∃ nq_1_0 : Nat, v = some (.int ret) ∧ zb ret ∧ w = [(h0, .inr (9, moF am known_h0 thrown_h0 wrong_h0 lastEnd_h0 o_0_17 o_0_18 o_0_19 least_h0 found_h0)), ((am 20), .inr (8, [.ref nq_1_0, .int o_1_1])), ((am 5), .inr (8, [.ref a_all_m5, .int size_m5])), (a_all_m5, .inl (cI, n_a_all_m5, .inl b_a_all_m5)), ((am 2), .inl (cI, n_m2, .inl b_m2)), (nq_1_0, .inl (cI, on_nq_1_0, .inl ob_nq_1_0))]) mc ms) prog_12_method_30_code 8 R_Mo 288 [(5, .int (b_a_all_m5 (Int32.toNatClampNeg f0_17_17))), (4, .int v4_17), (3, .int v3_17), (2, .int v2_17), (1, .int v1_17), (0, .ref h0)] [] [((am 20), .inr (8, [.ref q1_0_17, .int f1_1_17])), (q1_0_17, .inl (cI, n4_17, .inl b4_17)), ((am 2), .inl (cI, n_m2, .inl b_m2)), (h0, .inr (9, moF am known_h0 thrown_h0 wrong_h0 lastEnd_h0 f0_17_17 f0_18_17 f0_19_17 least_h0 found_h0)), ((am 5), .inr (8, [.ref a_all_m5, .int size_m5])), (a_all_m5, .inl (cI, n_a_all_m5, .inl b_a_all_m5))] cl_288 sl_288 := by
      clear h
      intro  cl_288 sl_288 C_288 S_288 h hC hS
      unfold F_Mo_readExpression_288 at h
      refine j_iload d_Mo_readExpression_288 0 rfl ?_
      refine j_iconst (v := 2) d_Mo_readExpression_290 (by decide) ?_
      refine j_icmp_eq (tgt := 313) d_Mo_readExpression_291 (by decide) (fun c34 => ?_) (fun c34 => ?_)
      · replace h := it_t c34 h
        refine j_iload d_Mo_readExpression_313 0 rfl ?_
        refine j_bipush (v := 13) d_Mo_readExpression_315 (by decide) ?_
        refine j_icmp_ne (tgt := 329) d_Mo_readExpression_317 (by decide) (fun c35 => ?_) (fun c35 => ?_)
        · replace h := it_f c35 h
          refine j_sub (w := [((am 20), .inr (8, [.ref q1_0_17, .int f1_1_17])), (q1_0_17, .inl (cI, n4_17, .inl b4_17)), ((am 2), .inl (cI, n_m2, .inl b_m2)), (h0, .inr (9, moF am known_h0 thrown_h0 wrong_h0 lastEnd_h0 f0_17_17 f0_18_17 f0_19_17 least_h0 found_h0)), ((am 5), .inr (8, [.ref a_all_m5, .int size_m5])), (a_all_m5, .inl (cI, n_a_all_m5, .inl b_a_all_m5))]) (lv' := [(5, .int (b_a_all_m5 (Int32.toNatClampNeg f0_17_17))), (4, .int v4_17), (3, .int v3_17), (2, .int v2_17), (1, .int v1_17), (0, .ref h0)]) [0, 1, 2, 3, 4, 5] rfl (by decide) [0, 1, 2, 3, 4, 5] rfl ?_
          exact L_329 b4_17 f0_18_17 cl_288 sl_288 C_288 S_288 h hC hS
        · replace h := it_t c35 h
          refine j_aload_n d_Mo_readExpression_320 rfl 5 rfl ?_
          replace h := bd_s h
          obtain ⟨⟨r36, r37, r38⟩, k40, h⟩ := h
          refine j_callV (n := 0) (As := []) (rest := []) (wr := [((am 2), .inl (cI, n_m2, .inl b_m2)), ((am 5), .inr (8, [.ref a_all_m5, .int size_m5])), (a_all_m5, .inl (cI, n_a_all_m5, .inl b_a_all_m5))]) (c_Mo_mark l D cI cB cJ cS h0 am q1_0_17 known_h0 thrown_h0 wrong_h0 lastEnd_h0 f0_17_17 f0_18_17 f0_19_17 least_h0 found_h0 f1_1_17 n4_17 b4_17  r36 r37 r38 k40) k_Mo_291 (by decide) ⟨Nat.le_of_ble_eq_true rfl, Nat.le_of_ble_eq_true rfl⟩ rfl 0 rfl [3, 0, 1] [2, 4, 5] rfl (by decide) rfl (by decide) (by decide) rfl rfl (Nat.le_of_ble_eq_true rfl) d_Mo_readExpression_321 ⟨show cl_288 + 0 ≤ mc by omega, show sl_288 + 0 ≤ ms by omega⟩ (fun v w hq => ?_)
          obtain ⟨rfl, z39, rfl⟩ := hq
          refine j_norm (pc' := 324) (st' := [.int r36]) (ws' := [((am 2), .inl (cI, n_m2, .inl b_m2)), ((am 5), .inr (8, [.ref a_all_m5, .int size_m5])), (a_all_m5, .inl (cI, n_a_all_m5, .inl b_a_all_m5)), (h0, .inr (9, moF am known_h0 thrown_h0 wrong_h0 lastEnd_h0 f0_17_17 r37 f0_19_17 least_h0 found_h0)), ((am 20), .inr (8, [.ref q1_0_17, .int f1_1_17])), (q1_0_17, .inl (cI, n4_17, .inl r38))]) (cl' := cl_288) (sl' := sl_288) rfl rfl rfl rfl rfl rfl ?_
          refine j_if_ne (tgt := 329) d_Mo_readExpression_324 (by decide) (fun c41 => ?_) (fun c41 => ?_)
          · replace h := it_f c41 h
            refine j_sub (w := [((am 20), .inr (8, [.ref q1_0_17, .int f1_1_17])), (q1_0_17, .inl (cI, n4_17, .inl r38)), ((am 2), .inl (cI, n_m2, .inl b_m2)), (h0, .inr (9, moF am known_h0 thrown_h0 wrong_h0 lastEnd_h0 f0_17_17 r37 f0_19_17 least_h0 found_h0)), ((am 5), .inr (8, [.ref a_all_m5, .int size_m5])), (a_all_m5, .inl (cI, n_a_all_m5, .inl b_a_all_m5))]) (lv' := [(5, .int (b_a_all_m5 (Int32.toNatClampNeg f0_17_17))), (4, .int v4_17), (3, .int v3_17), (2, .int v2_17), (1, .int v1_17), (0, .ref h0)]) [4, 5, 0, 3, 1, 2] rfl (by decide) [0, 1, 2, 3, 4, 5] rfl ?_
            exact L_329 r38 r37 cl_288 sl_288 C_288 S_288 h hC hS
          · replace h := it_t c41 h
            refine j_iconst (v := 0) d_Mo_readExpression_327 (by decide) ?_
            replace h := lf_s h
            obtain ⟨h, e1, e2⟩ := h
            replace h := Prod.mk.inj h
            obtain ⟨h9, h⟩ := h
            subst h9
            replace h := Prod.mk.inj h
            obtain ⟨h9, h⟩ := h
            subst h9
            replace h := Prod.mk.inj h
            obtain ⟨h9, h⟩ := h
            subst h9
            replace h := Prod.mk.inj h
            obtain ⟨h9, h⟩ := h
            subst h9
            replace h := Prod.mk.inj h
            obtain ⟨h9, h⟩ := h
            subst h9
            replace h := Prod.mk.inj h
            obtain ⟨h9, h⟩ := h
            subst h9
            subst h
            refine j_widen (cl' := mc) (sl' := ms) (by omega) (by omega) ?_
            exact j_zret (w := [(h0, .inr (9, moF am known_h0 thrown_h0 wrong_h0 lastEnd_h0 f0_17_17 r37 f0_19_17 least_h0 found_h0)), ((am 20), .inr (8, [.ref q1_0_17, .int f1_1_17])), ((am 5), .inr (8, [.ref a_all_m5, .int size_m5])), (a_all_m5, .inl (cI, n_a_all_m5, .inl b_a_all_m5)), ((am 2), .inl (cI, n_m2, .inl b_m2)), (q1_0_17, .inl (cI, n4_17, .inl r38))]) hr (zb_n zb0) d_Mo_readExpression_328 [3, 4, 1, 2, 0, 5] rfl (by decide) ⟨q1_0_17, rfl, zb0, rfl⟩
      · replace h := it_f c34 h
        refine j_iload d_Mo_readExpression_294 0 rfl ?_
        refine j_iconst (v := 3) d_Mo_readExpression_296 (by decide) ?_
        refine j_icmp_eq (tgt := 313) d_Mo_readExpression_297 (by decide) (fun c42 => ?_) (fun c42 => ?_)
        · replace h := it_t c42 h
          refine j_iload d_Mo_readExpression_313 0 rfl ?_
          refine j_bipush (v := 13) d_Mo_readExpression_315 (by decide) ?_
          refine j_icmp_ne (tgt := 329) d_Mo_readExpression_317 (by decide) (fun c43 => ?_) (fun c43 => ?_)
          · replace h := it_f c43 h
            refine j_sub (w := [((am 20), .inr (8, [.ref q1_0_17, .int f1_1_17])), (q1_0_17, .inl (cI, n4_17, .inl b4_17)), ((am 2), .inl (cI, n_m2, .inl b_m2)), (h0, .inr (9, moF am known_h0 thrown_h0 wrong_h0 lastEnd_h0 f0_17_17 f0_18_17 f0_19_17 least_h0 found_h0)), ((am 5), .inr (8, [.ref a_all_m5, .int size_m5])), (a_all_m5, .inl (cI, n_a_all_m5, .inl b_a_all_m5))]) (lv' := [(5, .int (b_a_all_m5 (Int32.toNatClampNeg f0_17_17))), (4, .int v4_17), (3, .int v3_17), (2, .int v2_17), (1, .int v1_17), (0, .ref h0)]) [0, 1, 2, 3, 4, 5] rfl (by decide) [0, 1, 2, 3, 4, 5] rfl ?_
            exact L_329 b4_17 f0_18_17 cl_288 sl_288 C_288 S_288 h hC hS
          · replace h := it_t c43 h
            refine j_aload_n d_Mo_readExpression_320 rfl 5 rfl ?_
            replace h := bd_s h
            obtain ⟨⟨r44, r45, r46⟩, k48, h⟩ := h
            refine j_callV (n := 0) (As := []) (rest := []) (wr := [((am 2), .inl (cI, n_m2, .inl b_m2)), ((am 5), .inr (8, [.ref a_all_m5, .int size_m5])), (a_all_m5, .inl (cI, n_a_all_m5, .inl b_a_all_m5))]) (c_Mo_mark l D cI cB cJ cS h0 am q1_0_17 known_h0 thrown_h0 wrong_h0 lastEnd_h0 f0_17_17 f0_18_17 f0_19_17 least_h0 found_h0 f1_1_17 n4_17 b4_17  r44 r45 r46 k48) k_Mo_291 (by decide) ⟨Nat.le_of_ble_eq_true rfl, Nat.le_of_ble_eq_true rfl⟩ rfl 0 rfl [3, 0, 1] [2, 4, 5] rfl (by decide) rfl (by decide) (by decide) rfl rfl (Nat.le_of_ble_eq_true rfl) d_Mo_readExpression_321 ⟨show cl_288 + 0 ≤ mc by omega, show sl_288 + 0 ≤ ms by omega⟩ (fun v w hq => ?_)
            obtain ⟨rfl, z47, rfl⟩ := hq
            refine j_norm (pc' := 324) (st' := [.int r44]) (ws' := [((am 2), .inl (cI, n_m2, .inl b_m2)), ((am 5), .inr (8, [.ref a_all_m5, .int size_m5])), (a_all_m5, .inl (cI, n_a_all_m5, .inl b_a_all_m5)), (h0, .inr (9, moF am known_h0 thrown_h0 wrong_h0 lastEnd_h0 f0_17_17 r45 f0_19_17 least_h0 found_h0)), ((am 20), .inr (8, [.ref q1_0_17, .int f1_1_17])), (q1_0_17, .inl (cI, n4_17, .inl r46))]) (cl' := cl_288) (sl' := sl_288) rfl rfl rfl rfl rfl rfl ?_
            refine j_if_ne (tgt := 329) d_Mo_readExpression_324 (by decide) (fun c49 => ?_) (fun c49 => ?_)
            · replace h := it_f c49 h
              refine j_sub (w := [((am 20), .inr (8, [.ref q1_0_17, .int f1_1_17])), (q1_0_17, .inl (cI, n4_17, .inl r46)), ((am 2), .inl (cI, n_m2, .inl b_m2)), (h0, .inr (9, moF am known_h0 thrown_h0 wrong_h0 lastEnd_h0 f0_17_17 r45 f0_19_17 least_h0 found_h0)), ((am 5), .inr (8, [.ref a_all_m5, .int size_m5])), (a_all_m5, .inl (cI, n_a_all_m5, .inl b_a_all_m5))]) (lv' := [(5, .int (b_a_all_m5 (Int32.toNatClampNeg f0_17_17))), (4, .int v4_17), (3, .int v3_17), (2, .int v2_17), (1, .int v1_17), (0, .ref h0)]) [4, 5, 0, 3, 1, 2] rfl (by decide) [0, 1, 2, 3, 4, 5] rfl ?_
              exact L_329 r46 r45 cl_288 sl_288 C_288 S_288 h hC hS
            · replace h := it_t c49 h
              refine j_iconst (v := 0) d_Mo_readExpression_327 (by decide) ?_
              replace h := lf_s h
              obtain ⟨h, e1, e2⟩ := h
              replace h := Prod.mk.inj h
              obtain ⟨h9, h⟩ := h
              subst h9
              replace h := Prod.mk.inj h
              obtain ⟨h9, h⟩ := h
              subst h9
              replace h := Prod.mk.inj h
              obtain ⟨h9, h⟩ := h
              subst h9
              replace h := Prod.mk.inj h
              obtain ⟨h9, h⟩ := h
              subst h9
              replace h := Prod.mk.inj h
              obtain ⟨h9, h⟩ := h
              subst h9
              replace h := Prod.mk.inj h
              obtain ⟨h9, h⟩ := h
              subst h9
              subst h
              refine j_widen (cl' := mc) (sl' := ms) (by omega) (by omega) ?_
              exact j_zret (w := [(h0, .inr (9, moF am known_h0 thrown_h0 wrong_h0 lastEnd_h0 f0_17_17 r45 f0_19_17 least_h0 found_h0)), ((am 20), .inr (8, [.ref q1_0_17, .int f1_1_17])), ((am 5), .inr (8, [.ref a_all_m5, .int size_m5])), (a_all_m5, .inl (cI, n_a_all_m5, .inl b_a_all_m5)), ((am 2), .inl (cI, n_m2, .inl b_m2)), (q1_0_17, .inl (cI, n4_17, .inl r46))]) hr (zb_n zb0) d_Mo_readExpression_328 [3, 4, 1, 2, 0, 5] rfl (by decide) ⟨q1_0_17, rfl, zb0, rfl⟩
        · replace h := it_f c42 h
          refine j_iload d_Mo_readExpression_300 0 rfl ?_
          refine j_iconst (v := 4) d_Mo_readExpression_302 (by decide) ?_
          refine j_icmp_eq (tgt := 313) d_Mo_readExpression_303 (by decide) (fun c50 => ?_) (fun c50 => ?_)
          · replace h := it_t c50 h
            refine j_iload d_Mo_readExpression_313 0 rfl ?_
            refine j_bipush (v := 13) d_Mo_readExpression_315 (by decide) ?_
            refine j_icmp_ne (tgt := 329) d_Mo_readExpression_317 (by decide) (fun c51 => ?_) (fun c51 => ?_)
            · replace h := it_f c51 h
              refine j_sub (w := [((am 20), .inr (8, [.ref q1_0_17, .int f1_1_17])), (q1_0_17, .inl (cI, n4_17, .inl b4_17)), ((am 2), .inl (cI, n_m2, .inl b_m2)), (h0, .inr (9, moF am known_h0 thrown_h0 wrong_h0 lastEnd_h0 f0_17_17 f0_18_17 f0_19_17 least_h0 found_h0)), ((am 5), .inr (8, [.ref a_all_m5, .int size_m5])), (a_all_m5, .inl (cI, n_a_all_m5, .inl b_a_all_m5))]) (lv' := [(5, .int (b_a_all_m5 (Int32.toNatClampNeg f0_17_17))), (4, .int v4_17), (3, .int v3_17), (2, .int v2_17), (1, .int v1_17), (0, .ref h0)]) [0, 1, 2, 3, 4, 5] rfl (by decide) [0, 1, 2, 3, 4, 5] rfl ?_
              exact L_329 b4_17 f0_18_17 cl_288 sl_288 C_288 S_288 h hC hS
            · replace h := it_t c51 h
              refine j_aload_n d_Mo_readExpression_320 rfl 5 rfl ?_
              replace h := bd_s h
              obtain ⟨⟨r52, r53, r54⟩, k56, h⟩ := h
              refine j_callV (n := 0) (As := []) (rest := []) (wr := [((am 2), .inl (cI, n_m2, .inl b_m2)), ((am 5), .inr (8, [.ref a_all_m5, .int size_m5])), (a_all_m5, .inl (cI, n_a_all_m5, .inl b_a_all_m5))]) (c_Mo_mark l D cI cB cJ cS h0 am q1_0_17 known_h0 thrown_h0 wrong_h0 lastEnd_h0 f0_17_17 f0_18_17 f0_19_17 least_h0 found_h0 f1_1_17 n4_17 b4_17  r52 r53 r54 k56) k_Mo_291 (by decide) ⟨Nat.le_of_ble_eq_true rfl, Nat.le_of_ble_eq_true rfl⟩ rfl 0 rfl [3, 0, 1] [2, 4, 5] rfl (by decide) rfl (by decide) (by decide) rfl rfl (Nat.le_of_ble_eq_true rfl) d_Mo_readExpression_321 ⟨show cl_288 + 0 ≤ mc by omega, show sl_288 + 0 ≤ ms by omega⟩ (fun v w hq => ?_)
              obtain ⟨rfl, z55, rfl⟩ := hq
              refine j_norm (pc' := 324) (st' := [.int r52]) (ws' := [((am 2), .inl (cI, n_m2, .inl b_m2)), ((am 5), .inr (8, [.ref a_all_m5, .int size_m5])), (a_all_m5, .inl (cI, n_a_all_m5, .inl b_a_all_m5)), (h0, .inr (9, moF am known_h0 thrown_h0 wrong_h0 lastEnd_h0 f0_17_17 r53 f0_19_17 least_h0 found_h0)), ((am 20), .inr (8, [.ref q1_0_17, .int f1_1_17])), (q1_0_17, .inl (cI, n4_17, .inl r54))]) (cl' := cl_288) (sl' := sl_288) rfl rfl rfl rfl rfl rfl ?_
              refine j_if_ne (tgt := 329) d_Mo_readExpression_324 (by decide) (fun c57 => ?_) (fun c57 => ?_)
              · replace h := it_f c57 h
                refine j_sub (w := [((am 20), .inr (8, [.ref q1_0_17, .int f1_1_17])), (q1_0_17, .inl (cI, n4_17, .inl r54)), ((am 2), .inl (cI, n_m2, .inl b_m2)), (h0, .inr (9, moF am known_h0 thrown_h0 wrong_h0 lastEnd_h0 f0_17_17 r53 f0_19_17 least_h0 found_h0)), ((am 5), .inr (8, [.ref a_all_m5, .int size_m5])), (a_all_m5, .inl (cI, n_a_all_m5, .inl b_a_all_m5))]) (lv' := [(5, .int (b_a_all_m5 (Int32.toNatClampNeg f0_17_17))), (4, .int v4_17), (3, .int v3_17), (2, .int v2_17), (1, .int v1_17), (0, .ref h0)]) [4, 5, 0, 3, 1, 2] rfl (by decide) [0, 1, 2, 3, 4, 5] rfl ?_
                exact L_329 r54 r53 cl_288 sl_288 C_288 S_288 h hC hS
              · replace h := it_t c57 h
                refine j_iconst (v := 0) d_Mo_readExpression_327 (by decide) ?_
                replace h := lf_s h
                obtain ⟨h, e1, e2⟩ := h
                replace h := Prod.mk.inj h
                obtain ⟨h9, h⟩ := h
                subst h9
                replace h := Prod.mk.inj h
                obtain ⟨h9, h⟩ := h
                subst h9
                replace h := Prod.mk.inj h
                obtain ⟨h9, h⟩ := h
                subst h9
                replace h := Prod.mk.inj h
                obtain ⟨h9, h⟩ := h
                subst h9
                replace h := Prod.mk.inj h
                obtain ⟨h9, h⟩ := h
                subst h9
                replace h := Prod.mk.inj h
                obtain ⟨h9, h⟩ := h
                subst h9
                subst h
                refine j_widen (cl' := mc) (sl' := ms) (by omega) (by omega) ?_
                exact j_zret (w := [(h0, .inr (9, moF am known_h0 thrown_h0 wrong_h0 lastEnd_h0 f0_17_17 r53 f0_19_17 least_h0 found_h0)), ((am 20), .inr (8, [.ref q1_0_17, .int f1_1_17])), ((am 5), .inr (8, [.ref a_all_m5, .int size_m5])), (a_all_m5, .inl (cI, n_a_all_m5, .inl b_a_all_m5)), ((am 2), .inl (cI, n_m2, .inl b_m2)), (q1_0_17, .inl (cI, n4_17, .inl r54))]) hr (zb_n zb0) d_Mo_readExpression_328 [3, 4, 1, 2, 0, 5] rfl (by decide) ⟨q1_0_17, rfl, zb0, rfl⟩
          · replace h := it_f c50 h
            refine j_iload d_Mo_readExpression_306 0 rfl ?_
            refine j_bipush (v := 13) d_Mo_readExpression_308 (by decide) ?_
            refine j_icmp_ne (tgt := 359) d_Mo_readExpression_310 (by decide) (fun c58 => ?_) (fun c58 => ?_)
            · replace h := it_f c58 h
              refine j_aload_n d_Mo_readExpression_359 rfl 5 rfl ?_
              refine j_callV (n := 0) (As := []) (rest := []) (wr := [((am 20), .inr (8, [.ref q1_0_17, .int f1_1_17])), (q1_0_17, .inl (cI, n4_17, .inl b4_17)), ((am 2), .inl (cI, n_m2, .inl b_m2)), ((am 5), .inr (8, [.ref a_all_m5, .int size_m5])), (a_all_m5, .inl (cI, n_a_all_m5, .inl b_a_all_m5))]) (c_Mo_fail l D cI cB cJ cS h0 am known_h0 thrown_h0 wrong_h0 lastEnd_h0 f0_17_17 f0_18_17 f0_19_17 least_h0 found_h0  ) k_Mo_278 (by decide) ⟨Nat.le_of_ble_eq_true rfl, Nat.le_of_ble_eq_true rfl⟩ rfl 0 rfl [3] [0, 1, 2, 4, 5] rfl (by decide) rfl (by decide) (by decide) rfl rfl (Nat.le_of_ble_eq_true rfl) d_Mo_readExpression_360 ⟨show cl_288 + 0 ≤ mc by omega, show sl_288 + 0 ≤ ms by omega⟩ (fun v w hq => ?_)
              obtain ⟨rfl, _, rfl⟩ := hq
              refine j_norm (pc' := 363) (st' := [.int 0]) (ws' := [((am 20), .inr (8, [.ref q1_0_17, .int f1_1_17])), (q1_0_17, .inl (cI, n4_17, .inl b4_17)), ((am 2), .inl (cI, n_m2, .inl b_m2)), ((am 5), .inr (8, [.ref a_all_m5, .int size_m5])), (a_all_m5, .inl (cI, n_a_all_m5, .inl b_a_all_m5)), (h0, .inr (9, moF am known_h0 thrown_h0 wrong_h0 lastEnd_h0 f0_17_17 f0_17_17 f0_19_17 least_h0 found_h0))]) (cl' := cl_288) (sl' := sl_288) rfl rfl rfl rfl rfl rfl ?_
              replace h := lf_s h
              obtain ⟨h, e1, e2⟩ := h
              replace h := Prod.mk.inj h
              obtain ⟨h9, h⟩ := h
              subst h9
              replace h := Prod.mk.inj h
              obtain ⟨h9, h⟩ := h
              subst h9
              replace h := Prod.mk.inj h
              obtain ⟨h9, h⟩ := h
              subst h9
              replace h := Prod.mk.inj h
              obtain ⟨h9, h⟩ := h
              subst h9
              replace h := Prod.mk.inj h
              obtain ⟨h9, h⟩ := h
              subst h9
              replace h := Prod.mk.inj h
              obtain ⟨h9, h⟩ := h
              subst h9
              subst h
              refine j_widen (cl' := mc) (sl' := ms) (by omega) (by omega) ?_
              exact j_zret (w := [(h0, .inr (9, moF am known_h0 thrown_h0 wrong_h0 lastEnd_h0 f0_17_17 f0_17_17 f0_19_17 least_h0 found_h0)), ((am 20), .inr (8, [.ref q1_0_17, .int f1_1_17])), ((am 5), .inr (8, [.ref a_all_m5, .int size_m5])), (a_all_m5, .inl (cI, n_a_all_m5, .inl b_a_all_m5)), ((am 2), .inl (cI, n_m2, .inl b_m2)), (q1_0_17, .inl (cI, n4_17, .inl b4_17))]) hr (zb_n zb0) d_Mo_readExpression_363 [5, 0, 3, 4, 2, 1] rfl (by decide) ⟨q1_0_17, rfl, zb0, rfl⟩
            · replace h := it_t c58 h
              refine j_iload d_Mo_readExpression_313 0 rfl ?_
              refine j_bipush (v := 13) d_Mo_readExpression_315 (by decide) ?_
              refine j_icmp_ne (tgt := 329) d_Mo_readExpression_317 (by decide) (fun c60 => ?_) (fun c60 => ?_)
              · replace h := it_f c60 h
                refine j_sub (w := [((am 20), .inr (8, [.ref q1_0_17, .int f1_1_17])), (q1_0_17, .inl (cI, n4_17, .inl b4_17)), ((am 2), .inl (cI, n_m2, .inl b_m2)), (h0, .inr (9, moF am known_h0 thrown_h0 wrong_h0 lastEnd_h0 f0_17_17 f0_18_17 f0_19_17 least_h0 found_h0)), ((am 5), .inr (8, [.ref a_all_m5, .int size_m5])), (a_all_m5, .inl (cI, n_a_all_m5, .inl b_a_all_m5))]) (lv' := [(5, .int (b_a_all_m5 (Int32.toNatClampNeg f0_17_17))), (4, .int v4_17), (3, .int v3_17), (2, .int v2_17), (1, .int v1_17), (0, .ref h0)]) [0, 1, 2, 3, 4, 5] rfl (by decide) [0, 1, 2, 3, 4, 5] rfl ?_
                exact L_329 b4_17 f0_18_17 cl_288 sl_288 C_288 S_288 h hC hS
              · replace h := it_t c60 h
                refine j_aload_n d_Mo_readExpression_320 rfl 5 rfl ?_
                replace h := bd_s h
                obtain ⟨⟨r61, r62, r63⟩, k65, h⟩ := h
                refine j_callV (n := 0) (As := []) (rest := []) (wr := [((am 2), .inl (cI, n_m2, .inl b_m2)), ((am 5), .inr (8, [.ref a_all_m5, .int size_m5])), (a_all_m5, .inl (cI, n_a_all_m5, .inl b_a_all_m5))]) (c_Mo_mark l D cI cB cJ cS h0 am q1_0_17 known_h0 thrown_h0 wrong_h0 lastEnd_h0 f0_17_17 f0_18_17 f0_19_17 least_h0 found_h0 f1_1_17 n4_17 b4_17  r61 r62 r63 k65) k_Mo_291 (by decide) ⟨Nat.le_of_ble_eq_true rfl, Nat.le_of_ble_eq_true rfl⟩ rfl 0 rfl [3, 0, 1] [2, 4, 5] rfl (by decide) rfl (by decide) (by decide) rfl rfl (Nat.le_of_ble_eq_true rfl) d_Mo_readExpression_321 ⟨show cl_288 + 0 ≤ mc by omega, show sl_288 + 0 ≤ ms by omega⟩ (fun v w hq => ?_)
                obtain ⟨rfl, z64, rfl⟩ := hq
                refine j_norm (pc' := 324) (st' := [.int r61]) (ws' := [((am 2), .inl (cI, n_m2, .inl b_m2)), ((am 5), .inr (8, [.ref a_all_m5, .int size_m5])), (a_all_m5, .inl (cI, n_a_all_m5, .inl b_a_all_m5)), (h0, .inr (9, moF am known_h0 thrown_h0 wrong_h0 lastEnd_h0 f0_17_17 r62 f0_19_17 least_h0 found_h0)), ((am 20), .inr (8, [.ref q1_0_17, .int f1_1_17])), (q1_0_17, .inl (cI, n4_17, .inl r63))]) (cl' := cl_288) (sl' := sl_288) rfl rfl rfl rfl rfl rfl ?_
                refine j_if_ne (tgt := 329) d_Mo_readExpression_324 (by decide) (fun c66 => ?_) (fun c66 => ?_)
                · replace h := it_f c66 h
                  refine j_sub (w := [((am 20), .inr (8, [.ref q1_0_17, .int f1_1_17])), (q1_0_17, .inl (cI, n4_17, .inl r63)), ((am 2), .inl (cI, n_m2, .inl b_m2)), (h0, .inr (9, moF am known_h0 thrown_h0 wrong_h0 lastEnd_h0 f0_17_17 r62 f0_19_17 least_h0 found_h0)), ((am 5), .inr (8, [.ref a_all_m5, .int size_m5])), (a_all_m5, .inl (cI, n_a_all_m5, .inl b_a_all_m5))]) (lv' := [(5, .int (b_a_all_m5 (Int32.toNatClampNeg f0_17_17))), (4, .int v4_17), (3, .int v3_17), (2, .int v2_17), (1, .int v1_17), (0, .ref h0)]) [4, 5, 0, 3, 1, 2] rfl (by decide) [0, 1, 2, 3, 4, 5] rfl ?_
                  exact L_329 r63 r62 cl_288 sl_288 C_288 S_288 h hC hS
                · replace h := it_t c66 h
                  refine j_iconst (v := 0) d_Mo_readExpression_327 (by decide) ?_
                  replace h := lf_s h
                  obtain ⟨h, e1, e2⟩ := h
                  replace h := Prod.mk.inj h
                  obtain ⟨h9, h⟩ := h
                  subst h9
                  replace h := Prod.mk.inj h
                  obtain ⟨h9, h⟩ := h
                  subst h9
                  replace h := Prod.mk.inj h
                  obtain ⟨h9, h⟩ := h
                  subst h9
                  replace h := Prod.mk.inj h
                  obtain ⟨h9, h⟩ := h
                  subst h9
                  replace h := Prod.mk.inj h
                  obtain ⟨h9, h⟩ := h
                  subst h9
                  replace h := Prod.mk.inj h
                  obtain ⟨h9, h⟩ := h
                  subst h9
                  subst h
                  refine j_widen (cl' := mc) (sl' := ms) (by omega) (by omega) ?_
                  exact j_zret (w := [(h0, .inr (9, moF am known_h0 thrown_h0 wrong_h0 lastEnd_h0 f0_17_17 r62 f0_19_17 least_h0 found_h0)), ((am 20), .inr (8, [.ref q1_0_17, .int f1_1_17])), ((am 5), .inr (8, [.ref a_all_m5, .int size_m5])), (a_all_m5, .inl (cI, n_a_all_m5, .inl b_a_all_m5)), ((am 2), .inl (cI, n_m2, .inl b_m2)), (q1_0_17, .inl (cI, n4_17, .inl r63))]) hr (zb_n zb0) d_Mo_readExpression_328 [3, 4, 1, 2, 0, 5] rfl (by decide) ⟨q1_0_17, rfl, zb0, rfl⟩
    have L_271 : ∀ (q1_0_271 : Nat) (v7_271 : Int32) (v6_271 : Int32) (t0_271 : Int32) (n2_271 : Nat) (b2_271 : Nat → Int32) (f3_17_271 : Int32) (f3_18_271 : Int32) (f3_19_271 : Int32) (hz_v6_271 : zb v6_271) (hz_t0_271 : zb t0_271) (cl_271 sl_271 C_271 S_271 : Nat), F_Mo_readExpression_271 known_h0 thrown_h0 wrong_h0 lastEnd_h0 least_h0 found_h0 f1_1_17 (F_Mo_readExpression_17 known_h0 thrown_h0 wrong_h0 lastEnd_h0 least_h0 found_h0 size_m5 n_a_all_m5 b_a_all_m5 n_m2 b_m2  k_17)  v7_271 v6_271 t0_271 n2_271 b2_271 f3_17_271 f3_18_271 f3_19_271 = some ((ret, o_0_17, o_0_18, o_0_19, o_1_1, on_nq_1_0, ob_nq_1_0), C_271, S_271) → cl_271 + C_271 ≤ mc → sl_271 + S_271 ≤ ms → J (KxOf p l e { frames := 4, cells := mc, slots := ms, locals := 86 } s m [.ref h0].toArray below meth c D (gT cI cB cJ cS) [(h0, .inr (9, moF am known_h0 thrown_h0 wrong_h0 lastEnd_h0 at_h0 bad_h0 levels_h0 least_h0 found_h0)), ((am 20), .inr (8, [.ref a_all_m20, .int size_m20])), ((am 5), .inr (8, [.ref a_all_m5, .int size_m5])), (a_all_m5, .inl (cI, n_a_all_m5, .inl b_a_all_m5)), (a_all_m20, .inl (cI, n_a_all_m20, .inl b_a_all_m20)), ((am 2), .inl (cI, n_m2, .inl b_m2))] (fun v w => ∃ nq_1_0 : Nat, v = some (.int ret) ∧ zb ret ∧ w = [(h0, .inr (9, moF am known_h0 thrown_h0 wrong_h0 lastEnd_h0 o_0_17 o_0_18 o_0_19 least_h0 found_h0)), ((am 20), .inr (8, [.ref nq_1_0, .int o_1_1])), ((am 5), .inr (8, [.ref a_all_m5, .int size_m5])), (a_all_m5, .inl (cI, n_a_all_m5, .inl b_a_all_m5)), ((am 2), .inl (cI, n_m2, .inl b_m2)), (nq_1_0, .inl (cI, on_nq_1_0, .inl ob_nq_1_0))]) mc ms) prog_12_method_30_code 8 R_Mo 271 [(7, .int v7_271), (6, .int v6_271), (2, .int 0), (3, .int 0), (1, .int 0), (5, .int (b_a_all_m5 (Int32.toNatClampNeg f0_17_17))), (4, .int v4_17), (0, .ref h0)] [.int t0_271] [((am 2), .inl (cI, n_m2, .inl b_m2)), ((am 20), .inr (8, [.ref q1_0_271, .int (((((f1_1_17 + 1) + 1) + 1) + 1) + 1)])), (q1_0_271, .inl (cI, n2_271, .inl b2_271)), (h0, .inr (9, moF am known_h0 thrown_h0 wrong_h0 lastEnd_h0 f3_17_271 f3_18_271 f3_19_271 least_h0 found_h0)), ((am 5), .inr (8, [.ref a_all_m5, .int size_m5])), (a_all_m5, .inl (cI, n_a_all_m5, .inl b_a_all_m5))] cl_271 sl_271 := by
      clear h
      intro q1_0_271 v7_271 v6_271 t0_271 n2_271 b2_271 f3_17_271 f3_18_271 f3_19_271 hz_v6_271 hz_t0_271 cl_271 sl_271 C_271 S_271 h hC hS
      unfold F_Mo_readExpression_271 at h
      refine j_istore (lv' := [(4, .int t0_271), (7, .int v7_271), (6, .int v6_271), (2, .int 0), (3, .int 0), (1, .int 0), (5, .int (b_a_all_m5 (Int32.toNatClampNeg f0_17_17))), (0, .ref h0)]) d_Mo_readExpression_271 (by decide) rfl ?_
      refine j_iload d_Mo_readExpression_273 1 rfl ?_
      refine j_iconst (v := 1) d_Mo_readExpression_275 (by decide) ?_
      refine j_icmp_ne (tgt := 285) d_Mo_readExpression_276 (by decide) (fun c67 => ?_) (fun c67 => ?_)
      · replace h := it_f c67 h
        refine j_goto (tgt := 581) d_Mo_readExpression_285 (by decide) ?_
        refine j_goto (tgt := 17) d_Mo_readExpression_581 (by decide) ?_
        refine j_sub (w := [(h0, .inr (9, moF am known_h0 thrown_h0 wrong_h0 lastEnd_h0 f3_17_271 f3_18_271 f3_19_271 least_h0 found_h0)), ((am 20), .inr (8, [.ref q1_0_271, .int (((((f1_1_17 + 1) + 1) + 1) + 1) + 1)])), ((am 5), .inr (8, [.ref a_all_m5, .int size_m5])), (a_all_m5, .inl (cI, n_a_all_m5, .inl b_a_all_m5)), (q1_0_271, .inl (cI, n2_271, .inl b2_271)), ((am 2), .inl (cI, n_m2, .inl b_m2))]) (lv' := [(4, .int t0_271), (3, .int 0), (2, .int 0), (1, .int 0), (0, .ref h0)]) [3, 1, 4, 5, 2, 0] rfl (by decide) [0, 4, 3, 5, 7] rfl ?_
        exact ih_17 q1_0_271 t0_271 0 0 0 f3_17_271 f3_18_271 f3_19_271 (((((f1_1_17 + 1) + 1) + 1) + 1) + 1) n2_271 b2_271 hz_t0_271 cl_271 sl_271 C_271 S_271 h hC hS
      · replace h := it_t c67 h
        refine j_aload_n d_Mo_readExpression_279 rfl 7 rfl ?_
        refine j_iconst (v := 1) d_Mo_readExpression_280 (by decide) ?_
        refine j_iconst (v := 1) d_Mo_readExpression_281 (by decide) ?_
        replace h := bd_s h
        obtain ⟨_, k68, h⟩ := h
        refine j_callV (n := 2) (As := [.int 1, .int 1]) (rest := []) (wr := [((am 2), .inl (cI, n_m2, .inl b_m2)), ((am 5), .inr (8, [.ref a_all_m5, .int size_m5])), (a_all_m5, .inl (cI, n_a_all_m5, .inl b_a_all_m5))]) (c_Mo_setTop l D cI cB cJ cS h0 am q1_0_271 1 1 known_h0 thrown_h0 wrong_h0 lastEnd_h0 f3_17_271 f3_18_271 f3_19_271 least_h0 found_h0 (((((f1_1_17 + 1) + 1) + 1) + 1) + 1) n2_271 b2_271  k68) k_Mo_304 (by decide) ⟨Nat.le_of_ble_eq_true rfl, Nat.le_of_ble_eq_true rfl⟩ rfl 0 rfl [3, 1, 2] [0, 4, 5] rfl (by decide) rfl (by decide) (by decide) rfl rfl (Nat.le_of_ble_eq_true rfl) d_Mo_readExpression_282 ⟨show cl_271 + 0 ≤ mc by omega, show sl_271 + 0 ≤ ms by omega⟩ (fun v w hq => ?_)
        obtain ⟨rfl, rfl⟩ := hq
        refine j_norm (pc' := 285) (st' := []) (ws' := [((am 2), .inl (cI, n_m2, .inl b_m2)), ((am 5), .inr (8, [.ref a_all_m5, .int size_m5])), (a_all_m5, .inl (cI, n_a_all_m5, .inl b_a_all_m5)), (h0, .inr (9, moF am known_h0 thrown_h0 wrong_h0 lastEnd_h0 f3_17_271 f3_18_271 f3_19_271 least_h0 found_h0)), ((am 20), .inr (8, [.ref q1_0_271, .int (((((f1_1_17 + 1) + 1) + 1) + 1) + 1)])), (q1_0_271, .inl (cI, n2_271, .inl (upd b2_271 (Int32.toNatClampNeg (((((((f1_1_17 + 1) + 1) + 1) + 1) + 1) - 5) + 1)) 1)))]) (cl' := cl_271) (sl' := sl_271) rfl rfl rfl rfl rfl rfl ?_
        refine j_goto (tgt := 581) d_Mo_readExpression_285 (by decide) ?_
        refine j_goto (tgt := 17) d_Mo_readExpression_581 (by decide) ?_
        refine j_sub (w := [(h0, .inr (9, moF am known_h0 thrown_h0 wrong_h0 lastEnd_h0 f3_17_271 f3_18_271 f3_19_271 least_h0 found_h0)), ((am 20), .inr (8, [.ref q1_0_271, .int (((((f1_1_17 + 1) + 1) + 1) + 1) + 1)])), ((am 5), .inr (8, [.ref a_all_m5, .int size_m5])), (a_all_m5, .inl (cI, n_a_all_m5, .inl b_a_all_m5)), (q1_0_271, .inl (cI, n2_271, .inl (upd b2_271 (Int32.toNatClampNeg (((((((f1_1_17 + 1) + 1) + 1) + 1) + 1) - 5) + 1)) 1))), ((am 2), .inl (cI, n_m2, .inl b_m2))]) (lv' := [(4, .int t0_271), (3, .int 0), (2, .int 0), (1, .int 0), (0, .ref h0)]) [3, 4, 1, 2, 5, 0] rfl (by decide) [0, 4, 3, 5, 7] rfl ?_
        exact ih_17 q1_0_271 t0_271 0 0 0 f3_17_271 f3_18_271 f3_19_271 (((((f1_1_17 + 1) + 1) + 1) + 1) + 1) n2_271 (upd b2_271 (Int32.toNatClampNeg (((((((f1_1_17 + 1) + 1) + 1) + 1) + 1) - 5) + 1)) 1) hz_t0_271 cl_271 sl_271 C_271 S_271 h hC hS
    have L_247 : ∀ (q1_0_247 : Nat) (v6_247 : Int32) (t0_247 : Int32) (n2_247 : Nat) (b2_247 : Nat → Int32) (f3_17_247 : Int32) (f3_18_247 : Int32) (f3_19_247 : Int32) (hz_v6_247 : zb v6_247) (cl_247 sl_247 C_247 S_247 : Nat), F_Mo_readExpression_247 known_h0 thrown_h0 wrong_h0 lastEnd_h0 least_h0 found_h0 f1_1_17 (F_Mo_readExpression_17 known_h0 thrown_h0 wrong_h0 lastEnd_h0 least_h0 found_h0 size_m5 n_a_all_m5 b_a_all_m5 n_m2 b_m2  k_17)  v6_247 t0_247 n2_247 b2_247 f3_17_247 f3_18_247 f3_19_247 = some ((ret, o_0_17, o_0_18, o_0_19, o_1_1, on_nq_1_0, ob_nq_1_0), C_247, S_247) → cl_247 + C_247 ≤ mc → sl_247 + S_247 ≤ ms → J (KxOf p l e { frames := 4, cells := mc, slots := ms, locals := 86 } s m [.ref h0].toArray below meth c D (gT cI cB cJ cS) [(h0, .inr (9, moF am known_h0 thrown_h0 wrong_h0 lastEnd_h0 at_h0 bad_h0 levels_h0 least_h0 found_h0)), ((am 20), .inr (8, [.ref a_all_m20, .int size_m20])), ((am 5), .inr (8, [.ref a_all_m5, .int size_m5])), (a_all_m5, .inl (cI, n_a_all_m5, .inl b_a_all_m5)), (a_all_m20, .inl (cI, n_a_all_m20, .inl b_a_all_m20)), ((am 2), .inl (cI, n_m2, .inl b_m2))] (fun v w => ∃ nq_1_0 : Nat, v = some (.int ret) ∧ zb ret ∧ w = [(h0, .inr (9, moF am known_h0 thrown_h0 wrong_h0 lastEnd_h0 o_0_17 o_0_18 o_0_19 least_h0 found_h0)), ((am 20), .inr (8, [.ref nq_1_0, .int o_1_1])), ((am 5), .inr (8, [.ref a_all_m5, .int size_m5])), (a_all_m5, .inl (cI, n_a_all_m5, .inl b_a_all_m5)), ((am 2), .inl (cI, n_m2, .inl b_m2)), (nq_1_0, .inl (cI, on_nq_1_0, .inl ob_nq_1_0))]) mc ms) prog_12_method_30_code 8 R_Mo 247 [(6, .int v6_247), (2, .int 0), (3, .int 0), (1, .int 0), (5, .int (b_a_all_m5 (Int32.toNatClampNeg f0_17_17))), (4, .int v4_17), (0, .ref h0)] [.int t0_247] [((am 2), .inl (cI, n_m2, .inl b_m2)), ((am 20), .inr (8, [.ref q1_0_247, .int (((((f1_1_17 + 1) + 1) + 1) + 1) + 1)])), (q1_0_247, .inl (cI, n2_247, .inl b2_247)), (h0, .inr (9, moF am known_h0 thrown_h0 wrong_h0 lastEnd_h0 f3_17_247 f3_18_247 f3_19_247 least_h0 found_h0)), ((am 5), .inr (8, [.ref a_all_m5, .int size_m5])), (a_all_m5, .inl (cI, n_a_all_m5, .inl b_a_all_m5))] cl_247 sl_247 := by
      clear h
      intro q1_0_247 v6_247 t0_247 n2_247 b2_247 f3_17_247 f3_18_247 f3_19_247 hz_v6_247 cl_247 sl_247 C_247 S_247 h hC hS
      unfold F_Mo_readExpression_247 at h
      refine j_istore (lv' := [(7, .int t0_247), (6, .int v6_247), (2, .int 0), (3, .int 0), (1, .int 0), (5, .int (b_a_all_m5 (Int32.toNatClampNeg f0_17_17))), (4, .int v4_17), (0, .ref h0)]) d_Mo_readExpression_247 (by decide) rfl ?_
      refine j_iload d_Mo_readExpression_249 0 rfl ?_
      refine j_if_ge (tgt := 256) d_Mo_readExpression_251 (by decide) (fun c69 => ?_) (fun c69 => ?_)
      · replace h := it_t c69 h
        refine j_iload d_Mo_readExpression_256 1 rfl ?_
        refine j_if_ne (tgt := 270) d_Mo_readExpression_258 (by decide) (fun c70 => ?_) (fun c70 => ?_)
        · replace h := it_f c70 h
          refine j_iconst (v := 0) d_Mo_readExpression_270 (by decide) ?_
          refine j_sub (w := [((am 2), .inl (cI, n_m2, .inl b_m2)), ((am 20), .inr (8, [.ref q1_0_247, .int (((((f1_1_17 + 1) + 1) + 1) + 1) + 1)])), (q1_0_247, .inl (cI, n2_247, .inl b2_247)), (h0, .inr (9, moF am known_h0 thrown_h0 wrong_h0 lastEnd_h0 f3_17_247 f3_18_247 f3_19_247 least_h0 found_h0)), ((am 5), .inr (8, [.ref a_all_m5, .int size_m5])), (a_all_m5, .inl (cI, n_a_all_m5, .inl b_a_all_m5))]) (lv' := [(7, .int t0_247), (6, .int v6_247), (2, .int 0), (3, .int 0), (1, .int 0), (5, .int (b_a_all_m5 (Int32.toNatClampNeg f0_17_17))), (4, .int v4_17), (0, .ref h0)]) [0, 1, 2, 3, 4, 5] rfl (by decide) [0, 1, 2, 3, 4, 5, 6, 7] rfl ?_
          exact L_271 q1_0_247 t0_247 v6_247 0 n2_247 b2_247 f3_17_247 f3_18_247 f3_19_247 hz_v6_247 zb0 cl_247 sl_247 C_247 S_247 h hC hS
        · replace h := it_t c70 h
          refine j_iload d_Mo_readExpression_261 0 rfl ?_
          refine j_if_ne (tgt := 270) d_Mo_readExpression_263 (by decide) (fun c71 => ?_) (fun c71 => ?_)
          · replace h := it_f c71 h
            refine j_iconst (v := 0) d_Mo_readExpression_270 (by decide) ?_
            refine j_sub (w := [((am 2), .inl (cI, n_m2, .inl b_m2)), ((am 20), .inr (8, [.ref q1_0_247, .int (((((f1_1_17 + 1) + 1) + 1) + 1) + 1)])), (q1_0_247, .inl (cI, n2_247, .inl b2_247)), (h0, .inr (9, moF am known_h0 thrown_h0 wrong_h0 lastEnd_h0 f3_17_247 f3_18_247 f3_19_247 least_h0 found_h0)), ((am 5), .inr (8, [.ref a_all_m5, .int size_m5])), (a_all_m5, .inl (cI, n_a_all_m5, .inl b_a_all_m5))]) (lv' := [(7, .int t0_247), (6, .int v6_247), (2, .int 0), (3, .int 0), (1, .int 0), (5, .int (b_a_all_m5 (Int32.toNatClampNeg f0_17_17))), (4, .int v4_17), (0, .ref h0)]) [0, 1, 2, 3, 4, 5] rfl (by decide) [0, 1, 2, 3, 4, 5, 6, 7] rfl ?_
            exact L_271 q1_0_247 t0_247 v6_247 0 n2_247 b2_247 f3_17_247 f3_18_247 f3_19_247 hz_v6_247 zb0 cl_247 sl_247 C_247 S_247 h hC hS
          · replace h := it_t c71 h
            refine j_iconst (v := 1) d_Mo_readExpression_266 (by decide) ?_
            refine j_goto (tgt := 271) d_Mo_readExpression_267 (by decide) ?_
            refine j_sub (w := [((am 2), .inl (cI, n_m2, .inl b_m2)), ((am 20), .inr (8, [.ref q1_0_247, .int (((((f1_1_17 + 1) + 1) + 1) + 1) + 1)])), (q1_0_247, .inl (cI, n2_247, .inl b2_247)), (h0, .inr (9, moF am known_h0 thrown_h0 wrong_h0 lastEnd_h0 f3_17_247 f3_18_247 f3_19_247 least_h0 found_h0)), ((am 5), .inr (8, [.ref a_all_m5, .int size_m5])), (a_all_m5, .inl (cI, n_a_all_m5, .inl b_a_all_m5))]) (lv' := [(7, .int t0_247), (6, .int v6_247), (2, .int 0), (3, .int 0), (1, .int 0), (5, .int (b_a_all_m5 (Int32.toNatClampNeg f0_17_17))), (4, .int v4_17), (0, .ref h0)]) [0, 1, 2, 3, 4, 5] rfl (by decide) [0, 1, 2, 3, 4, 5, 6, 7] rfl ?_
            exact L_271 q1_0_247 t0_247 v6_247 1 n2_247 b2_247 f3_17_247 f3_18_247 f3_19_247 hz_v6_247 zb1 cl_247 sl_247 C_247 S_247 h hC hS
      · replace h := it_f c69 h
        refine j_iconst (v := 0) d_Mo_readExpression_254 (by decide) ?_
        replace h := lf_s h
        obtain ⟨h, e1, e2⟩ := h
        replace h := Prod.mk.inj h
        obtain ⟨h9, h⟩ := h
        subst h9
        replace h := Prod.mk.inj h
        obtain ⟨h9, h⟩ := h
        subst h9
        replace h := Prod.mk.inj h
        obtain ⟨h9, h⟩ := h
        subst h9
        replace h := Prod.mk.inj h
        obtain ⟨h9, h⟩ := h
        subst h9
        replace h := Prod.mk.inj h
        obtain ⟨h9, h⟩ := h
        subst h9
        replace h := Prod.mk.inj h
        obtain ⟨h9, h⟩ := h
        subst h9
        subst h
        refine j_widen (cl' := mc) (sl' := ms) (by omega) (by omega) ?_
        exact j_zret (w := [(h0, .inr (9, moF am known_h0 thrown_h0 wrong_h0 lastEnd_h0 f3_17_247 f3_18_247 f3_19_247 least_h0 found_h0)), ((am 20), .inr (8, [.ref q1_0_247, .int (((((f1_1_17 + 1) + 1) + 1) + 1) + 1)])), ((am 5), .inr (8, [.ref a_all_m5, .int size_m5])), (a_all_m5, .inl (cI, n_a_all_m5, .inl b_a_all_m5)), ((am 2), .inl (cI, n_m2, .inl b_m2)), (q1_0_247, .inl (cI, n2_247, .inl b2_247))]) hr (zb_n zb0) d_Mo_readExpression_255 [3, 1, 4, 5, 0, 2] rfl (by decide) ⟨q1_0_247, rfl, zb0, rfl⟩
    have L_226 : ∀ (q1_0_226 : Nat) (t0_226 : Int32) (n2_226 : Nat) (b2_226 : Nat → Int32) (f3_17_226 : Int32) (f3_18_226 : Int32) (f3_19_226 : Int32) (hz_t0_226 : zb t0_226) (cl_226 sl_226 C_226 S_226 : Nat), F_Mo_readExpression_226 known_h0 thrown_h0 wrong_h0 lastEnd_h0 least_h0 found_h0 size_m5 n_a_all_m5 b_a_all_m5 f0_17_17 f1_1_17 (F_Mo_readExpression_17 known_h0 thrown_h0 wrong_h0 lastEnd_h0 least_h0 found_h0 size_m5 n_a_all_m5 b_a_all_m5 n_m2 b_m2  k_17)  t0_226 n2_226 b2_226 f3_17_226 f3_18_226 f3_19_226 = some ((ret, o_0_17, o_0_18, o_0_19, o_1_1, on_nq_1_0, ob_nq_1_0), C_226, S_226) → cl_226 + C_226 ≤ mc → sl_226 + S_226 ≤ ms → J (KxOf p l e { frames := 4, cells := mc, slots := ms, locals := 86 } s m [.ref h0].toArray below meth c D (gT cI cB cJ cS) [(h0, .inr (9, moF am known_h0 thrown_h0 wrong_h0 lastEnd_h0 at_h0 bad_h0 levels_h0 least_h0 found_h0)), ((am 20), .inr (8, [.ref a_all_m20, .int size_m20])), ((am 5), .inr (8, [.ref a_all_m5, .int size_m5])), (a_all_m5, .inl (cI, n_a_all_m5, .inl b_a_all_m5)), (a_all_m20, .inl (cI, n_a_all_m20, .inl b_a_all_m20)), ((am 2), .inl (cI, n_m2, .inl b_m2))] (fun v w => ∃ nq_1_0 : Nat, v = some (.int ret) ∧ zb ret ∧ w = [(h0, .inr (9, moF am known_h0 thrown_h0 wrong_h0 lastEnd_h0 o_0_17 o_0_18 o_0_19 least_h0 found_h0)), ((am 20), .inr (8, [.ref nq_1_0, .int o_1_1])), ((am 5), .inr (8, [.ref a_all_m5, .int size_m5])), (a_all_m5, .inl (cI, n_a_all_m5, .inl b_a_all_m5)), ((am 2), .inl (cI, n_m2, .inl b_m2)), (nq_1_0, .inl (cI, on_nq_1_0, .inl ob_nq_1_0))]) mc ms) prog_12_method_30_code 8 R_Mo 226 [(2, .int 0), (3, .int 0), (1, .int 0), (5, .int (b_a_all_m5 (Int32.toNatClampNeg f0_17_17))), (4, .int v4_17), (0, .ref h0)] [.int t0_226] [((am 2), .inl (cI, n_m2, .inl b_m2)), ((am 20), .inr (8, [.ref q1_0_226, .int (((((f1_1_17 + 1) + 1) + 1) + 1) + 1)])), (q1_0_226, .inl (cI, n2_226, .inl b2_226)), (h0, .inr (9, moF am known_h0 thrown_h0 wrong_h0 lastEnd_h0 f3_17_226 f3_18_226 f3_19_226 least_h0 found_h0)), ((am 5), .inr (8, [.ref a_all_m5, .int size_m5])), (a_all_m5, .inl (cI, n_a_all_m5, .inl b_a_all_m5))] cl_226 sl_226 := by
      clear h
      intro q1_0_226 t0_226 n2_226 b2_226 f3_17_226 f3_18_226 f3_19_226 hz_t0_226 cl_226 sl_226 C_226 S_226 h hC hS
      unfold F_Mo_readExpression_226 at h
      refine j_istore (lv' := [(6, .int t0_226), (2, .int 0), (3, .int 0), (1, .int 0), (5, .int (b_a_all_m5 (Int32.toNatClampNeg f0_17_17))), (4, .int v4_17), (0, .ref h0)]) d_Mo_readExpression_226 (by decide) rfl ?_
      refine j_iload d_Mo_readExpression_228 4 rfl ?_
      refine j_iconst (v := 2) d_Mo_readExpression_230 (by decide) ?_
      refine j_icmp_ne (tgt := 246) d_Mo_readExpression_231 (by decide) (fun c72 => ?_) (fun c72 => ?_)
      · replace h := it_f c72 h
        refine j_iconst (v := 0) d_Mo_readExpression_246 (by decide) ?_
        refine j_sub (w := [((am 2), .inl (cI, n_m2, .inl b_m2)), ((am 20), .inr (8, [.ref q1_0_226, .int (((((f1_1_17 + 1) + 1) + 1) + 1) + 1)])), (q1_0_226, .inl (cI, n2_226, .inl b2_226)), (h0, .inr (9, moF am known_h0 thrown_h0 wrong_h0 lastEnd_h0 f3_17_226 f3_18_226 f3_19_226 least_h0 found_h0)), ((am 5), .inr (8, [.ref a_all_m5, .int size_m5])), (a_all_m5, .inl (cI, n_a_all_m5, .inl b_a_all_m5))]) (lv' := [(6, .int t0_226), (2, .int 0), (3, .int 0), (1, .int 0), (5, .int (b_a_all_m5 (Int32.toNatClampNeg f0_17_17))), (4, .int v4_17), (0, .ref h0)]) [0, 1, 2, 3, 4, 5] rfl (by decide) [0, 1, 2, 3, 4, 5, 6] rfl ?_
        exact L_247 q1_0_226 t0_226 0 n2_226 b2_226 f3_17_226 f3_18_226 f3_19_226 hz_t0_226 cl_226 sl_226 C_226 S_226 h hC hS
      · replace h := it_t c72 h
        refine j_iload d_Mo_readExpression_234 0 rfl ?_
        refine j_if_ne (tgt := 246) d_Mo_readExpression_236 (by decide) (fun c73 => ?_) (fun c73 => ?_)
        · replace h := it_f c73 h
          refine j_iconst (v := 0) d_Mo_readExpression_246 (by decide) ?_
          refine j_sub (w := [((am 2), .inl (cI, n_m2, .inl b_m2)), ((am 20), .inr (8, [.ref q1_0_226, .int (((((f1_1_17 + 1) + 1) + 1) + 1) + 1)])), (q1_0_226, .inl (cI, n2_226, .inl b2_226)), (h0, .inr (9, moF am known_h0 thrown_h0 wrong_h0 lastEnd_h0 f3_17_226 f3_18_226 f3_19_226 least_h0 found_h0)), ((am 5), .inr (8, [.ref a_all_m5, .int size_m5])), (a_all_m5, .inl (cI, n_a_all_m5, .inl b_a_all_m5))]) (lv' := [(6, .int t0_226), (2, .int 0), (3, .int 0), (1, .int 0), (5, .int (b_a_all_m5 (Int32.toNatClampNeg f0_17_17))), (4, .int v4_17), (0, .ref h0)]) [0, 1, 2, 3, 4, 5] rfl (by decide) [0, 1, 2, 3, 4, 5, 6] rfl ?_
          exact L_247 q1_0_226 t0_226 0 n2_226 b2_226 f3_17_226 f3_18_226 f3_19_226 hz_t0_226 cl_226 sl_226 C_226 S_226 h hC hS
        · replace h := it_t c73 h
          refine j_aload_n d_Mo_readExpression_239 rfl 6 rfl ?_
          replace h := bd_s h
          obtain ⟨⟨r74, r75, r76, r77⟩, k78, h⟩ := h
          refine j_callV (n := 0) (As := []) (rest := []) (wr := [((am 2), .inl (cI, n_m2, .inl b_m2))]) (c_Mo_wholeColon l D cI cB cJ cS h0 am a_all_m5 q1_0_226 known_h0 thrown_h0 wrong_h0 lastEnd_h0 f3_17_226 f3_18_226 f3_19_226 least_h0 found_h0 size_m5 n_a_all_m5 b_a_all_m5 (((((f1_1_17 + 1) + 1) + 1) + 1) + 1) n2_226 b2_226  r74 r75 r76 r77 k78) k_Mo_307 (by decide) ⟨Nat.le_of_ble_eq_true rfl, Nat.le_of_ble_eq_true rfl⟩ rfl 0 rfl [3, 4, 5, 1, 2] [0] rfl (by decide) rfl (by decide) (by decide) rfl rfl (Nat.le_of_ble_eq_true rfl) d_Mo_readExpression_240 ⟨show cl_226 + 0 ≤ mc by omega, show sl_226 + 0 ≤ ms by omega⟩ (fun v w hq => ?_)
          obtain ⟨rfl, rfl⟩ := hq
          refine j_norm (pc' := 243) (st' := [.int r74]) (ws' := [((am 2), .inl (cI, n_m2, .inl b_m2)), (h0, .inr (9, moF am known_h0 thrown_h0 wrong_h0 lastEnd_h0 r75 r76 f3_19_226 least_h0 found_h0)), ((am 5), .inr (8, [.ref a_all_m5, .int size_m5])), (a_all_m5, .inl (cI, n_a_all_m5, .inl b_a_all_m5)), ((am 20), .inr (8, [.ref q1_0_226, .int (((((f1_1_17 + 1) + 1) + 1) + 1) + 1)])), (q1_0_226, .inl (cI, n2_226, .inl r77))]) (cl' := cl_226) (sl' := sl_226) rfl rfl rfl rfl rfl rfl ?_
          refine j_goto (tgt := 247) d_Mo_readExpression_243 (by decide) ?_
          refine j_sub (w := [((am 2), .inl (cI, n_m2, .inl b_m2)), ((am 20), .inr (8, [.ref q1_0_226, .int (((((f1_1_17 + 1) + 1) + 1) + 1) + 1)])), (q1_0_226, .inl (cI, n2_226, .inl r77)), (h0, .inr (9, moF am known_h0 thrown_h0 wrong_h0 lastEnd_h0 r75 r76 f3_19_226 least_h0 found_h0)), ((am 5), .inr (8, [.ref a_all_m5, .int size_m5])), (a_all_m5, .inl (cI, n_a_all_m5, .inl b_a_all_m5))]) (lv' := [(6, .int t0_226), (2, .int 0), (3, .int 0), (1, .int 0), (5, .int (b_a_all_m5 (Int32.toNatClampNeg f0_17_17))), (4, .int v4_17), (0, .ref h0)]) [0, 4, 5, 1, 2, 3] rfl (by decide) [0, 1, 2, 3, 4, 5, 6] rfl ?_
          exact L_247 q1_0_226 t0_226 r74 n2_226 r77 r75 r76 f3_19_226 hz_t0_226 cl_226 sl_226 C_226 S_226 h hC hS
    have L_206 : ∀ (q4_0_206 : Nat) (f3_17_206 : Int32) (f3_18_206 : Int32) (f3_19_206 : Int32) (n5_206 : Nat) (b5_206 : Nat → Int32) (cl_206 sl_206 C_206 S_206 : Nat), F_Mo_readExpression_206 known_h0 thrown_h0 wrong_h0 lastEnd_h0 least_h0 found_h0 size_m5 n_a_all_m5 b_a_all_m5 f0_17_17 f1_1_17 (F_Mo_readExpression_17 known_h0 thrown_h0 wrong_h0 lastEnd_h0 least_h0 found_h0 size_m5 n_a_all_m5 b_a_all_m5 n_m2 b_m2  k_17)  f3_17_206 f3_18_206 f3_19_206 n5_206 b5_206 = some ((ret, o_0_17, o_0_18, o_0_19, o_1_1, on_nq_1_0, ob_nq_1_0), C_206, S_206) → cl_206 + C_206 ≤ mc → sl_206 + S_206 ≤ ms → J (KxOf p l e { frames := 4, cells := mc, slots := ms, locals := 86 } s m [.ref h0].toArray below meth c D (gT cI cB cJ cS) [(h0, .inr (9, moF am known_h0 thrown_h0 wrong_h0 lastEnd_h0 at_h0 bad_h0 levels_h0 least_h0 found_h0)), ((am 20), .inr (8, [.ref a_all_m20, .int size_m20])), ((am 5), .inr (8, [.ref a_all_m5, .int size_m5])), (a_all_m5, .inl (cI, n_a_all_m5, .inl b_a_all_m5)), (a_all_m20, .inl (cI, n_a_all_m20, .inl b_a_all_m20)), ((am 2), .inl (cI, n_m2, .inl b_m2))] (fun v w => ∃ nq_1_0 : Nat, v = some (.int ret) ∧ zb ret ∧ w = [(h0, .inr (9, moF am known_h0 thrown_h0 wrong_h0 lastEnd_h0 o_0_17 o_0_18 o_0_19 least_h0 found_h0)), ((am 20), .inr (8, [.ref nq_1_0, .int o_1_1])), ((am 5), .inr (8, [.ref a_all_m5, .int size_m5])), (a_all_m5, .inl (cI, n_a_all_m5, .inl b_a_all_m5)), ((am 2), .inl (cI, n_m2, .inl b_m2)), (nq_1_0, .inl (cI, on_nq_1_0, .inl ob_nq_1_0))]) mc ms) prog_12_method_30_code 8 R_Mo 206 [(2, .int 0), (3, .int 0), (1, .int 0), (5, .int (b_a_all_m5 (Int32.toNatClampNeg f0_17_17))), (4, .int v4_17), (0, .ref h0)] [] [((am 2), .inl (cI, n_m2, .inl b_m2)), ((am 5), .inr (8, [.ref a_all_m5, .int size_m5])), (a_all_m5, .inl (cI, n_a_all_m5, .inl b_a_all_m5)), (h0, .inr (9, moF am known_h0 thrown_h0 wrong_h0 lastEnd_h0 f3_17_206 f3_18_206 f3_19_206 least_h0 found_h0)), ((am 20), .inr (8, [.ref q4_0_206, .int (((((f1_1_17 + 1) + 1) + 1) + 1) + 1)])), (q4_0_206, .inl (cI, n5_206, .inl b5_206))] cl_206 sl_206 := by
      clear h
      intro q4_0_206 f3_17_206 f3_18_206 f3_19_206 n5_206 b5_206 cl_206 sl_206 C_206 S_206 h hC hS
      unfold F_Mo_readExpression_206 at h
      refine j_iload d_Mo_readExpression_206 3 rfl ?_
      refine j_iconst (v := 2) d_Mo_readExpression_208 (by decide) ?_
      refine j_icmp_ne (tgt := 225) d_Mo_readExpression_209 (by decide) (fun c79 => ?_) (fun c79 => ?_)
      · replace h := it_f c79 h
        refine j_iconst (v := 0) d_Mo_readExpression_225 (by decide) ?_
        refine j_sub (w := [((am 2), .inl (cI, n_m2, .inl b_m2)), ((am 20), .inr (8, [.ref q4_0_206, .int (((((f1_1_17 + 1) + 1) + 1) + 1) + 1)])), (q4_0_206, .inl (cI, n5_206, .inl b5_206)), (h0, .inr (9, moF am known_h0 thrown_h0 wrong_h0 lastEnd_h0 f3_17_206 f3_18_206 f3_19_206 least_h0 found_h0)), ((am 5), .inr (8, [.ref a_all_m5, .int size_m5])), (a_all_m5, .inl (cI, n_a_all_m5, .inl b_a_all_m5))]) (lv' := [(2, .int 0), (3, .int 0), (1, .int 0), (5, .int (b_a_all_m5 (Int32.toNatClampNeg f0_17_17))), (4, .int v4_17), (0, .ref h0)]) [0, 4, 5, 3, 1, 2] rfl (by decide) [0, 1, 2, 3, 4, 5] rfl ?_
        exact L_226 q4_0_206 0 n5_206 b5_206 f3_17_206 f3_18_206 f3_19_206 zb0 cl_206 sl_206 C_206 S_206 h hC hS
      · replace h := it_t c79 h
        refine j_aload_n d_Mo_readExpression_212 rfl 5 rfl ?_
        replace h := bd_s h
        obtain ⟨_, k80, h⟩ := h
        refine j_callV (n := 0) (As := []) (rest := []) (wr := [((am 2), .inl (cI, n_m2, .inl b_m2)), ((am 20), .inr (8, [.ref q4_0_206, .int (((((f1_1_17 + 1) + 1) + 1) + 1) + 1)])), (q4_0_206, .inl (cI, n5_206, .inl b5_206))]) (c_Mo_kind l D cI cB cJ cS h0 am a_all_m5 known_h0 thrown_h0 wrong_h0 lastEnd_h0 f3_17_206 f3_18_206 f3_19_206 least_h0 found_h0 size_m5 n_a_all_m5 b_a_all_m5  k80) k_Mo_275 (by decide) ⟨Nat.le_of_ble_eq_true rfl, Nat.le_of_ble_eq_true rfl⟩ rfl 0 rfl [3, 1, 2] [0, 4, 5] rfl (by decide) rfl (by decide) (by decide) rfl rfl (Nat.le_of_ble_eq_true rfl) d_Mo_readExpression_213 ⟨show cl_206 + 0 ≤ mc by omega, show sl_206 + 0 ≤ ms by omega⟩ (fun v w hq => ?_)
        obtain ⟨rfl, rfl⟩ := hq
        refine j_norm (pc' := 216) (st' := [.int (b_a_all_m5 (Int32.toNatClampNeg f3_17_206))]) (ws' := [((am 2), .inl (cI, n_m2, .inl b_m2)), ((am 20), .inr (8, [.ref q4_0_206, .int (((((f1_1_17 + 1) + 1) + 1) + 1) + 1)])), (q4_0_206, .inl (cI, n5_206, .inl b5_206)), (h0, .inr (9, moF am known_h0 thrown_h0 wrong_h0 lastEnd_h0 f3_17_206 f3_18_206 f3_19_206 least_h0 found_h0)), ((am 5), .inr (8, [.ref a_all_m5, .int size_m5])), (a_all_m5, .inl (cI, n_a_all_m5, .inl b_a_all_m5))]) (cl' := cl_206) (sl' := sl_206) rfl rfl rfl rfl rfl rfl ?_
        refine j_bipush (v := 51) d_Mo_readExpression_216 (by decide) ?_
        refine j_icmp_ne (tgt := 225) d_Mo_readExpression_218 (by decide) (fun c81 => ?_) (fun c81 => ?_)
        · replace h := it_f c81 h
          refine j_iconst (v := 0) d_Mo_readExpression_225 (by decide) ?_
          refine j_sub (w := [((am 2), .inl (cI, n_m2, .inl b_m2)), ((am 20), .inr (8, [.ref q4_0_206, .int (((((f1_1_17 + 1) + 1) + 1) + 1) + 1)])), (q4_0_206, .inl (cI, n5_206, .inl b5_206)), (h0, .inr (9, moF am known_h0 thrown_h0 wrong_h0 lastEnd_h0 f3_17_206 f3_18_206 f3_19_206 least_h0 found_h0)), ((am 5), .inr (8, [.ref a_all_m5, .int size_m5])), (a_all_m5, .inl (cI, n_a_all_m5, .inl b_a_all_m5))]) (lv' := [(2, .int 0), (3, .int 0), (1, .int 0), (5, .int (b_a_all_m5 (Int32.toNatClampNeg f0_17_17))), (4, .int v4_17), (0, .ref h0)]) [0, 1, 2, 3, 4, 5] rfl (by decide) [0, 1, 2, 3, 4, 5] rfl ?_
          exact L_226 q4_0_206 0 n5_206 b5_206 f3_17_206 f3_18_206 f3_19_206 zb0 cl_206 sl_206 C_206 S_206 h hC hS
        · replace h := it_t c81 h
          refine j_iconst (v := 1) d_Mo_readExpression_221 (by decide) ?_
          refine j_goto (tgt := 226) d_Mo_readExpression_222 (by decide) ?_
          refine j_sub (w := [((am 2), .inl (cI, n_m2, .inl b_m2)), ((am 20), .inr (8, [.ref q4_0_206, .int (((((f1_1_17 + 1) + 1) + 1) + 1) + 1)])), (q4_0_206, .inl (cI, n5_206, .inl b5_206)), (h0, .inr (9, moF am known_h0 thrown_h0 wrong_h0 lastEnd_h0 f3_17_206 f3_18_206 f3_19_206 least_h0 found_h0)), ((am 5), .inr (8, [.ref a_all_m5, .int size_m5])), (a_all_m5, .inl (cI, n_a_all_m5, .inl b_a_all_m5))]) (lv' := [(2, .int 0), (3, .int 0), (1, .int 0), (5, .int (b_a_all_m5 (Int32.toNatClampNeg f0_17_17))), (4, .int v4_17), (0, .ref h0)]) [0, 1, 2, 3, 4, 5] rfl (by decide) [0, 1, 2, 3, 4, 5] rfl ?_
          exact L_226 q4_0_206 1 n5_206 b5_206 f3_17_206 f3_18_206 f3_19_206 zb1 cl_206 sl_206 C_206 S_206 h hC hS
    have L_155 : ∀ (t0_155 : Int32) (cl_155 sl_155 C_155 S_155 : Nat), F_Mo_readExpression_155 known_h0 thrown_h0 wrong_h0 lastEnd_h0 least_h0 found_h0 size_m5 n_a_all_m5 b_a_all_m5 v3_17 v1_17 f0_17_17 f0_18_17 f0_19_17 f1_1_17 n4_17 b4_17 (F_Mo_readExpression_17 known_h0 thrown_h0 wrong_h0 lastEnd_h0 least_h0 found_h0 size_m5 n_a_all_m5 b_a_all_m5 n_m2 b_m2  k_17)  t0_155 = some ((ret, o_0_17, o_0_18, o_0_19, o_1_1, on_nq_1_0, ob_nq_1_0), C_155, S_155) → cl_155 + C_155 ≤ mc → sl_155 + S_155 ≤ ms → J (KxOf p l e { frames := 4, cells := mc, slots := ms, locals := 86 } s m [.ref h0].toArray below meth c D (gT cI cB cJ cS) [(h0, .inr (9, moF am known_h0 thrown_h0 wrong_h0 lastEnd_h0 at_h0 bad_h0 levels_h0 least_h0 found_h0)), ((am 20), .inr (8, [.ref a_all_m20, .int size_m20])), ((am 5), .inr (8, [.ref a_all_m5, .int size_m5])), (a_all_m5, .inl (cI, n_a_all_m5, .inl b_a_all_m5)), (a_all_m20, .inl (cI, n_a_all_m20, .inl b_a_all_m20)), ((am 2), .inl (cI, n_m2, .inl b_m2))] (fun v w => ∃ nq_1_0 : Nat, v = some (.int ret) ∧ zb ret ∧ w = [(h0, .inr (9, moF am known_h0 thrown_h0 wrong_h0 lastEnd_h0 o_0_17 o_0_18 o_0_19 least_h0 found_h0)), ((am 20), .inr (8, [.ref nq_1_0, .int o_1_1])), ((am 5), .inr (8, [.ref a_all_m5, .int size_m5])), (a_all_m5, .inl (cI, n_a_all_m5, .inl b_a_all_m5)), ((am 2), .inl (cI, n_m2, .inl b_m2)), (nq_1_0, .inl (cI, on_nq_1_0, .inl ob_nq_1_0))]) mc ms) prog_12_method_30_code 8 R_Mo 155 [(5, .int (b_a_all_m5 (Int32.toNatClampNeg f0_17_17))), (4, .int v4_17), (3, .int v3_17), (2, .int v2_17), (1, .int v1_17), (0, .ref h0)] [.int t0_155, .ref h0] [((am 20), .inr (8, [.ref q1_0_17, .int f1_1_17])), (q1_0_17, .inl (cI, n4_17, .inl b4_17)), ((am 2), .inl (cI, n_m2, .inl b_m2)), (h0, .inr (9, moF am known_h0 thrown_h0 wrong_h0 lastEnd_h0 f0_17_17 f0_18_17 f0_19_17 least_h0 found_h0)), ((am 5), .inr (8, [.ref a_all_m5, .int size_m5])), (a_all_m5, .inl (cI, n_a_all_m5, .inl b_a_all_m5))] cl_155 sl_155 := by
      clear h
      intro t0_155 cl_155 sl_155 C_155 S_155 h hC hS
      unfold F_Mo_readExpression_155 at h
      refine j_put (ws' := [((am 20), .inr (8, [.ref q1_0_17, .int f1_1_17])), (q1_0_17, .inl (cI, n4_17, .inl b4_17)), ((am 2), .inl (cI, n_m2, .inl b_m2)), (h0, .inr (9, moF am known_h0 thrown_h0 wrong_h0 lastEnd_h0 t0_155 f0_18_17 f0_19_17 least_h0 found_h0)), ((am 5), .inr (8, [.ref a_all_m5, .int size_m5])), (a_all_m5, .inl (cI, n_a_all_m5, .inl b_a_all_m5))]) ig_Mo tk_Mo nm_Mo rfl 3 rfl 17 (by decide) rfl m_1130 rfl (tk_Mo 17 (by decide)) rfl rfl (Nat.le_of_ble_eq_true rfl) d_Mo_readExpression_155 rfl ?_
      refine j_aload_n d_Mo_readExpression_158 rfl 5 rfl ?_
      refine j_aload_n d_Mo_readExpression_159 rfl 5 rfl ?_
      replace h := bd_s h
      obtain ⟨_, k82, h⟩ := h
      refine j_callV (n := 0) (As := []) (rest := [.ref h0]) (wr := [((am 20), .inr (8, [.ref q1_0_17, .int f1_1_17])), (q1_0_17, .inl (cI, n4_17, .inl b4_17)), ((am 2), .inl (cI, n_m2, .inl b_m2))]) (c_Mo_kind l D cI cB cJ cS h0 am a_all_m5 known_h0 thrown_h0 wrong_h0 lastEnd_h0 t0_155 f0_18_17 f0_19_17 least_h0 found_h0 size_m5 n_a_all_m5 b_a_all_m5  k82) k_Mo_275 (by decide) ⟨Nat.le_of_ble_eq_true rfl, Nat.le_of_ble_eq_true rfl⟩ rfl 0 rfl [3, 4, 5] [0, 1, 2] rfl (by decide) rfl (by decide) (by decide) rfl rfl (Nat.le_of_ble_eq_true rfl) d_Mo_readExpression_160 ⟨show cl_155 + 0 ≤ mc by omega, show sl_155 + 0 ≤ ms by omega⟩ (fun v w hq => ?_)
      obtain ⟨rfl, rfl⟩ := hq
      refine j_norm (pc' := 163) (st' := [.int (b_a_all_m5 (Int32.toNatClampNeg t0_155)), .ref h0]) (ws' := [((am 20), .inr (8, [.ref q1_0_17, .int f1_1_17])), (q1_0_17, .inl (cI, n4_17, .inl b4_17)), ((am 2), .inl (cI, n_m2, .inl b_m2)), (h0, .inr (9, moF am known_h0 thrown_h0 wrong_h0 lastEnd_h0 t0_155 f0_18_17 f0_19_17 least_h0 found_h0)), ((am 5), .inr (8, [.ref a_all_m5, .int size_m5])), (a_all_m5, .inl (cI, n_a_all_m5, .inl b_a_all_m5))]) (cl' := cl_155) (sl' := sl_155) rfl rfl rfl rfl rfl rfl ?_
      replace h := bd_s h
      obtain ⟨⟨r83, r84, r85, r86⟩, k88, h⟩ := h
      refine j_callV (n := 1) (As := [.int (b_a_all_m5 (Int32.toNatClampNeg t0_155))]) (rest := []) (wr := [((am 20), .inr (8, [.ref q1_0_17, .int f1_1_17])), (q1_0_17, .inl (cI, n4_17, .inl b4_17)), ((am 2), .inl (cI, n_m2, .inl b_m2))]) (c_Mo_enter l D cI cB cJ cS h0 am a_all_m5 (b_a_all_m5 (Int32.toNatClampNeg t0_155)) known_h0 thrown_h0 wrong_h0 lastEnd_h0 t0_155 f0_18_17 f0_19_17 least_h0 found_h0 size_m5 n_a_all_m5 b_a_all_m5  r83 r84 r85 r86 k88) k_Mo_297 (by decide) ⟨Nat.le_of_ble_eq_true rfl, Nat.le_of_ble_eq_true rfl⟩ rfl 0 rfl [3, 4, 5] [0, 1, 2] rfl (by decide) rfl (by decide) (by decide) rfl rfl (Nat.le_of_ble_eq_true rfl) d_Mo_readExpression_163 ⟨show cl_155 + 0 ≤ mc by omega, show sl_155 + 0 ≤ ms by omega⟩ (fun v w hq => ?_)
      obtain ⟨rfl, z87, rfl⟩ := hq
      refine j_norm (pc' := 166) (st' := [.int r83]) (ws' := [((am 20), .inr (8, [.ref q1_0_17, .int f1_1_17])), (q1_0_17, .inl (cI, n4_17, .inl b4_17)), ((am 2), .inl (cI, n_m2, .inl b_m2)), (h0, .inr (9, moF am known_h0 thrown_h0 wrong_h0 lastEnd_h0 r84 r85 r86 least_h0 found_h0)), ((am 5), .inr (8, [.ref a_all_m5, .int size_m5])), (a_all_m5, .inl (cI, n_a_all_m5, .inl b_a_all_m5))]) (cl' := cl_155) (sl' := sl_155) rfl rfl rfl rfl rfl rfl ?_
      refine j_if_ne (tgt := 171) d_Mo_readExpression_166 (by decide) (fun c89 => ?_) (fun c89 => ?_)
      · replace h := it_f c89 h
        refine j_aload_n d_Mo_readExpression_171 rfl 5 rfl ?_
        refine j_iload d_Mo_readExpression_172 0 rfl ?_
        refine j_iload_n d_Mo_readExpression_174 rfl 2 rfl ?_
        replace h := bw_s h
        obtain ⟨⟨r90, r91⟩, C93, S94, C95, S96, k97, h, e1, e2⟩ := h
        replace hC : cl_155 + C93 + C95 ≤ mc := by omega
        replace hS : sl_155 + S94 + S96 ≤ ms := by omega
        clear e1 e2
        refine j_callV (n := 2) (As := [.int (b_a_all_m5 (Int32.toNatClampNeg f0_17_17)), .int v3_17]) (rest := []) (wr := [((am 2), .inl (cI, n_m2, .inl b_m2)), ((am 5), .inr (8, [.ref a_all_m5, .int size_m5])), (a_all_m5, .inl (cI, n_a_all_m5, .inl b_a_all_m5))]) (c_Mo_push l D cI cB cJ cS h0 am q1_0_17 (b_a_all_m5 (Int32.toNatClampNeg f0_17_17)) v3_17 known_h0 thrown_h0 wrong_h0 lastEnd_h0 r84 r85 r86 least_h0 found_h0 f1_1_17 n4_17 b4_17  r90 r91 C93 S94 k97) k_Mo_300 (by decide) ⟨Nat.le_of_ble_eq_true rfl, Nat.le_of_ble_eq_true rfl⟩ rfl 0 rfl [3, 0, 1] [2, 4, 5] rfl (by decide) rfl (by decide) (by decide) rfl rfl (Nat.le_of_ble_eq_true rfl) d_Mo_readExpression_175 ⟨show cl_155 + C93 ≤ mc by omega, show sl_155 + S94 ≤ ms by omega⟩ (fun v w hq => ?_)
        obtain ⟨q92, rfl, rfl⟩ := hq
        refine j_norm (pc' := 178) (st' := []) (ws' := [((am 2), .inl (cI, n_m2, .inl b_m2)), ((am 5), .inr (8, [.ref a_all_m5, .int size_m5])), (a_all_m5, .inl (cI, n_a_all_m5, .inl b_a_all_m5)), (h0, .inr (9, moF am known_h0 thrown_h0 wrong_h0 lastEnd_h0 r84 r85 r86 least_h0 found_h0)), ((am 20), .inr (8, [.ref q92, .int (((((f1_1_17 + 1) + 1) + 1) + 1) + 1)])), (q92, .inl (cI, r90, .inl r91))]) (cl' := cl_155 + C93) (sl' := sl_155 + S94) rfl rfl rfl rfl rfl rfl ?_
        refine j_aload_n d_Mo_readExpression_178 rfl 5 rfl ?_
        refine j_iconst (v := 3) d_Mo_readExpression_179 (by decide) ?_
        refine j_iload_n d_Mo_readExpression_180 rfl 4 rfl ?_
        replace h := bd_s h
        obtain ⟨_, k98, h⟩ := h
        refine j_callV (n := 2) (As := [.int 3, .int v1_17]) (rest := []) (wr := [((am 2), .inl (cI, n_m2, .inl b_m2)), ((am 5), .inr (8, [.ref a_all_m5, .int size_m5])), (a_all_m5, .inl (cI, n_a_all_m5, .inl b_a_all_m5))]) (c_Mo_setTop l D cI cB cJ cS h0 am q92 3 v1_17 known_h0 thrown_h0 wrong_h0 lastEnd_h0 r84 r85 r86 least_h0 found_h0 (((((f1_1_17 + 1) + 1) + 1) + 1) + 1) r90 r91  k98) k_Mo_304 (by decide) ⟨Nat.le_of_ble_eq_true rfl, Nat.le_of_ble_eq_true rfl⟩ rfl 0 rfl [3, 4, 5] [0, 1, 2] rfl (by decide) rfl (by decide) (by decide) rfl rfl (Nat.le_of_ble_eq_true rfl) d_Mo_readExpression_181 ⟨show cl_155 + C93 + 0 ≤ mc by omega, show sl_155 + S94 + 0 ≤ ms by omega⟩ (fun v w hq => ?_)
        obtain ⟨rfl, rfl⟩ := hq
        refine j_norm (pc' := 184) (st' := []) (ws' := [((am 2), .inl (cI, n_m2, .inl b_m2)), ((am 5), .inr (8, [.ref a_all_m5, .int size_m5])), (a_all_m5, .inl (cI, n_a_all_m5, .inl b_a_all_m5)), (h0, .inr (9, moF am known_h0 thrown_h0 wrong_h0 lastEnd_h0 r84 r85 r86 least_h0 found_h0)), ((am 20), .inr (8, [.ref q92, .int (((((f1_1_17 + 1) + 1) + 1) + 1) + 1)])), (q92, .inl (cI, r90, .inl (upd r91 (Int32.toNatClampNeg (((((((f1_1_17 + 1) + 1) + 1) + 1) + 1) - 5) + 3)) v1_17)))]) (cl' := cl_155 + C93) (sl' := sl_155 + S94) rfl rfl rfl rfl rfl rfl ?_
        refine j_iconst (v := 0) d_Mo_readExpression_184 (by decide) ?_
        refine j_istore_n (lv' := [(1, .int 0), (5, .int (b_a_all_m5 (Int32.toNatClampNeg f0_17_17))), (4, .int v4_17), (3, .int v3_17), (2, .int v2_17), (0, .ref h0)]) d_Mo_readExpression_185 rfl (by decide) rfl ?_
        refine j_iconst (v := 0) d_Mo_readExpression_186 (by decide) ?_
        refine j_istore_n (lv' := [(3, .int 0), (1, .int 0), (5, .int (b_a_all_m5 (Int32.toNatClampNeg f0_17_17))), (4, .int v4_17), (2, .int v2_17), (0, .ref h0)]) d_Mo_readExpression_187 rfl (by decide) rfl ?_
        refine j_iconst (v := 0) d_Mo_readExpression_188 (by decide) ?_
        refine j_istore_n (lv' := [(2, .int 0), (3, .int 0), (1, .int 0), (5, .int (b_a_all_m5 (Int32.toNatClampNeg f0_17_17))), (4, .int v4_17), (0, .ref h0)]) d_Mo_readExpression_189 rfl (by decide) rfl ?_
        refine j_iload d_Mo_readExpression_190 3 rfl ?_
        refine j_bipush (v := 52) d_Mo_readExpression_192 (by decide) ?_
        refine j_icmp_ne (tgt := 206) d_Mo_readExpression_194 (by decide) (fun c99 => ?_) (fun c99 => ?_)
        · replace h := it_f c99 h
          refine j_sub (w := [((am 2), .inl (cI, n_m2, .inl b_m2)), ((am 5), .inr (8, [.ref a_all_m5, .int size_m5])), (a_all_m5, .inl (cI, n_a_all_m5, .inl b_a_all_m5)), (h0, .inr (9, moF am known_h0 thrown_h0 wrong_h0 lastEnd_h0 r84 r85 r86 least_h0 found_h0)), ((am 20), .inr (8, [.ref q92, .int (((((f1_1_17 + 1) + 1) + 1) + 1) + 1)])), (q92, .inl (cI, r90, .inl (upd r91 (Int32.toNatClampNeg (((((((f1_1_17 + 1) + 1) + 1) + 1) + 1) - 5) + 3)) v1_17)))]) (lv' := [(2, .int 0), (3, .int 0), (1, .int 0), (5, .int (b_a_all_m5 (Int32.toNatClampNeg f0_17_17))), (4, .int v4_17), (0, .ref h0)]) [0, 1, 2, 3, 4, 5] rfl (by decide) [0, 1, 2, 3, 4, 5] rfl ?_
          exact L_206 q92 r84 r85 r86 r90 (upd r91 (Int32.toNatClampNeg (((((((f1_1_17 + 1) + 1) + 1) + 1) + 1) - 5) + 3)) v1_17) (cl_155 + C93) (sl_155 + S94) C95 S96 h hC hS
        · replace h := it_t c99 h
          refine j_aload_n d_Mo_readExpression_197 rfl 5 rfl ?_
          replace h := bd_s h
          obtain ⟨_, k100, h⟩ := h
          refine j_callV (n := 0) (As := []) (rest := []) (wr := [((am 2), .inl (cI, n_m2, .inl b_m2)), ((am 20), .inr (8, [.ref q92, .int (((((f1_1_17 + 1) + 1) + 1) + 1) + 1)])), (q92, .inl (cI, r90, .inl (upd r91 (Int32.toNatClampNeg (((((((f1_1_17 + 1) + 1) + 1) + 1) + 1) - 5) + 3)) v1_17)))]) (c_Mo_kind l D cI cB cJ cS h0 am a_all_m5 known_h0 thrown_h0 wrong_h0 lastEnd_h0 r84 r85 r86 least_h0 found_h0 size_m5 n_a_all_m5 b_a_all_m5  k100) k_Mo_275 (by decide) ⟨Nat.le_of_ble_eq_true rfl, Nat.le_of_ble_eq_true rfl⟩ rfl 0 rfl [3, 1, 2] [0, 4, 5] rfl (by decide) rfl (by decide) (by decide) rfl rfl (Nat.le_of_ble_eq_true rfl) d_Mo_readExpression_198 ⟨show cl_155 + C93 + 0 ≤ mc by omega, show sl_155 + S94 + 0 ≤ ms by omega⟩ (fun v w hq => ?_)
          obtain ⟨rfl, rfl⟩ := hq
          refine j_norm (pc' := 201) (st' := [.int (b_a_all_m5 (Int32.toNatClampNeg r84))]) (ws' := [((am 2), .inl (cI, n_m2, .inl b_m2)), ((am 20), .inr (8, [.ref q92, .int (((((f1_1_17 + 1) + 1) + 1) + 1) + 1)])), (q92, .inl (cI, r90, .inl (upd r91 (Int32.toNatClampNeg (((((((f1_1_17 + 1) + 1) + 1) + 1) + 1) - 5) + 3)) v1_17))), (h0, .inr (9, moF am known_h0 thrown_h0 wrong_h0 lastEnd_h0 r84 r85 r86 least_h0 found_h0)), ((am 5), .inr (8, [.ref a_all_m5, .int size_m5])), (a_all_m5, .inl (cI, n_a_all_m5, .inl b_a_all_m5))]) (cl' := cl_155 + C93) (sl' := sl_155 + S94) rfl rfl rfl rfl rfl rfl ?_
          refine j_bipush (v := 53) d_Mo_readExpression_201 (by decide) ?_
          refine j_icmp_eq (tgt := 221) d_Mo_readExpression_203 (by decide) (fun c101 => ?_) (fun c101 => ?_)
          · replace h := it_t c101 h
            refine j_iconst (v := 1) d_Mo_readExpression_221 (by decide) ?_
            refine j_goto (tgt := 226) d_Mo_readExpression_222 (by decide) ?_
            refine j_sub (w := [((am 2), .inl (cI, n_m2, .inl b_m2)), ((am 20), .inr (8, [.ref q92, .int (((((f1_1_17 + 1) + 1) + 1) + 1) + 1)])), (q92, .inl (cI, r90, .inl (upd r91 (Int32.toNatClampNeg (((((((f1_1_17 + 1) + 1) + 1) + 1) + 1) - 5) + 3)) v1_17))), (h0, .inr (9, moF am known_h0 thrown_h0 wrong_h0 lastEnd_h0 r84 r85 r86 least_h0 found_h0)), ((am 5), .inr (8, [.ref a_all_m5, .int size_m5])), (a_all_m5, .inl (cI, n_a_all_m5, .inl b_a_all_m5))]) (lv' := [(2, .int 0), (3, .int 0), (1, .int 0), (5, .int (b_a_all_m5 (Int32.toNatClampNeg f0_17_17))), (4, .int v4_17), (0, .ref h0)]) [0, 1, 2, 3, 4, 5] rfl (by decide) [0, 1, 2, 3, 4, 5] rfl ?_
            exact L_226 q92 1 r90 (upd r91 (Int32.toNatClampNeg (((((((f1_1_17 + 1) + 1) + 1) + 1) + 1) - 5) + 3)) v1_17) r84 r85 r86 zb1 (cl_155 + C93) (sl_155 + S94) C95 S96 h hC hS
          · replace h := it_f c101 h
            refine j_sub (w := [((am 2), .inl (cI, n_m2, .inl b_m2)), ((am 5), .inr (8, [.ref a_all_m5, .int size_m5])), (a_all_m5, .inl (cI, n_a_all_m5, .inl b_a_all_m5)), (h0, .inr (9, moF am known_h0 thrown_h0 wrong_h0 lastEnd_h0 r84 r85 r86 least_h0 found_h0)), ((am 20), .inr (8, [.ref q92, .int (((((f1_1_17 + 1) + 1) + 1) + 1) + 1)])), (q92, .inl (cI, r90, .inl (upd r91 (Int32.toNatClampNeg (((((((f1_1_17 + 1) + 1) + 1) + 1) + 1) - 5) + 3)) v1_17)))]) (lv' := [(2, .int 0), (3, .int 0), (1, .int 0), (5, .int (b_a_all_m5 (Int32.toNatClampNeg f0_17_17))), (4, .int v4_17), (0, .ref h0)]) [0, 4, 5, 3, 1, 2] rfl (by decide) [0, 1, 2, 3, 4, 5] rfl ?_
            exact L_206 q92 r84 r85 r86 r90 (upd r91 (Int32.toNatClampNeg (((((((f1_1_17 + 1) + 1) + 1) + 1) + 1) - 5) + 3)) v1_17) (cl_155 + C93) (sl_155 + S94) C95 S96 h hC hS
      · replace h := it_t c89 h
        refine j_iconst (v := 0) d_Mo_readExpression_169 (by decide) ?_
        replace h := lf_s h
        obtain ⟨h, e1, e2⟩ := h
        replace h := Prod.mk.inj h
        obtain ⟨h9, h⟩ := h
        subst h9
        replace h := Prod.mk.inj h
        obtain ⟨h9, h⟩ := h
        subst h9
        replace h := Prod.mk.inj h
        obtain ⟨h9, h⟩ := h
        subst h9
        replace h := Prod.mk.inj h
        obtain ⟨h9, h⟩ := h
        subst h9
        replace h := Prod.mk.inj h
        obtain ⟨h9, h⟩ := h
        subst h9
        replace h := Prod.mk.inj h
        obtain ⟨h9, h⟩ := h
        subst h9
        subst h
        refine j_widen (cl' := mc) (sl' := ms) (by omega) (by omega) ?_
        exact j_zret (w := [(h0, .inr (9, moF am known_h0 thrown_h0 wrong_h0 lastEnd_h0 r84 r85 r86 least_h0 found_h0)), ((am 20), .inr (8, [.ref q1_0_17, .int f1_1_17])), ((am 5), .inr (8, [.ref a_all_m5, .int size_m5])), (a_all_m5, .inl (cI, n_a_all_m5, .inl b_a_all_m5)), ((am 2), .inl (cI, n_m2, .inl b_m2)), (q1_0_17, .inl (cI, n4_17, .inl b4_17))]) hr (zb_n zb0) d_Mo_readExpression_170 [3, 0, 4, 5, 2, 1] rfl (by decide) ⟨q1_0_17, rfl, zb0, rfl⟩
    have L_135 : ∀ (cl_135 sl_135 C_135 S_135 : Nat), F_Mo_readExpression_135 known_h0 thrown_h0 wrong_h0 lastEnd_h0 least_h0 found_h0 size_m5 n_a_all_m5 b_a_all_m5 v3_17 v1_17 f0_17_17 f0_18_17 f0_19_17 f1_1_17 n4_17 b4_17 (F_Mo_readExpression_17 known_h0 thrown_h0 wrong_h0 lastEnd_h0 least_h0 found_h0 size_m5 n_a_all_m5 b_a_all_m5 n_m2 b_m2  k_17)   = some ((ret, o_0_17, o_0_18, o_0_19, o_1_1, on_nq_1_0, ob_nq_1_0), C_135, S_135) → cl_135 + C_135 ≤ mc → sl_135 + S_135 ≤ ms → J (KxOf p l e { frames := 4, cells := mc, slots := ms, locals := 86 } s m [.ref h0].toArray below meth c D (gT cI cB cJ cS) [(h0, .inr (9, moF am known_h0 thrown_h0 wrong_h0 lastEnd_h0 at_h0 bad_h0 levels_h0 least_h0 found_h0)), ((am 20), .inr (8, [.ref a_all_m20, .int size_m20])), ((am 5), .inr (8, [.ref a_all_m5, .int size_m5])), (a_all_m5, .inl (cI, n_a_all_m5, .inl b_a_all_m5)), (a_all_m20, .inl (cI, n_a_all_m20, .inl b_a_all_m20)), ((am 2), .inl (cI, n_m2, .inl b_m2))] (fun v w => ∃ nq_1_0 : Nat, v = some (.int ret) ∧ zb ret ∧ w = [(h0, .inr (9, moF am known_h0 thrown_h0 wrong_h0 lastEnd_h0 o_0_17 o_0_18 o_0_19 least_h0 found_h0)), ((am 20), .inr (8, [.ref nq_1_0, .int o_1_1])), ((am 5), .inr (8, [.ref a_all_m5, .int size_m5])), (a_all_m5, .inl (cI, n_a_all_m5, .inl b_a_all_m5)), ((am 2), .inl (cI, n_m2, .inl b_m2)), (nq_1_0, .inl (cI, on_nq_1_0, .inl ob_nq_1_0))]) mc ms) prog_12_method_30_code 8 R_Mo 135 [(5, .int (b_a_all_m5 (Int32.toNatClampNeg f0_17_17))), (4, .int v4_17), (3, .int v3_17), (2, .int v2_17), (1, .int v1_17), (0, .ref h0)] [] [((am 20), .inr (8, [.ref q1_0_17, .int f1_1_17])), (q1_0_17, .inl (cI, n4_17, .inl b4_17)), ((am 2), .inl (cI, n_m2, .inl b_m2)), (h0, .inr (9, moF am known_h0 thrown_h0 wrong_h0 lastEnd_h0 f0_17_17 f0_18_17 f0_19_17 least_h0 found_h0)), ((am 5), .inr (8, [.ref a_all_m5, .int size_m5])), (a_all_m5, .inl (cI, n_a_all_m5, .inl b_a_all_m5))] cl_135 sl_135 := by
      clear h
      intro  cl_135 sl_135 C_135 S_135 h hC hS
      unfold F_Mo_readExpression_135 at h
      refine j_aload_n d_Mo_readExpression_135 rfl 5 rfl ?_
      refine j_iload d_Mo_readExpression_136 0 rfl ?_
      refine j_iconst (v := 2) d_Mo_readExpression_138 (by decide) ?_
      refine j_icmp_ne (tgt := 151) d_Mo_readExpression_139 (by decide) (fun c102 => ?_) (fun c102 => ?_)
      · replace h := it_f c102 h
        refine j_aload_n d_Mo_readExpression_151 rfl 5 rfl ?_
        refine j_get ig_Mo rfl 3 rfl 17 (by decide) rfl m_1130 rfl d_Mo_readExpression_152 ?_
        refine j_sub (w := [((am 20), .inr (8, [.ref q1_0_17, .int f1_1_17])), (q1_0_17, .inl (cI, n4_17, .inl b4_17)), ((am 2), .inl (cI, n_m2, .inl b_m2)), (h0, .inr (9, moF am known_h0 thrown_h0 wrong_h0 lastEnd_h0 f0_17_17 f0_18_17 f0_19_17 least_h0 found_h0)), ((am 5), .inr (8, [.ref a_all_m5, .int size_m5])), (a_all_m5, .inl (cI, n_a_all_m5, .inl b_a_all_m5))]) (lv' := [(5, .int (b_a_all_m5 (Int32.toNatClampNeg f0_17_17))), (4, .int v4_17), (3, .int v3_17), (2, .int v2_17), (1, .int v1_17), (0, .ref h0)]) [0, 1, 2, 3, 4, 5] rfl (by decide) [0, 1, 2, 3, 4, 5] rfl ?_
        exact L_155 f0_17_17 cl_135 sl_135 C_135 S_135 h hC hS
      · replace h := it_t c102 h
        refine j_aload_n d_Mo_readExpression_142 rfl 5 rfl ?_
        refine j_get ig_Mo rfl 3 rfl 17 (by decide) rfl m_1130 rfl d_Mo_readExpression_143 ?_
        refine j_iconst (v := 1) d_Mo_readExpression_146 (by decide) ?_
        refine j_iadd d_Mo_readExpression_147 ?_
        refine j_goto (tgt := 155) d_Mo_readExpression_148 (by decide) ?_
        refine j_sub (w := [((am 20), .inr (8, [.ref q1_0_17, .int f1_1_17])), (q1_0_17, .inl (cI, n4_17, .inl b4_17)), ((am 2), .inl (cI, n_m2, .inl b_m2)), (h0, .inr (9, moF am known_h0 thrown_h0 wrong_h0 lastEnd_h0 f0_17_17 f0_18_17 f0_19_17 least_h0 found_h0)), ((am 5), .inr (8, [.ref a_all_m5, .int size_m5])), (a_all_m5, .inl (cI, n_a_all_m5, .inl b_a_all_m5))]) (lv' := [(5, .int (b_a_all_m5 (Int32.toNatClampNeg f0_17_17))), (4, .int v4_17), (3, .int v3_17), (2, .int v2_17), (1, .int v1_17), (0, .ref h0)]) [0, 1, 2, 3, 4, 5] rfl (by decide) [0, 1, 2, 3, 4, 5] rfl ?_
        exact L_155 (f0_17_17 + 1) cl_135 sl_135 C_135 S_135 h hC hS
    have L_97 : ∀ (cl_97 sl_97 C_97 S_97 : Nat), F_Mo_readExpression_97 known_h0 thrown_h0 wrong_h0 lastEnd_h0 least_h0 found_h0 size_m5 n_a_all_m5 b_a_all_m5 v3_17 v1_17 f0_17_17 f0_18_17 f0_19_17 f1_1_17 n4_17 b4_17 (F_Mo_readExpression_17 known_h0 thrown_h0 wrong_h0 lastEnd_h0 least_h0 found_h0 size_m5 n_a_all_m5 b_a_all_m5 n_m2 b_m2  k_17)   = some ((ret, o_0_17, o_0_18, o_0_19, o_1_1, on_nq_1_0, ob_nq_1_0), C_97, S_97) → cl_97 + C_97 ≤ mc → sl_97 + S_97 ≤ ms → J (KxOf p l e { frames := 4, cells := mc, slots := ms, locals := 86 } s m [.ref h0].toArray below meth c D (gT cI cB cJ cS) [(h0, .inr (9, moF am known_h0 thrown_h0 wrong_h0 lastEnd_h0 at_h0 bad_h0 levels_h0 least_h0 found_h0)), ((am 20), .inr (8, [.ref a_all_m20, .int size_m20])), ((am 5), .inr (8, [.ref a_all_m5, .int size_m5])), (a_all_m5, .inl (cI, n_a_all_m5, .inl b_a_all_m5)), (a_all_m20, .inl (cI, n_a_all_m20, .inl b_a_all_m20)), ((am 2), .inl (cI, n_m2, .inl b_m2))] (fun v w => ∃ nq_1_0 : Nat, v = some (.int ret) ∧ zb ret ∧ w = [(h0, .inr (9, moF am known_h0 thrown_h0 wrong_h0 lastEnd_h0 o_0_17 o_0_18 o_0_19 least_h0 found_h0)), ((am 20), .inr (8, [.ref nq_1_0, .int o_1_1])), ((am 5), .inr (8, [.ref a_all_m5, .int size_m5])), (a_all_m5, .inl (cI, n_a_all_m5, .inl b_a_all_m5)), ((am 2), .inl (cI, n_m2, .inl b_m2)), (nq_1_0, .inl (cI, on_nq_1_0, .inl ob_nq_1_0))]) mc ms) prog_12_method_30_code 8 R_Mo 97 [(5, .int (b_a_all_m5 (Int32.toNatClampNeg f0_17_17))), (4, .int v4_17), (3, .int v3_17), (2, .int v2_17), (1, .int v1_17), (0, .ref h0)] [] [((am 20), .inr (8, [.ref q1_0_17, .int f1_1_17])), (q1_0_17, .inl (cI, n4_17, .inl b4_17)), ((am 2), .inl (cI, n_m2, .inl b_m2)), (h0, .inr (9, moF am known_h0 thrown_h0 wrong_h0 lastEnd_h0 f0_17_17 f0_18_17 f0_19_17 least_h0 found_h0)), ((am 5), .inr (8, [.ref a_all_m5, .int size_m5])), (a_all_m5, .inl (cI, n_a_all_m5, .inl b_a_all_m5))] cl_97 sl_97 := by
      clear h
      intro  cl_97 sl_97 C_97 S_97 h hC hS
      unfold F_Mo_readExpression_97 at h
      refine j_iload d_Mo_readExpression_97 0 rfl ?_
      refine j_bipush (v := 50) d_Mo_readExpression_99 (by decide) ?_
      refine j_icmp_eq (tgt := 135) d_Mo_readExpression_101 (by decide) (fun c103 => ?_) (fun c103 => ?_)
      · replace h := it_t c103 h
        refine j_sub (w := [((am 20), .inr (8, [.ref q1_0_17, .int f1_1_17])), (q1_0_17, .inl (cI, n4_17, .inl b4_17)), ((am 2), .inl (cI, n_m2, .inl b_m2)), (h0, .inr (9, moF am known_h0 thrown_h0 wrong_h0 lastEnd_h0 f0_17_17 f0_18_17 f0_19_17 least_h0 found_h0)), ((am 5), .inr (8, [.ref a_all_m5, .int size_m5])), (a_all_m5, .inl (cI, n_a_all_m5, .inl b_a_all_m5))]) (lv' := [(5, .int (b_a_all_m5 (Int32.toNatClampNeg f0_17_17))), (4, .int v4_17), (3, .int v3_17), (2, .int v2_17), (1, .int v1_17), (0, .ref h0)]) [0, 1, 2, 3, 4, 5] rfl (by decide) [0, 1, 2, 3, 4, 5] rfl ?_
        exact L_135  cl_97 sl_97 C_97 S_97 h hC hS
      · replace h := it_f c103 h
        refine j_iload d_Mo_readExpression_104 0 rfl ?_
        refine j_bipush (v := 52) d_Mo_readExpression_106 (by decide) ?_
        refine j_icmp_eq (tgt := 135) d_Mo_readExpression_108 (by decide) (fun c104 => ?_) (fun c104 => ?_)
        · replace h := it_t c104 h
          refine j_sub (w := [((am 20), .inr (8, [.ref q1_0_17, .int f1_1_17])), (q1_0_17, .inl (cI, n4_17, .inl b4_17)), ((am 2), .inl (cI, n_m2, .inl b_m2)), (h0, .inr (9, moF am known_h0 thrown_h0 wrong_h0 lastEnd_h0 f0_17_17 f0_18_17 f0_19_17 least_h0 found_h0)), ((am 5), .inr (8, [.ref a_all_m5, .int size_m5])), (a_all_m5, .inl (cI, n_a_all_m5, .inl b_a_all_m5))]) (lv' := [(5, .int (b_a_all_m5 (Int32.toNatClampNeg f0_17_17))), (4, .int v4_17), (3, .int v3_17), (2, .int v2_17), (1, .int v1_17), (0, .ref h0)]) [0, 1, 2, 3, 4, 5] rfl (by decide) [0, 1, 2, 3, 4, 5] rfl ?_
          exact L_135  cl_97 sl_97 C_97 S_97 h hC hS
        · replace h := it_f c104 h
          refine j_iload d_Mo_readExpression_111 0 rfl ?_
          refine j_iconst (v := 2) d_Mo_readExpression_113 (by decide) ?_
          refine j_icmp_ne (tgt := 288) d_Mo_readExpression_114 (by decide) (fun c105 => ?_) (fun c105 => ?_)
          · replace h := it_f c105 h
            refine j_sub (w := [((am 20), .inr (8, [.ref q1_0_17, .int f1_1_17])), (q1_0_17, .inl (cI, n4_17, .inl b4_17)), ((am 2), .inl (cI, n_m2, .inl b_m2)), (h0, .inr (9, moF am known_h0 thrown_h0 wrong_h0 lastEnd_h0 f0_17_17 f0_18_17 f0_19_17 least_h0 found_h0)), ((am 5), .inr (8, [.ref a_all_m5, .int size_m5])), (a_all_m5, .inl (cI, n_a_all_m5, .inl b_a_all_m5))]) (lv' := [(5, .int (b_a_all_m5 (Int32.toNatClampNeg f0_17_17))), (4, .int v4_17), (3, .int v3_17), (2, .int v2_17), (1, .int v1_17), (0, .ref h0)]) [0, 1, 2, 3, 4, 5] rfl (by decide) [0, 1, 2, 3, 4, 5] rfl ?_
            exact L_288  cl_97 sl_97 C_97 S_97 h hC hS
          · replace h := it_t c105 h
            refine j_aload_n d_Mo_readExpression_117 rfl 5 rfl ?_
            refine j_get ig_Mo rfl 3 rfl 5 (by decide) rfl m_1118 rfl d_Mo_readExpression_118 ?_
            refine j_aload_n d_Mo_readExpression_121 rfl 5 rfl ?_
            refine j_get ig_Mo rfl 3 rfl 17 (by decide) rfl m_1130 rfl d_Mo_readExpression_122 ?_
            refine j_iconst (v := 1) d_Mo_readExpression_125 (by decide) ?_
            refine j_iadd d_Mo_readExpression_126 ?_
            replace h := bd_s h
            obtain ⟨_, k106, h⟩ := h
            refine j_callV (n := 1) (As := [.int (f0_17_17 + 1)]) (rest := []) (wr := [((am 20), .inr (8, [.ref q1_0_17, .int f1_1_17])), (q1_0_17, .inl (cI, n4_17, .inl b4_17)), ((am 2), .inl (cI, n_m2, .inl b_m2)), (h0, .inr (9, moF am known_h0 thrown_h0 wrong_h0 lastEnd_h0 f0_17_17 f0_18_17 f0_19_17 least_h0 found_h0))]) (c_Nm_at l D cI cB cJ cS (am 5) a_all_m5 (f0_17_17 + 1) size_m5 n_a_all_m5 b_a_all_m5  k106) k_Mo_214 (by decide) ⟨Nat.le_of_ble_eq_true rfl, Nat.le_of_ble_eq_true rfl⟩ rfl 0 rfl [4, 5] [0, 1, 2, 3] rfl (by decide) rfl (by decide) (by decide) rfl rfl (Nat.le_of_ble_eq_true rfl) d_Mo_readExpression_127 ⟨show cl_97 + 0 ≤ mc by omega, show sl_97 + 0 ≤ ms by omega⟩ (fun v w hq => ?_)
            obtain ⟨rfl, rfl⟩ := hq
            refine j_norm (pc' := 130) (st' := [.int (b_a_all_m5 (Int32.toNatClampNeg (f0_17_17 + 1)))]) (ws' := [((am 20), .inr (8, [.ref q1_0_17, .int f1_1_17])), (q1_0_17, .inl (cI, n4_17, .inl b4_17)), ((am 2), .inl (cI, n_m2, .inl b_m2)), (h0, .inr (9, moF am known_h0 thrown_h0 wrong_h0 lastEnd_h0 f0_17_17 f0_18_17 f0_19_17 least_h0 found_h0)), ((am 5), .inr (8, [.ref a_all_m5, .int size_m5])), (a_all_m5, .inl (cI, n_a_all_m5, .inl b_a_all_m5))]) (cl' := cl_97) (sl' := sl_97) rfl rfl rfl rfl rfl rfl ?_
            refine j_bipush (v := 50) d_Mo_readExpression_130 (by decide) ?_
            refine j_icmp_ne (tgt := 288) d_Mo_readExpression_132 (by decide) (fun c107 => ?_) (fun c107 => ?_)
            · replace h := it_f c107 h
              refine j_sub (w := [((am 20), .inr (8, [.ref q1_0_17, .int f1_1_17])), (q1_0_17, .inl (cI, n4_17, .inl b4_17)), ((am 2), .inl (cI, n_m2, .inl b_m2)), (h0, .inr (9, moF am known_h0 thrown_h0 wrong_h0 lastEnd_h0 f0_17_17 f0_18_17 f0_19_17 least_h0 found_h0)), ((am 5), .inr (8, [.ref a_all_m5, .int size_m5])), (a_all_m5, .inl (cI, n_a_all_m5, .inl b_a_all_m5))]) (lv' := [(5, .int (b_a_all_m5 (Int32.toNatClampNeg f0_17_17))), (4, .int v4_17), (3, .int v3_17), (2, .int v2_17), (1, .int v1_17), (0, .ref h0)]) [0, 1, 2, 3, 4, 5] rfl (by decide) [0, 1, 2, 3, 4, 5] rfl ?_
              exact L_288  cl_97 sl_97 C_97 S_97 h hC hS
            · replace h := it_t c107 h
              refine j_sub (w := [((am 20), .inr (8, [.ref q1_0_17, .int f1_1_17])), (q1_0_17, .inl (cI, n4_17, .inl b4_17)), ((am 2), .inl (cI, n_m2, .inl b_m2)), (h0, .inr (9, moF am known_h0 thrown_h0 wrong_h0 lastEnd_h0 f0_17_17 f0_18_17 f0_19_17 least_h0 found_h0)), ((am 5), .inr (8, [.ref a_all_m5, .int size_m5])), (a_all_m5, .inl (cI, n_a_all_m5, .inl b_a_all_m5))]) (lv' := [(5, .int (b_a_all_m5 (Int32.toNatClampNeg f0_17_17))), (4, .int v4_17), (3, .int v3_17), (2, .int v2_17), (1, .int v1_17), (0, .ref h0)]) [0, 1, 2, 3, 4, 5] rfl (by decide) [0, 1, 2, 3, 4, 5] rfl ?_
              exact L_135  cl_97 sl_97 C_97 S_97 h hC hS
    have L_76 : ∀ (cl_76 sl_76 C_76 S_76 : Nat), F_Mo_readExpression_76 known_h0 thrown_h0 wrong_h0 lastEnd_h0 least_h0 found_h0 size_m5 n_a_all_m5 b_a_all_m5 v4_17 v3_17 v2_17 v1_17 f0_17_17 f0_18_17 f0_19_17 f1_1_17 n4_17 b4_17 (F_Mo_readExpression_17 known_h0 thrown_h0 wrong_h0 lastEnd_h0 least_h0 found_h0 size_m5 n_a_all_m5 b_a_all_m5 n_m2 b_m2  k_17)   = some ((ret, o_0_17, o_0_18, o_0_19, o_1_1, on_nq_1_0, ob_nq_1_0), C_76, S_76) → cl_76 + C_76 ≤ mc → sl_76 + S_76 ≤ ms → J (KxOf p l e { frames := 4, cells := mc, slots := ms, locals := 86 } s m [.ref h0].toArray below meth c D (gT cI cB cJ cS) [(h0, .inr (9, moF am known_h0 thrown_h0 wrong_h0 lastEnd_h0 at_h0 bad_h0 levels_h0 least_h0 found_h0)), ((am 20), .inr (8, [.ref a_all_m20, .int size_m20])), ((am 5), .inr (8, [.ref a_all_m5, .int size_m5])), (a_all_m5, .inl (cI, n_a_all_m5, .inl b_a_all_m5)), (a_all_m20, .inl (cI, n_a_all_m20, .inl b_a_all_m20)), ((am 2), .inl (cI, n_m2, .inl b_m2))] (fun v w => ∃ nq_1_0 : Nat, v = some (.int ret) ∧ zb ret ∧ w = [(h0, .inr (9, moF am known_h0 thrown_h0 wrong_h0 lastEnd_h0 o_0_17 o_0_18 o_0_19 least_h0 found_h0)), ((am 20), .inr (8, [.ref nq_1_0, .int o_1_1])), ((am 5), .inr (8, [.ref a_all_m5, .int size_m5])), (a_all_m5, .inl (cI, n_a_all_m5, .inl b_a_all_m5)), ((am 2), .inl (cI, n_m2, .inl b_m2)), (nq_1_0, .inl (cI, on_nq_1_0, .inl ob_nq_1_0))]) mc ms) prog_12_method_30_code 8 R_Mo 76 [(5, .int (b_a_all_m5 (Int32.toNatClampNeg f0_17_17))), (4, .int v4_17), (3, .int v3_17), (2, .int v2_17), (1, .int v1_17), (0, .ref h0)] [] [((am 20), .inr (8, [.ref q1_0_17, .int f1_1_17])), (q1_0_17, .inl (cI, n4_17, .inl b4_17)), ((am 2), .inl (cI, n_m2, .inl b_m2)), (h0, .inr (9, moF am known_h0 thrown_h0 wrong_h0 lastEnd_h0 f0_17_17 f0_18_17 f0_19_17 least_h0 found_h0)), ((am 5), .inr (8, [.ref a_all_m5, .int size_m5])), (a_all_m5, .inl (cI, n_a_all_m5, .inl b_a_all_m5))] cl_76 sl_76 := by
      clear h
      intro  cl_76 sl_76 C_76 S_76 h hC hS
      unfold F_Mo_readExpression_76 at h
      refine j_iload_n d_Mo_readExpression_76 rfl 3 rfl ?_
      refine j_if_ne (tgt := 97) d_Mo_readExpression_77 (by decide) (fun c108 => ?_) (fun c108 => ?_)
      · replace h := it_f c108 h
        refine j_sub (w := [((am 20), .inr (8, [.ref q1_0_17, .int f1_1_17])), (q1_0_17, .inl (cI, n4_17, .inl b4_17)), ((am 2), .inl (cI, n_m2, .inl b_m2)), (h0, .inr (9, moF am known_h0 thrown_h0 wrong_h0 lastEnd_h0 f0_17_17 f0_18_17 f0_19_17 least_h0 found_h0)), ((am 5), .inr (8, [.ref a_all_m5, .int size_m5])), (a_all_m5, .inl (cI, n_a_all_m5, .inl b_a_all_m5))]) (lv' := [(5, .int (b_a_all_m5 (Int32.toNatClampNeg f0_17_17))), (4, .int v4_17), (3, .int v3_17), (2, .int v2_17), (1, .int v1_17), (0, .ref h0)]) [0, 1, 2, 3, 4, 5] rfl (by decide) [0, 1, 2, 3, 4, 5] rfl ?_
        exact L_97  cl_76 sl_76 C_76 S_76 h hC hS
      · replace h := it_t c108 h
        refine j_aload_n d_Mo_readExpression_80 rfl 5 rfl ?_
        refine j_iload d_Mo_readExpression_81 0 rfl ?_
        replace h := bd_s h
        obtain ⟨⟨r109, r110, r111, r112⟩, k114, h⟩ := h
        refine j_callV (n := 1) (As := [.int (b_a_all_m5 (Int32.toNatClampNeg f0_17_17))]) (rest := []) (wr := [((am 20), .inr (8, [.ref q1_0_17, .int f1_1_17])), (q1_0_17, .inl (cI, n4_17, .inl b4_17)), ((am 2), .inl (cI, n_m2, .inl b_m2))]) (c_Mo_enter l D cI cB cJ cS h0 am a_all_m5 (b_a_all_m5 (Int32.toNatClampNeg f0_17_17)) known_h0 thrown_h0 wrong_h0 lastEnd_h0 f0_17_17 f0_18_17 f0_19_17 least_h0 found_h0 size_m5 n_a_all_m5 b_a_all_m5  r109 r110 r111 r112 k114) k_Mo_297 (by decide) ⟨Nat.le_of_ble_eq_true rfl, Nat.le_of_ble_eq_true rfl⟩ rfl 0 rfl [3, 4, 5] [0, 1, 2] rfl (by decide) rfl (by decide) (by decide) rfl rfl (Nat.le_of_ble_eq_true rfl) d_Mo_readExpression_83 ⟨show cl_76 + 0 ≤ mc by omega, show sl_76 + 0 ≤ ms by omega⟩ (fun v w hq => ?_)
        obtain ⟨rfl, z113, rfl⟩ := hq
        refine j_norm (pc' := 86) (st' := [.int r109]) (ws' := [((am 20), .inr (8, [.ref q1_0_17, .int f1_1_17])), (q1_0_17, .inl (cI, n4_17, .inl b4_17)), ((am 2), .inl (cI, n_m2, .inl b_m2)), (h0, .inr (9, moF am known_h0 thrown_h0 wrong_h0 lastEnd_h0 r110 r111 r112 least_h0 found_h0)), ((am 5), .inr (8, [.ref a_all_m5, .int size_m5])), (a_all_m5, .inl (cI, n_a_all_m5, .inl b_a_all_m5))]) (cl' := cl_76) (sl' := sl_76) rfl rfl rfl rfl rfl rfl ?_
        refine j_if_ne (tgt := 91) d_Mo_readExpression_86 (by decide) (fun c115 => ?_) (fun c115 => ?_)
        · replace h := it_f c115 h
          refine j_iinc (v := v3_17 + 1) (lv' := [(3, .int (v3_17 + 1)), (5, .int (b_a_all_m5 (Int32.toNatClampNeg f0_17_17))), (4, .int v4_17), (2, .int v2_17), (1, .int v1_17), (0, .ref h0)]) d_Mo_readExpression_91 2 rfl rfl (by decide) rfl ?_
          refine j_goto (tgt := 581) d_Mo_readExpression_94 (by decide) ?_
          refine j_goto (tgt := 17) d_Mo_readExpression_581 (by decide) ?_
          refine j_sub (w := [(h0, .inr (9, moF am known_h0 thrown_h0 wrong_h0 lastEnd_h0 r110 r111 r112 least_h0 found_h0)), ((am 20), .inr (8, [.ref q1_0_17, .int f1_1_17])), ((am 5), .inr (8, [.ref a_all_m5, .int size_m5])), (a_all_m5, .inl (cI, n_a_all_m5, .inl b_a_all_m5)), (q1_0_17, .inl (cI, n4_17, .inl b4_17)), ((am 2), .inl (cI, n_m2, .inl b_m2))]) (lv' := [(4, .int v4_17), (3, .int (v3_17 + 1)), (2, .int v2_17), (1, .int v1_17), (0, .ref h0)]) [3, 0, 4, 5, 1, 2] rfl (by decide) [2, 0, 3, 4, 5] rfl ?_
          exact ih_17 q1_0_17 v4_17 (v3_17 + 1) v2_17 v1_17 r110 r111 r112 f1_1_17 n4_17 b4_17 hz_v4_17 cl_76 sl_76 C_76 S_76 h hC hS
        · replace h := it_t c115 h
          refine j_iconst (v := 0) d_Mo_readExpression_89 (by decide) ?_
          replace h := lf_s h
          obtain ⟨h, e1, e2⟩ := h
          replace h := Prod.mk.inj h
          obtain ⟨h9, h⟩ := h
          subst h9
          replace h := Prod.mk.inj h
          obtain ⟨h9, h⟩ := h
          subst h9
          replace h := Prod.mk.inj h
          obtain ⟨h9, h⟩ := h
          subst h9
          replace h := Prod.mk.inj h
          obtain ⟨h9, h⟩ := h
          subst h9
          replace h := Prod.mk.inj h
          obtain ⟨h9, h⟩ := h
          subst h9
          replace h := Prod.mk.inj h
          obtain ⟨h9, h⟩ := h
          subst h9
          subst h
          refine j_widen (cl' := mc) (sl' := ms) (by omega) (by omega) ?_
          exact j_zret (w := [(h0, .inr (9, moF am known_h0 thrown_h0 wrong_h0 lastEnd_h0 r110 r111 r112 least_h0 found_h0)), ((am 20), .inr (8, [.ref q1_0_17, .int f1_1_17])), ((am 5), .inr (8, [.ref a_all_m5, .int size_m5])), (a_all_m5, .inl (cI, n_a_all_m5, .inl b_a_all_m5)), ((am 2), .inl (cI, n_m2, .inl b_m2)), (q1_0_17, .inl (cI, n4_17, .inl b4_17))]) hr (zb_n zb0) d_Mo_readExpression_90 [3, 0, 4, 5, 2, 1] rfl (by decide) ⟨q1_0_17, rfl, zb0, rfl⟩
    have L_55 : ∀ (cl_55 sl_55 C_55 S_55 : Nat), F_Mo_readExpression_55 known_h0 thrown_h0 wrong_h0 lastEnd_h0 least_h0 found_h0 size_m5 n_a_all_m5 b_a_all_m5 v4_17 v3_17 v2_17 v1_17 f0_17_17 f0_18_17 f0_19_17 f1_1_17 n4_17 b4_17 (F_Mo_readExpression_17 known_h0 thrown_h0 wrong_h0 lastEnd_h0 least_h0 found_h0 size_m5 n_a_all_m5 b_a_all_m5 n_m2 b_m2  k_17)   = some ((ret, o_0_17, o_0_18, o_0_19, o_1_1, on_nq_1_0, ob_nq_1_0), C_55, S_55) → cl_55 + C_55 ≤ mc → sl_55 + S_55 ≤ ms → J (KxOf p l e { frames := 4, cells := mc, slots := ms, locals := 86 } s m [.ref h0].toArray below meth c D (gT cI cB cJ cS) [(h0, .inr (9, moF am known_h0 thrown_h0 wrong_h0 lastEnd_h0 at_h0 bad_h0 levels_h0 least_h0 found_h0)), ((am 20), .inr (8, [.ref a_all_m20, .int size_m20])), ((am 5), .inr (8, [.ref a_all_m5, .int size_m5])), (a_all_m5, .inl (cI, n_a_all_m5, .inl b_a_all_m5)), (a_all_m20, .inl (cI, n_a_all_m20, .inl b_a_all_m20)), ((am 2), .inl (cI, n_m2, .inl b_m2))] (fun v w => ∃ nq_1_0 : Nat, v = some (.int ret) ∧ zb ret ∧ w = [(h0, .inr (9, moF am known_h0 thrown_h0 wrong_h0 lastEnd_h0 o_0_17 o_0_18 o_0_19 least_h0 found_h0)), ((am 20), .inr (8, [.ref nq_1_0, .int o_1_1])), ((am 5), .inr (8, [.ref a_all_m5, .int size_m5])), (a_all_m5, .inl (cI, n_a_all_m5, .inl b_a_all_m5)), ((am 2), .inl (cI, n_m2, .inl b_m2)), (nq_1_0, .inl (cI, on_nq_1_0, .inl ob_nq_1_0))]) mc ms) prog_12_method_30_code 8 R_Mo 55 [(5, .int (b_a_all_m5 (Int32.toNatClampNeg f0_17_17))), (4, .int v4_17), (3, .int v3_17), (2, .int v2_17), (1, .int v1_17), (0, .ref h0)] [] [((am 20), .inr (8, [.ref q1_0_17, .int f1_1_17])), (q1_0_17, .inl (cI, n4_17, .inl b4_17)), ((am 2), .inl (cI, n_m2, .inl b_m2)), (h0, .inr (9, moF am known_h0 thrown_h0 wrong_h0 lastEnd_h0 f0_17_17 f0_18_17 f0_19_17 least_h0 found_h0)), ((am 5), .inr (8, [.ref a_all_m5, .int size_m5])), (a_all_m5, .inl (cI, n_a_all_m5, .inl b_a_all_m5))] cl_55 sl_55 := by
      clear h
      intro  cl_55 sl_55 C_55 S_55 h hC hS
      unfold F_Mo_readExpression_55 at h
      refine j_iload d_Mo_readExpression_55 0 rfl ?_
      refine j_bipush (v := 40) d_Mo_readExpression_57 (by decide) ?_
      refine j_icmp_eq (tgt := 76) d_Mo_readExpression_59 (by decide) (fun c116 => ?_) (fun c116 => ?_)
      · replace h := it_t c116 h
        refine j_sub (w := [((am 20), .inr (8, [.ref q1_0_17, .int f1_1_17])), (q1_0_17, .inl (cI, n4_17, .inl b4_17)), ((am 2), .inl (cI, n_m2, .inl b_m2)), (h0, .inr (9, moF am known_h0 thrown_h0 wrong_h0 lastEnd_h0 f0_17_17 f0_18_17 f0_19_17 least_h0 found_h0)), ((am 5), .inr (8, [.ref a_all_m5, .int size_m5])), (a_all_m5, .inl (cI, n_a_all_m5, .inl b_a_all_m5))]) (lv' := [(5, .int (b_a_all_m5 (Int32.toNatClampNeg f0_17_17))), (4, .int v4_17), (3, .int v3_17), (2, .int v2_17), (1, .int v1_17), (0, .ref h0)]) [0, 1, 2, 3, 4, 5] rfl (by decide) [0, 1, 2, 3, 4, 5] rfl ?_
        exact L_76  cl_55 sl_55 C_55 S_55 h hC hS
      · replace h := it_f c116 h
        refine j_iload d_Mo_readExpression_62 0 rfl ?_
        refine j_bipush (v := 39) d_Mo_readExpression_64 (by decide) ?_
        refine j_icmp_eq (tgt := 76) d_Mo_readExpression_66 (by decide) (fun c117 => ?_) (fun c117 => ?_)
        · replace h := it_t c117 h
          refine j_sub (w := [((am 20), .inr (8, [.ref q1_0_17, .int f1_1_17])), (q1_0_17, .inl (cI, n4_17, .inl b4_17)), ((am 2), .inl (cI, n_m2, .inl b_m2)), (h0, .inr (9, moF am known_h0 thrown_h0 wrong_h0 lastEnd_h0 f0_17_17 f0_18_17 f0_19_17 least_h0 found_h0)), ((am 5), .inr (8, [.ref a_all_m5, .int size_m5])), (a_all_m5, .inl (cI, n_a_all_m5, .inl b_a_all_m5))]) (lv' := [(5, .int (b_a_all_m5 (Int32.toNatClampNeg f0_17_17))), (4, .int v4_17), (3, .int v3_17), (2, .int v2_17), (1, .int v1_17), (0, .ref h0)]) [0, 1, 2, 3, 4, 5] rfl (by decide) [0, 1, 2, 3, 4, 5] rfl ?_
          exact L_76  cl_55 sl_55 C_55 S_55 h hC hS
        · replace h := it_f c117 h
          refine j_iload d_Mo_readExpression_69 0 rfl ?_
          refine j_bipush (v := 49) d_Mo_readExpression_71 (by decide) ?_
          refine j_icmp_ne (tgt := 97) d_Mo_readExpression_73 (by decide) (fun c118 => ?_) (fun c118 => ?_)
          · replace h := it_f c118 h
            refine j_sub (w := [((am 20), .inr (8, [.ref q1_0_17, .int f1_1_17])), (q1_0_17, .inl (cI, n4_17, .inl b4_17)), ((am 2), .inl (cI, n_m2, .inl b_m2)), (h0, .inr (9, moF am known_h0 thrown_h0 wrong_h0 lastEnd_h0 f0_17_17 f0_18_17 f0_19_17 least_h0 found_h0)), ((am 5), .inr (8, [.ref a_all_m5, .int size_m5])), (a_all_m5, .inl (cI, n_a_all_m5, .inl b_a_all_m5))]) (lv' := [(5, .int (b_a_all_m5 (Int32.toNatClampNeg f0_17_17))), (4, .int v4_17), (3, .int v3_17), (2, .int v2_17), (1, .int v1_17), (0, .ref h0)]) [0, 1, 2, 3, 4, 5] rfl (by decide) [0, 1, 2, 3, 4, 5] rfl ?_
            exact L_97  cl_55 sl_55 C_55 S_55 h hC hS
          · replace h := it_t c118 h
            refine j_sub (w := [((am 20), .inr (8, [.ref q1_0_17, .int f1_1_17])), (q1_0_17, .inl (cI, n4_17, .inl b4_17)), ((am 2), .inl (cI, n_m2, .inl b_m2)), (h0, .inr (9, moF am known_h0 thrown_h0 wrong_h0 lastEnd_h0 f0_17_17 f0_18_17 f0_19_17 least_h0 found_h0)), ((am 5), .inr (8, [.ref a_all_m5, .int size_m5])), (a_all_m5, .inl (cI, n_a_all_m5, .inl b_a_all_m5))]) (lv' := [(5, .int (b_a_all_m5 (Int32.toNatClampNeg f0_17_17))), (4, .int v4_17), (3, .int v3_17), (2, .int v2_17), (1, .int v1_17), (0, .ref h0)]) [0, 1, 2, 3, 4, 5] rfl (by decide) [0, 1, 2, 3, 4, 5] rfl ?_
            exact L_76  cl_55 sl_55 C_55 S_55 h hC hS
    refine j_aload_n d_Mo_readExpression_17 rfl 4 rfl ?_
    replace h := bd_s h
    obtain ⟨_, k119, h⟩ := h
    refine j_callV (n := 0) (As := []) (rest := []) (wr := [((am 20), .inr (8, [.ref q1_0_17, .int f1_1_17])), (q1_0_17, .inl (cI, n4_17, .inl b4_17)), ((am 2), .inl (cI, n_m2, .inl b_m2))]) (c_Mo_kind l D cI cB cJ cS h0 am a_all_m5 known_h0 thrown_h0 wrong_h0 lastEnd_h0 f0_17_17 f0_18_17 f0_19_17 least_h0 found_h0 size_m5 n_a_all_m5 b_a_all_m5  k119) k_Mo_275 (by decide) ⟨Nat.le_of_ble_eq_true rfl, Nat.le_of_ble_eq_true rfl⟩ rfl 0 rfl [0, 2, 3] [1, 4, 5] rfl (by decide) rfl (by decide) (by decide) rfl rfl (Nat.le_of_ble_eq_true rfl) d_Mo_readExpression_18 ⟨show cl_17 + 0 ≤ mc by omega, show sl_17 + 0 ≤ ms by omega⟩ (fun v w hq => ?_)
    obtain ⟨rfl, rfl⟩ := hq
    refine j_norm (pc' := 21) (st' := [.int (b_a_all_m5 (Int32.toNatClampNeg f0_17_17))]) (ws' := [((am 20), .inr (8, [.ref q1_0_17, .int f1_1_17])), (q1_0_17, .inl (cI, n4_17, .inl b4_17)), ((am 2), .inl (cI, n_m2, .inl b_m2)), (h0, .inr (9, moF am known_h0 thrown_h0 wrong_h0 lastEnd_h0 f0_17_17 f0_18_17 f0_19_17 least_h0 found_h0)), ((am 5), .inr (8, [.ref a_all_m5, .int size_m5])), (a_all_m5, .inl (cI, n_a_all_m5, .inl b_a_all_m5))]) (cl' := cl_17) (sl' := sl_17) rfl rfl rfl rfl rfl rfl ?_
    refine j_istore (lv' := [(5, .int (b_a_all_m5 (Int32.toNatClampNeg f0_17_17))), (4, .int v4_17), (3, .int v3_17), (2, .int v2_17), (1, .int v1_17), (0, .ref h0)]) d_Mo_readExpression_21 (by decide) rfl ?_
    refine j_iload d_Mo_readExpression_23 1 rfl ?_
    refine j_if_eq (tgt := 364) d_Mo_readExpression_25 (by decide) (fun c120 => ?_) (fun c120 => ?_)
    · replace h := it_t c120 h
      refine j_iload d_Mo_readExpression_364 0 rfl ?_
      refine j_bipush (v := 48) d_Mo_readExpression_366 (by decide) ?_
      refine j_icmp_ne (tgt := 391) d_Mo_readExpression_368 (by decide) (fun c121 => ?_) (fun c121 => ?_)
      · replace h := it_f c121 h
        refine j_sub (w := [((am 20), .inr (8, [.ref q1_0_17, .int f1_1_17])), (q1_0_17, .inl (cI, n4_17, .inl b4_17)), ((am 2), .inl (cI, n_m2, .inl b_m2)), (h0, .inr (9, moF am known_h0 thrown_h0 wrong_h0 lastEnd_h0 f0_17_17 f0_18_17 f0_19_17 least_h0 found_h0)), ((am 5), .inr (8, [.ref a_all_m5, .int size_m5])), (a_all_m5, .inl (cI, n_a_all_m5, .inl b_a_all_m5))]) (lv' := [(5, .int (b_a_all_m5 (Int32.toNatClampNeg f0_17_17))), (4, .int v4_17), (3, .int v3_17), (2, .int v2_17), (1, .int v1_17), (0, .ref h0)]) [0, 1, 2, 3, 4, 5] rfl (by decide) [0, 1, 2, 3, 4, 5] rfl ?_
        exact L_391  cl_17 sl_17 C_17 S_17 h hC hS
      · replace h := it_t c121 h
        refine j_aload_n d_Mo_readExpression_371 rfl 5 rfl ?_
        replace h := bd_s h
        obtain ⟨r122, k124, h⟩ := h
        refine j_callV (n := 0) (As := []) (rest := []) (wr := [((am 20), .inr (8, [.ref q1_0_17, .int f1_1_17])), (q1_0_17, .inl (cI, n4_17, .inl b4_17)), ((am 2), .inl (cI, n_m2, .inl b_m2))]) (c_Mo_isColonBefore l D cI cB cJ cS h0 am a_all_m5 known_h0 thrown_h0 wrong_h0 lastEnd_h0 f0_17_17 f0_18_17 f0_19_17 least_h0 found_h0 size_m5 n_a_all_m5 b_a_all_m5  r122 k124) k_Mo_310 (by decide) ⟨Nat.le_of_ble_eq_true rfl, Nat.le_of_ble_eq_true rfl⟩ rfl 0 rfl [3, 4, 5] [0, 1, 2] rfl (by decide) rfl (by decide) (by decide) rfl rfl (Nat.le_of_ble_eq_true rfl) d_Mo_readExpression_372 ⟨show cl_17 + 0 ≤ mc by omega, show sl_17 + 0 ≤ ms by omega⟩ (fun v w hq => ?_)
        obtain ⟨rfl, z123, rfl⟩ := hq
        refine j_norm (pc' := 375) (st' := [.int r122]) (ws' := [((am 20), .inr (8, [.ref q1_0_17, .int f1_1_17])), (q1_0_17, .inl (cI, n4_17, .inl b4_17)), ((am 2), .inl (cI, n_m2, .inl b_m2)), (h0, .inr (9, moF am known_h0 thrown_h0 wrong_h0 lastEnd_h0 f0_17_17 f0_18_17 f0_19_17 least_h0 found_h0)), ((am 5), .inr (8, [.ref a_all_m5, .int size_m5])), (a_all_m5, .inl (cI, n_a_all_m5, .inl b_a_all_m5))]) (cl' := cl_17) (sl' := sl_17) rfl rfl rfl rfl rfl rfl ?_
        refine j_if_ne (tgt := 391) d_Mo_readExpression_375 (by decide) (fun c125 => ?_) (fun c125 => ?_)
        · replace h := it_f c125 h
          refine j_sub (w := [((am 20), .inr (8, [.ref q1_0_17, .int f1_1_17])), (q1_0_17, .inl (cI, n4_17, .inl b4_17)), ((am 2), .inl (cI, n_m2, .inl b_m2)), (h0, .inr (9, moF am known_h0 thrown_h0 wrong_h0 lastEnd_h0 f0_17_17 f0_18_17 f0_19_17 least_h0 found_h0)), ((am 5), .inr (8, [.ref a_all_m5, .int size_m5])), (a_all_m5, .inl (cI, n_a_all_m5, .inl b_a_all_m5))]) (lv' := [(5, .int (b_a_all_m5 (Int32.toNatClampNeg f0_17_17))), (4, .int v4_17), (3, .int v3_17), (2, .int v2_17), (1, .int v1_17), (0, .ref h0)]) [0, 1, 2, 3, 4, 5] rfl (by decide) [0, 1, 2, 3, 4, 5] rfl ?_
          exact L_391  cl_17 sl_17 C_17 S_17 h hC hS
        · replace h := it_t c125 h
          refine j_aload_n d_Mo_readExpression_378 rfl 5 rfl ?_
          refine j_dup rfl d_Mo_readExpression_379 ?_
          refine j_get ig_Mo rfl 3 rfl 17 (by decide) rfl m_1130 rfl d_Mo_readExpression_380 ?_
          refine j_iconst (v := 1) d_Mo_readExpression_383 (by decide) ?_
          refine j_iadd d_Mo_readExpression_384 ?_
          refine j_put (ws' := [((am 20), .inr (8, [.ref q1_0_17, .int f1_1_17])), (q1_0_17, .inl (cI, n4_17, .inl b4_17)), ((am 2), .inl (cI, n_m2, .inl b_m2)), (h0, .inr (9, moF am known_h0 thrown_h0 wrong_h0 lastEnd_h0 (f0_17_17 + 1) f0_18_17 f0_19_17 least_h0 found_h0)), ((am 5), .inr (8, [.ref a_all_m5, .int size_m5])), (a_all_m5, .inl (cI, n_a_all_m5, .inl b_a_all_m5))]) ig_Mo tk_Mo nm_Mo rfl 3 rfl 17 (by decide) rfl m_1130 rfl (tk_Mo 17 (by decide)) rfl rfl (Nat.le_of_ble_eq_true rfl) d_Mo_readExpression_385 rfl ?_
          refine j_goto (tgt := 581) d_Mo_readExpression_388 (by decide) ?_
          refine j_goto (tgt := 17) d_Mo_readExpression_581 (by decide) ?_
          refine j_sub (w := [(h0, .inr (9, moF am known_h0 thrown_h0 wrong_h0 lastEnd_h0 (f0_17_17 + 1) f0_18_17 f0_19_17 least_h0 found_h0)), ((am 20), .inr (8, [.ref q1_0_17, .int f1_1_17])), ((am 5), .inr (8, [.ref a_all_m5, .int size_m5])), (a_all_m5, .inl (cI, n_a_all_m5, .inl b_a_all_m5)), (q1_0_17, .inl (cI, n4_17, .inl b4_17)), ((am 2), .inl (cI, n_m2, .inl b_m2))]) (lv' := [(4, .int v4_17), (3, .int v3_17), (2, .int v2_17), (1, .int v1_17), (0, .ref h0)]) [3, 0, 4, 5, 1, 2] rfl (by decide) [1, 2, 3, 4, 5] rfl ?_
          exact ih_17 q1_0_17 v4_17 v3_17 v2_17 v1_17 (f0_17_17 + 1) f0_18_17 f0_19_17 f1_1_17 n4_17 b4_17 hz_v4_17 cl_17 sl_17 C_17 S_17 h hC hS
    · replace h := it_f c120 h
      refine j_iload d_Mo_readExpression_28 0 rfl ?_
      refine j_bipush (v := 40) d_Mo_readExpression_30 (by decide) ?_
      refine j_icmp_ne (tgt := 55) d_Mo_readExpression_32 (by decide) (fun c126 => ?_) (fun c126 => ?_)
      · replace h := it_f c126 h
        refine j_sub (w := [((am 20), .inr (8, [.ref q1_0_17, .int f1_1_17])), (q1_0_17, .inl (cI, n4_17, .inl b4_17)), ((am 2), .inl (cI, n_m2, .inl b_m2)), (h0, .inr (9, moF am known_h0 thrown_h0 wrong_h0 lastEnd_h0 f0_17_17 f0_18_17 f0_19_17 least_h0 found_h0)), ((am 5), .inr (8, [.ref a_all_m5, .int size_m5])), (a_all_m5, .inl (cI, n_a_all_m5, .inl b_a_all_m5))]) (lv' := [(5, .int (b_a_all_m5 (Int32.toNatClampNeg f0_17_17))), (4, .int v4_17), (3, .int v3_17), (2, .int v2_17), (1, .int v1_17), (0, .ref h0)]) [0, 1, 2, 3, 4, 5] rfl (by decide) [0, 1, 2, 3, 4, 5] rfl ?_
        exact L_55  cl_17 sl_17 C_17 S_17 h hC hS
      · replace h := it_t c126 h
        refine j_iload_n d_Mo_readExpression_35 rfl 3 rfl ?_
        refine j_iconst (v := 1) d_Mo_readExpression_36 (by decide) ?_
        refine j_icmp_ne (tgt := 55) d_Mo_readExpression_37 (by decide) (fun c127 => ?_) (fun c127 => ?_)
        · replace h := it_f c127 h
          refine j_sub (w := [((am 20), .inr (8, [.ref q1_0_17, .int f1_1_17])), (q1_0_17, .inl (cI, n4_17, .inl b4_17)), ((am 2), .inl (cI, n_m2, .inl b_m2)), (h0, .inr (9, moF am known_h0 thrown_h0 wrong_h0 lastEnd_h0 f0_17_17 f0_18_17 f0_19_17 least_h0 found_h0)), ((am 5), .inr (8, [.ref a_all_m5, .int size_m5])), (a_all_m5, .inl (cI, n_a_all_m5, .inl b_a_all_m5))]) (lv' := [(5, .int (b_a_all_m5 (Int32.toNatClampNeg f0_17_17))), (4, .int v4_17), (3, .int v3_17), (2, .int v2_17), (1, .int v1_17), (0, .ref h0)]) [0, 1, 2, 3, 4, 5] rfl (by decide) [0, 1, 2, 3, 4, 5] rfl ?_
          exact L_55  cl_17 sl_17 C_17 S_17 h hC hS
        · replace h := it_t c127 h
          refine j_iconst (v := 2) d_Mo_readExpression_40 (by decide) ?_
          refine j_istore_n (lv' := [(2, .int 2), (5, .int (b_a_all_m5 (Int32.toNatClampNeg f0_17_17))), (4, .int v4_17), (3, .int v3_17), (1, .int v1_17), (0, .ref h0)]) d_Mo_readExpression_41 rfl (by decide) rfl ?_
          refine j_aload_n d_Mo_readExpression_42 rfl 5 rfl ?_
          refine j_dup rfl d_Mo_readExpression_43 ?_
          refine j_get ig_Mo rfl 3 rfl 17 (by decide) rfl m_1130 rfl d_Mo_readExpression_44 ?_
          refine j_iconst (v := 1) d_Mo_readExpression_47 (by decide) ?_
          refine j_iadd d_Mo_readExpression_48 ?_
          refine j_put (ws' := [((am 20), .inr (8, [.ref q1_0_17, .int f1_1_17])), (q1_0_17, .inl (cI, n4_17, .inl b4_17)), ((am 2), .inl (cI, n_m2, .inl b_m2)), (h0, .inr (9, moF am known_h0 thrown_h0 wrong_h0 lastEnd_h0 (f0_17_17 + 1) f0_18_17 f0_19_17 least_h0 found_h0)), ((am 5), .inr (8, [.ref a_all_m5, .int size_m5])), (a_all_m5, .inl (cI, n_a_all_m5, .inl b_a_all_m5))]) ig_Mo tk_Mo nm_Mo rfl 3 rfl 17 (by decide) rfl m_1130 rfl (tk_Mo 17 (by decide)) rfl rfl (Nat.le_of_ble_eq_true rfl) d_Mo_readExpression_49 rfl ?_
          refine j_goto (tgt := 581) d_Mo_readExpression_52 (by decide) ?_
          refine j_goto (tgt := 17) d_Mo_readExpression_581 (by decide) ?_
          refine j_sub (w := [(h0, .inr (9, moF am known_h0 thrown_h0 wrong_h0 lastEnd_h0 (f0_17_17 + 1) f0_18_17 f0_19_17 least_h0 found_h0)), ((am 20), .inr (8, [.ref q1_0_17, .int f1_1_17])), ((am 5), .inr (8, [.ref a_all_m5, .int size_m5])), (a_all_m5, .inl (cI, n_a_all_m5, .inl b_a_all_m5)), (q1_0_17, .inl (cI, n4_17, .inl b4_17)), ((am 2), .inl (cI, n_m2, .inl b_m2))]) (lv' := [(4, .int v4_17), (3, .int v3_17), (2, .int 2), (1, .int v1_17), (0, .ref h0)]) [3, 0, 4, 5, 1, 2] rfl (by decide) [2, 3, 0, 4, 5] rfl ?_
          exact ih_17 q1_0_17 v4_17 v3_17 2 v1_17 (f0_17_17 + 1) f0_18_17 f0_19_17 f1_1_17 n4_17 b4_17 hz_v4_17 cl_17 sl_17 C_17 S_17 h hC hS
set_option maxHeartbeats 4000000 in
set_option maxRecDepth 100000 in
theorem c_Mo_readExpression (l : Launch) (D : va_G) (cI cB cJ cS : ClassId) (h0 : Nat) (am : Nat → Nat) (a_all_m20 : Nat) (a_all_m5 : Nat) (known_h0 : Int32) (thrown_h0 : Int32) (wrong_h0 : Int32) (lastEnd_h0 : Int32) (at_h0 : Int32) (bad_h0 : Int32) (levels_h0 : Int32) (least_h0 : Int32) (found_h0 : Int32) (size_m20 : Int32) (size_m5 : Int32) (n_a_all_m5 : Nat) (b_a_all_m5 : Nat → Int32) (n_a_all_m20 : Nat) (b_a_all_m20 : Nat → Int32) (n_m2 : Nat) (b_m2 : Nat → Int32) (ret : Int32) (o_0_17 : Int32) (o_0_18 : Int32) (o_0_19 : Int32) (o_1_1 : Int32) (on_nq_1_0 : Nat) (ob_nq_1_0 : Nat → Int32) (mc ms : Nat) (h : F_Mo_readExpression known_h0 thrown_h0 wrong_h0 lastEnd_h0 at_h0 bad_h0 levels_h0 least_h0 found_h0 size_m20 size_m5 n_a_all_m5 b_a_all_m5 n_a_all_m20 b_a_all_m20 n_m2 b_m2 = some ((ret, o_0_17, o_0_18, o_0_19, o_1_1, on_nq_1_0, ob_nq_1_0), mc, ms)) : Ct l D (gT cI cB cJ cS) y_Mo_readExpression prog_12_method_30_code 8 (Option.some Jvm.ClassFile.FieldType.boolean) 4 86 mc ms [.ref h0] [(h0, .inr (9, moF am known_h0 thrown_h0 wrong_h0 lastEnd_h0 at_h0 bad_h0 levels_h0 least_h0 found_h0)), ((am 20), .inr (8, [.ref a_all_m20, .int size_m20])), ((am 5), .inr (8, [.ref a_all_m5, .int size_m5])), (a_all_m5, .inl (cI, n_a_all_m5, .inl b_a_all_m5)), (a_all_m20, .inl (cI, n_a_all_m20, .inl b_a_all_m20)), ((am 2), .inl (cI, n_m2, .inl b_m2))] (fun v w => ∃ nq_1_0 : Nat, v = some (.int ret) ∧ zb ret ∧ w = [(h0, .inr (9, moF am known_h0 thrown_h0 wrong_h0 lastEnd_h0 o_0_17 o_0_18 o_0_19 least_h0 found_h0)), ((am 20), .inr (8, [.ref nq_1_0, .int o_1_1])), ((am 5), .inr (8, [.ref a_all_m5, .int size_m5])), (a_all_m5, .inl (cI, n_a_all_m5, .inl b_a_all_m5)), ((am 2), .inl (cI, n_m2, .inl b_m2)), (nq_1_0, .inl (cI, on_nq_1_0, .inl ob_nq_1_0))]) := by
  refine Ct.mk (by decide) (Nat.le_of_ble_eq_true rfl) ?_
  intro p e s m below meth c hr hnm
  refine j_norm (pc' := 0) (lv' := [(0, .ref h0)]) (st' := []) (ws' := [(h0, .inr (9, moF am known_h0 thrown_h0 wrong_h0 lastEnd_h0 at_h0 bad_h0 levels_h0 least_h0 found_h0)), ((am 20), .inr (8, [.ref a_all_m20, .int size_m20])), ((am 5), .inr (8, [.ref a_all_m5, .int size_m5])), (a_all_m5, .inl (cI, n_a_all_m5, .inl b_a_all_m5)), (a_all_m20, .inl (cI, n_a_all_m20, .inl b_a_all_m20)), ((am 2), .inl (cI, n_m2, .inl b_m2))]) (cl' := 0) (sl' := 0) rfl rfl rfl rfl rfl rfl ?_
  unfold F_Mo_readExpression at h
  have hC : 0 + mc ≤ mc := by omega
  have hS : 0 + ms ≤ ms := by omega
  refine j_aload_n d_Mo_readExpression_0 rfl 0 rfl ?_
  refine j_get ig_Mo rfl 0 rfl 20 (by decide) rfl m_1133 rfl d_Mo_readExpression_1 ?_
  refine j_iconst (v := 0) d_Mo_readExpression_4 (by decide) ?_
  refine j_putN (ws' := [(h0, .inr (9, moF am known_h0 thrown_h0 wrong_h0 lastEnd_h0 at_h0 bad_h0 levels_h0 least_h0 found_h0)), ((am 20), .inr (8, [.ref a_all_m20, .int 0])), ((am 5), .inr (8, [.ref a_all_m5, .int size_m5])), (a_all_m5, .inl (cI, n_a_all_m5, .inl b_a_all_m5)), (a_all_m20, .inl (cI, n_a_all_m20, .inl b_a_all_m20)), ((am 2), .inl (cI, n_m2, .inl b_m2))]) ig_Nm tk_Nm nm_Nm rfl 1 rfl 1 (by decide) rfl mn_13 rfl (tk_Nm 1 (by decide)) rfl rfl (Nat.le_of_ble_eq_true rfl) d_Mo_readExpression_5 rfl ?_
  refine j_iconst (v := 0) d_Mo_readExpression_8 (by decide) ?_
  refine j_istore_n (lv' := [(1, .int 0), (0, .ref h0)]) d_Mo_readExpression_9 rfl (by decide) rfl ?_
  refine j_iconst (v := 0) d_Mo_readExpression_10 (by decide) ?_
  refine j_istore_n (lv' := [(2, .int 0), (1, .int 0), (0, .ref h0)]) d_Mo_readExpression_11 rfl (by decide) rfl ?_
  refine j_iconst (v := 0) d_Mo_readExpression_12 (by decide) ?_
  refine j_istore_n (lv' := [(3, .int 0), (2, .int 0), (1, .int 0), (0, .ref h0)]) d_Mo_readExpression_13 rfl (by decide) rfl ?_
  refine j_iconst (v := 1) d_Mo_readExpression_14 (by decide) ?_
  refine j_istore (lv' := [(4, .int 1), (3, .int 0), (2, .int 0), (1, .int 0), (0, .ref h0)]) d_Mo_readExpression_15 (by decide) rfl ?_
  refine j_sub (w := [(h0, .inr (9, moF am known_h0 thrown_h0 wrong_h0 lastEnd_h0 at_h0 bad_h0 levels_h0 least_h0 found_h0)), ((am 20), .inr (8, [.ref a_all_m20, .int 0])), ((am 5), .inr (8, [.ref a_all_m5, .int size_m5])), (a_all_m5, .inl (cI, n_a_all_m5, .inl b_a_all_m5)), (a_all_m20, .inl (cI, n_a_all_m20, .inl b_a_all_m20)), ((am 2), .inl (cI, n_m2, .inl b_m2))]) (lv' := [(4, .int 1), (3, .int 0), (2, .int 0), (1, .int 0), (0, .ref h0)]) [0, 1, 2, 3, 4, 5] rfl (by decide) [0, 1, 2, 3, 4] rfl ?_
  exact L_Mo_readExpression_17 l D cI cB cJ cS h0 am a_all_m20 a_all_m5 known_h0 thrown_h0 wrong_h0 lastEnd_h0 at_h0 bad_h0 levels_h0 least_h0 found_h0 size_m20 size_m5 n_a_all_m5 b_a_all_m5 n_a_all_m20 b_a_all_m20 n_m2 b_m2 ret o_0_17 o_0_18 o_0_19 o_1_1 on_nq_1_0 ob_nq_1_0 mc ms p e s m below meth c hr hnm FU a_all_m20 1 0 0 0 at_h0 bad_h0 levels_h0 0 n_a_all_m20 b_a_all_m20 zb1 0 0 mc ms h hC hS
