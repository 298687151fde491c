theorem dX10_allOf_0 : decode cX10_allOf 0 = .ok (.iconst 1, 1) := by decide +kernel
theorem dX10_allOf_1 : decode cX10_allOf 1 = .ok (.aload_n 0, 1) := by decide +kernel
theorem dX10_allOf_2 : decode cX10_allOf 2 = .ok (.getfield 9, 3) := by decide +kernel
theorem dX10_allOf_5 : decode cX10_allOf 5 = .ok (.getfield 32, 3) := by decide +kernel
theorem dX10_allOf_8 : decode cX10_allOf 8 = .ok (.ishl, 1) := by decide +kernel
theorem dX10_allOf_9 : decode cX10_allOf 9 = .ok (.iconst 1, 1) := by decide +kernel
theorem dX10_allOf_10 : decode cX10_allOf 10 = .ok (.isub, 1) := by decide +kernel
theorem dX10_allOf_11 : decode cX10_allOf 11 = .ok (.istore_n 2, 1) := by decide +kernel
theorem dX10_allOf_12 : decode cX10_allOf 12 = .ok (.iconst 0, 1) := by decide +kernel
theorem dX10_allOf_13 : decode cX10_allOf 13 = .ok (.istore_n 3, 1) := by decide +kernel
theorem dX10_allOf_14 : decode cX10_allOf 14 = .ok (.iload_n 3, 1) := by decide +kernel
theorem dX10_allOf_15 : decode cX10_allOf 15 = .ok (.aload_n 0, 1) := by decide +kernel
theorem dX10_allOf_16 : decode cX10_allOf 16 = .ok (.getfield 9, 3) := by decide +kernel
theorem dX10_allOf_19 : decode cX10_allOf 19 = .ok (.getfield 26, 3) := by decide +kernel
theorem dX10_allOf_22 : decode cX10_allOf 22 = .ok (.if_icmp .ge 29, 3) := by decide +kernel
theorem dX10_allOf_25 : decode cX10_allOf 25 = .ok (.iload_n 1, 1) := by decide +kernel
theorem dX10_allOf_26 : decode cX10_allOf 26 = .ok (.iconst 1, 1) := by decide +kernel
theorem dX10_allOf_27 : decode cX10_allOf 27 = .ok (.iload_n 3, 1) := by decide +kernel
theorem dX10_allOf_28 : decode cX10_allOf 28 = .ok (.ishl, 1) := by decide +kernel
theorem dX10_allOf_29 : decode cX10_allOf 29 = .ok (.iand, 1) := by decide +kernel
theorem dX10_allOf_30 : decode cX10_allOf 30 = .ok (.ifCond .eq 15, 3) := by decide +kernel
theorem dX10_allOf_33 : decode cX10_allOf 33 = .ok (.iload_n 2, 1) := by decide +kernel
theorem dX10_allOf_34 : decode cX10_allOf 34 = .ok (.aload_n 0, 1) := by decide +kernel
theorem dX10_allOf_35 : decode cX10_allOf 35 = .ok (.getfield 22, 3) := by decide +kernel
theorem dX10_allOf_38 : decode cX10_allOf 38 = .ok (.getfield 84, 3) := by decide +kernel
theorem dX10_allOf_41 : decode cX10_allOf 41 = .ok (.iload_n 3, 1) := by decide +kernel
theorem dX10_allOf_42 : decode cX10_allOf 42 = .ok (.iaload, 1) := by decide +kernel
theorem dX10_allOf_43 : decode cX10_allOf 43 = .ok (.iand, 1) := by decide +kernel
theorem dX10_allOf_44 : decode cX10_allOf 44 = .ok (.istore_n 2, 1) := by decide +kernel
theorem dX10_allOf_45 : decode cX10_allOf 45 = .ok (.iinc 3 1, 3) := by decide +kernel
theorem dX10_allOf_48 : decode cX10_allOf 48 = .ok (.goto (-34), 3) := by decide +kernel
theorem dX10_allOf_51 : decode cX10_allOf 51 = .ok (.iload_n 2, 1) := by decide +kernel
theorem dX10_allOf_52 : decode cX10_allOf 52 = .ok (.ireturn, 1) := by decide +kernel
set_option maxRecDepth 100000 in
set_option maxHeartbeats 4000000 in
theorem v_X10_allOf_b14 {l : Launch} {p : Program} {e : Env} {s : State} {mt : MethodId} {args : Array Value} {below : List Frame} {meth : Method} {c : Code} {A : Nat → Prop} {ad0 : Nat → Nat} {G : Gt} {N : Nat} (C : Cx G p s mt args meth c RX10 cX10_allOf 4 (some .int) "allOf" A) (hN : 109 ≤ N) (a : Nat) (ha : isWorld N a) : ∀ (n : Nat) (y1 : Int32) (y2 : Int32) (y3 : Int32) (m : Mem), V G SX oI l p e s mt args below meth c 4 1 A ad0 N N RX N RX 14 [(0, .ref a), (1, .int y1), (2, .int y2), (3, .int y3)] [] m (X10_allOf_b14 a n y1 y2 y3 m) := by
  intro n
  induction n with
  | zero =>
    intro y1 y2 y3 m
    rw [X10_allOf_b14]
    exact V.nil
  | succ n ih =>
    intro y1 y2 y3 m
    rw [X10_allOf_b14]
    refine V.iload_n (pc := 14) C dX10_allOf_14 3 rfl ?_
    refine V.aload_n (pc := 15) C dX10_allOf_15 0 rfl ?_
    refine V.getr (pc := 16) C fl_RX10_9 ha.s ha.k rfl ha.r0 dX10_allOf_16 ?_
    refine V.geti (pc := 19) C fl_RX10_26 sX2 (kX2 hN) rfl dX10_allOf_19 ?_
    refine V.icmp_ge (pc := 22) C dX10_allOf_22 51 (by decide) (fun _ => ?_) (fun _ => ?_)
    · refine V.iload_n (pc := 51) C dX10_allOf_51 2 rfl ?_
      exact V.iret C dX10_allOf_52
    · refine V.iload_n (pc := 25) C dX10_allOf_25 1 rfl ?_
      refine V.iconst (pc := 26) C dX10_allOf_26 (v := 1) (by decide) ?_
      refine V.iload_n (pc := 27) C dX10_allOf_27 3 rfl ?_
      refine V.ishl (pc := 28) C dX10_allOf_28 ?_
      refine V.iand (pc := 29) C dX10_allOf_29 ?_
      refine V.if_eq (pc := 30) C dX10_allOf_30 45 (by decide) (fun _ => ?_) (fun _ => ?_)
      · refine V.iinc (pc := 45) C dX10_allOf_45 (v := 1) (L2 := [(3, .int (y3 + 1)), (0, .ref a), (1, .int y1), (2, .int y2)]) 3 rfl (by decide) (by decide) rfl ?_
        refine V.goto (pc := 48) C dX10_allOf_48 14 (by decide) ?_
        refine V.wk [1, 2, 3, 0] rfl ?_
        exact ih y1 y2 (y3 + 1) m
      · refine V.iload_n (pc := 33) C dX10_allOf_33 2 rfl ?_
        refine V.aload_n (pc := 34) C dX10_allOf_34 0 rfl ?_
        refine V.getr (pc := 35) C fl_RX10_22 ha.s ha.k rfl ha.r2 dX10_allOf_35 ?_
        refine V.getr (pc := 38) C fl_RX10_84 ha.life.s ha.life.k rfl ha.life.r3 dX10_allOf_38 ?_
        refine V.iload_n (pc := 41) C dX10_allOf_41 3 rfl ?_
        refine V.iald (pc := 42) C ha.life.s3 ha.life.k3 dX10_allOf_42 (fun _ => ?_)
        refine V.iand (pc := 43) C dX10_allOf_43 ?_
        refine V.lti (fun x_2 _ => ?_)
        refine V.istore_n (pc := 44) C dX10_allOf_44 (L2 := [(2, .int x_2), (0, .ref a), (1, .int y1), (3, .int y3)]) (by decide) rfl ?_
        refine V.iinc (pc := 45) C dX10_allOf_45 (v := 1) (L2 := [(3, .int (y3 + 1)), (2, .int x_2), (0, .ref a), (1, .int y1)]) 3 rfl (by decide) (by decide) rfl ?_
        refine V.goto (pc := 48) C dX10_allOf_48 14 (by decide) ?_
        refine V.wk [2, 3, 1, 0] rfl ?_
        exact ih y1 x_2 (y3 + 1) m
set_option maxRecDepth 100000 in
set_option maxHeartbeats 4000000 in
theorem v_X10_allOf {l : Launch} {p : Program} {e : Env} {s : State} {mt : MethodId} {args : Array Value} {below : List Frame} {meth : Method} {c : Code} {A : Nat → Prop} {ad0 : Nat → Nat} {G : Gt} {N : Nat} (C : Cx G p s mt args meth c RX10 cX10_allOf 4 (some .int) "allOf" A) (hN : 109 ≤ N) (a : Nat) (ha : isWorld N a) (x1 : Int32) (m : Mem) : V G SX oI l p e s mt args below meth c 4 1 A ad0 N N RX N RX 0 [(0, .ref a), (1, .int x1)] [] m (X10_allOf a x1 m) := by
  rw [X10_allOf]
  refine V.iconst (pc := 0) C dX10_allOf_0 (v := 1) (by decide) ?_
  refine V.aload_n (pc := 1) C dX10_allOf_1 0 rfl ?_
  refine V.getr (pc := 2) C fl_RX10_9 ha.s ha.k rfl ha.r0 dX10_allOf_2 ?_
  refine V.geti (pc := 5) C fl_RX10_32 sX2 (kX2 hN) rfl dX10_allOf_5 ?_
  refine V.ishl (pc := 8) C dX10_allOf_8 ?_
  refine V.iconst (pc := 9) C dX10_allOf_9 (v := 1) (by decide) ?_
  refine V.isub (pc := 10) C dX10_allOf_10 ?_
  refine V.lti (fun x_1 _ => ?_)
  refine V.istore_n (pc := 11) C dX10_allOf_11 (L2 := [(2, .int x_1), (0, .ref a), (1, .int x1)]) (by decide) rfl ?_
  refine V.iconst (pc := 12) C dX10_allOf_12 (v := 0) (by decide) ?_
  refine V.istore_n (pc := 13) C dX10_allOf_13 (L2 := [(3, .int 0), (2, .int x_1), (0, .ref a), (1, .int x1)]) (by decide) rfl ?_
  refine V.wk [2, 3, 1, 0] rfl ?_
  exact v_X10_allOf_b14 C hN a ha FU x1 x_1 0 m
theorem c_X10_allOf (l : Launch) {N : Nat} (hN : 109 ≤ N) (a : Nat) (ha : isWorld N a) (x1 : Int32) (m : Mem) : Ct l yX10_allOf cX10_allOf 4 (some .int) 1 SX oI N N RX RX [.ref a, .int x1] m (X10_allOf a x1 m) :=
  Ct.of (own := RX10) (nm := "allOf") (by decide) rfl rfl (Nat.le_of_ble_eq_true rfl) (fun _ _ _ _ _ _ _ _ _ _ _ C => v_X10_allOf C hN a ha x1 m)
theorem dX10_anyOf_0 : decode cX10_anyOf 0 = .ok (.iconst 0, 1) := by decide +kernel
theorem dX10_anyOf_1 : decode cX10_anyOf 1 = .ok (.istore_n 2, 1) := by decide +kernel
theorem dX10_anyOf_2 : decode cX10_anyOf 2 = .ok (.iconst 0, 1) := by decide +kernel
theorem dX10_anyOf_3 : decode cX10_anyOf 3 = .ok (.istore_n 3, 1) := by decide +kernel
theorem dX10_anyOf_4 : decode cX10_anyOf 4 = .ok (.iload_n 3, 1) := by decide +kernel
theorem dX10_anyOf_5 : decode cX10_anyOf 5 = .ok (.aload_n 0, 1) := by decide +kernel
theorem dX10_anyOf_6 : decode cX10_anyOf 6 = .ok (.getfield 9, 3) := by decide +kernel
theorem dX10_anyOf_9 : decode cX10_anyOf 9 = .ok (.getfield 26, 3) := by decide +kernel
theorem dX10_anyOf_12 : decode cX10_anyOf 12 = .ok (.if_icmp .ge 29, 3) := by decide +kernel
theorem dX10_anyOf_15 : decode cX10_anyOf 15 = .ok (.iload_n 1, 1) := by decide +kernel
theorem dX10_anyOf_16 : decode cX10_anyOf 16 = .ok (.iconst 1, 1) := by decide +kernel
theorem dX10_anyOf_17 : decode cX10_anyOf 17 = .ok (.iload_n 3, 1) := by decide +kernel
theorem dX10_anyOf_18 : decode cX10_anyOf 18 = .ok (.ishl, 1) := by decide +kernel
theorem dX10_anyOf_19 : decode cX10_anyOf 19 = .ok (.iand, 1) := by decide +kernel
theorem dX10_anyOf_20 : decode cX10_anyOf 20 = .ok (.ifCond .eq 15, 3) := by decide +kernel
theorem dX10_anyOf_23 : decode cX10_anyOf 23 = .ok (.iload_n 2, 1) := by decide +kernel
theorem dX10_anyOf_24 : decode cX10_anyOf 24 = .ok (.aload_n 0, 1) := by decide +kernel
theorem dX10_anyOf_25 : decode cX10_anyOf 25 = .ok (.getfield 22, 3) := by decide +kernel
theorem dX10_anyOf_28 : decode cX10_anyOf 28 = .ok (.getfield 84, 3) := by decide +kernel
theorem dX10_anyOf_31 : decode cX10_anyOf 31 = .ok (.iload_n 3, 1) := by decide +kernel
theorem dX10_anyOf_32 : decode cX10_anyOf 32 = .ok (.iaload, 1) := by decide +kernel
theorem dX10_anyOf_33 : decode cX10_anyOf 33 = .ok (.ior, 1) := by decide +kernel
theorem dX10_anyOf_34 : decode cX10_anyOf 34 = .ok (.istore_n 2, 1) := by decide +kernel
theorem dX10_anyOf_35 : decode cX10_anyOf 35 = .ok (.iinc 3 1, 3) := by decide +kernel
theorem dX10_anyOf_38 : decode cX10_anyOf 38 = .ok (.goto (-34), 3) := by decide +kernel
theorem dX10_anyOf_41 : decode cX10_anyOf 41 = .ok (.iload_n 2, 1) := by decide +kernel
theorem dX10_anyOf_42 : decode cX10_anyOf 42 = .ok (.ireturn, 1) := by decide +kernel
set_option maxRecDepth 100000 in
set_option maxHeartbeats 4000000 in
theorem v_X10_anyOf_b4 {l : Launch} {p : Program} {e : Env} {s : State} {mt : MethodId} {args : Array Value} {below : List Frame} {meth : Method} {c : Code} {A : Nat → Prop} {ad0 : Nat → Nat} {G : Gt} {N : Nat} (C : Cx G p s mt args meth c RX10 cX10_anyOf 4 (some .int) "anyOf" A) (hN : 109 ≤ N) (a : Nat) (ha : isWorld N a) : ∀ (n : Nat) (y1 : Int32) (y2 : Int32) (y3 : Int32) (m : Mem), V G SX oI l p e s mt args below meth c 4 1 A ad0 N N RX N RX 4 [(0, .ref a), (1, .int y1), (2, .int y2), (3, .int y3)] [] m (X10_anyOf_b4 a n y1 y2 y3 m) := by
  intro n
  induction n with
  | zero =>
    intro y1 y2 y3 m
    rw [X10_anyOf_b4]
    exact V.nil
  | succ n ih =>
    intro y1 y2 y3 m
    rw [X10_anyOf_b4]
    refine V.iload_n (pc := 4) C dX10_anyOf_4 3 rfl ?_
    refine V.aload_n (pc := 5) C dX10_anyOf_5 0 rfl ?_
    refine V.getr (pc := 6) C fl_RX10_9 ha.s ha.k rfl ha.r0 dX10_anyOf_6 ?_
    refine V.geti (pc := 9) C fl_RX10_26 sX2 (kX2 hN) rfl dX10_anyOf_9 ?_
    refine V.icmp_ge (pc := 12) C dX10_anyOf_12 41 (by decide) (fun _ => ?_) (fun _ => ?_)
    · refine V.iload_n (pc := 41) C dX10_anyOf_41 2 rfl ?_
      exact V.iret C dX10_anyOf_42
    · refine V.iload_n (pc := 15) C dX10_anyOf_15 1 rfl ?_
      refine V.iconst (pc := 16) C dX10_anyOf_16 (v := 1) (by decide) ?_
      refine V.iload_n (pc := 17) C dX10_anyOf_17 3 rfl ?_
      refine V.ishl (pc := 18) C dX10_anyOf_18 ?_
      refine V.iand (pc := 19) C dX10_anyOf_19 ?_
      refine V.if_eq (pc := 20) C dX10_anyOf_20 35 (by decide) (fun _ => ?_) (fun _ => ?_)
      · refine V.iinc (pc := 35) C dX10_anyOf_35 (v := 1) (L2 := [(3, .int (y3 + 1)), (0, .ref a), (1, .int y1), (2, .int y2)]) 3 rfl (by decide) (by decide) rfl ?_
        refine V.goto (pc := 38) C dX10_anyOf_38 4 (by decide) ?_
        refine V.wk [1, 2, 3, 0] rfl ?_
        exact ih y1 y2 (y3 + 1) m
      · refine V.iload_n (pc := 23) C dX10_anyOf_23 2 rfl ?_
        refine V.aload_n (pc := 24) C dX10_anyOf_24 0 rfl ?_
        refine V.getr (pc := 25) C fl_RX10_22 ha.s ha.k rfl ha.r2 dX10_anyOf_25 ?_
        refine V.getr (pc := 28) C fl_RX10_84 ha.life.s ha.life.k rfl ha.life.r3 dX10_anyOf_28 ?_
        refine V.iload_n (pc := 31) C dX10_anyOf_31 3 rfl ?_
        refine V.iald (pc := 32) C ha.life.s3 ha.life.k3 dX10_anyOf_32 (fun _ => ?_)
        refine V.ior (pc := 33) C dX10_anyOf_33 ?_
        refine V.lti (fun x_1 _ => ?_)
        refine V.istore_n (pc := 34) C dX10_anyOf_34 (L2 := [(2, .int x_1), (0, .ref a), (1, .int y1), (3, .int y3)]) (by decide) rfl ?_
        refine V.iinc (pc := 35) C dX10_anyOf_35 (v := 1) (L2 := [(3, .int (y3 + 1)), (2, .int x_1), (0, .ref a), (1, .int y1)]) 3 rfl (by decide) (by decide) rfl ?_
        refine V.goto (pc := 38) C dX10_anyOf_38 4 (by decide) ?_
        refine V.wk [2, 3, 1, 0] rfl ?_
        exact ih y1 x_1 (y3 + 1) m
set_option maxRecDepth 100000 in
set_option maxHeartbeats 4000000 in
theorem v_X10_anyOf {l : Launch} {p : Program} {e : Env} {s : State} {mt : MethodId} {args : Array Value} {below : List Frame} {meth : Method} {c : Code} {A : Nat → Prop} {ad0 : Nat → Nat} {G : Gt} {N : Nat} (C : Cx G p s mt args meth c RX10 cX10_anyOf 4 (some .int) "anyOf" A) (hN : 109 ≤ N) (a : Nat) (ha : isWorld N a) (x1 : Int32) (m : Mem) : V G SX oI l p e s mt args below meth c 4 1 A ad0 N N RX N RX 0 [(0, .ref a), (1, .int x1)] [] m (X10_anyOf a x1 m) := by
  rw [X10_anyOf]
  refine V.iconst (pc := 0) C dX10_anyOf_0 (v := 0) (by decide) ?_
  refine V.istore_n (pc := 1) C dX10_anyOf_1 (L2 := [(2, .int 0), (0, .ref a), (1, .int x1)]) (by decide) rfl ?_
  refine V.iconst (pc := 2) C dX10_anyOf_2 (v := 0) (by decide) ?_
  refine V.istore_n (pc := 3) C dX10_anyOf_3 (L2 := [(3, .int 0), (2, .int 0), (0, .ref a), (1, .int x1)]) (by decide) rfl ?_
  refine V.wk [2, 3, 1, 0] rfl ?_
  exact v_X10_anyOf_b4 C hN a ha FU x1 0 0 m
theorem c_X10_anyOf (l : Launch) {N : Nat} (hN : 109 ≤ N) (a : Nat) (ha : isWorld N a) (x1 : Int32) (m : Mem) : Ct l yX10_anyOf cX10_anyOf 4 (some .int) 1 SX oI N N RX RX [.ref a, .int x1] m (X10_anyOf a x1 m) :=
  Ct.of (own := RX10) (nm := "anyOf") (by decide) rfl rfl (Nat.le_of_ble_eq_true rfl) (fun _ _ _ _ _ _ _ _ _ _ _ C => v_X10_anyOf C hN a ha x1 m)
theorem dX10_isPerson_0 : decode cX10_isPerson 0 = .ok (.iload_n 1, 1) := by decide +kernel
theorem dX10_isPerson_1 : decode cX10_isPerson 1 = .ok (.ifCond .lt 18, 3) := by decide +kernel
theorem dX10_isPerson_4 : decode cX10_isPerson 4 = .ok (.iload_n 1, 1) := by decide +kernel
theorem dX10_isPerson_5 : decode cX10_isPerson 5 = .ok (.aload_n 0, 1) := by decide +kernel
theorem dX10_isPerson_6 : decode cX10_isPerson 6 = .ok (.getfield 9, 3) := by decide +kernel
theorem dX10_isPerson_9 : decode cX10_isPerson 9 = .ok (.getfield 26, 3) := by decide +kernel
theorem dX10_isPerson_12 : decode cX10_isPerson 12 = .ok (.if_icmp .ge 7, 3) := by decide +kernel
theorem dX10_isPerson_15 : decode cX10_isPerson 15 = .ok (.iconst 1, 1) := by decide +kernel
theorem dX10_isPerson_16 : decode cX10_isPerson 16 = .ok (.goto 4, 3) := by decide +kernel
theorem dX10_isPerson_19 : decode cX10_isPerson 19 = .ok (.iconst 0, 1) := by decide +kernel
theorem dX10_isPerson_20 : decode cX10_isPerson 20 = .ok (.ireturn, 1) := by decide +kernel
set_option maxRecDepth 100000 in
set_option maxHeartbeats 4000000 in
theorem v_X10_isPerson {l : Launch} {p : Program} {e : Env} {s : State} {mt : MethodId} {args : Array Value} {below : List Frame} {meth : Method} {c : Code} {A : Nat → Prop} {ad0 : Nat → Nat} {G : Gt} {N : Nat} (C : Cx G p s mt args meth c RX10 cX10_isPerson 2 (some .boolean) "isPerson" A) (hN : 109 ≤ N) (a : Nat) (ha : isWorld N a) (x1 : Int32) (m : Mem) : V G SX oI l p e s mt args below meth c 2 1 A ad0 N N RX N RX 0 [(0, .ref a), (1, .int x1)] [] m (X10_isPerson a x1 m) := by
  rw [X10_isPerson]
  refine V.iload_n (pc := 0) C dX10_isPerson_0 1 rfl ?_
  refine V.if_lt (pc := 1) C dX10_isPerson_1 19 (by decide) (fun _ => ?_) (fun _ => ?_)
  · refine V.iconst (pc := 19) C dX10_isPerson_19 (v := 0) (by decide) ?_
    exact V.zret rfl C dX10_isPerson_20
  · refine V.iload_n (pc := 4) C dX10_isPerson_4 1 rfl ?_
    refine V.aload_n (pc := 5) C dX10_isPerson_5 0 rfl ?_
    refine V.getr (pc := 6) C fl_RX10_9 ha.s ha.k rfl ha.r0 dX10_isPerson_6 ?_
    refine V.geti (pc := 9) C fl_RX10_26 sX2 (kX2 hN) rfl dX10_isPerson_9 ?_
    refine V.icmp_ge (pc := 12) C dX10_isPerson_12 19 (by decide) (fun _ => ?_) (fun _ => ?_)
    · refine V.iconst (pc := 19) C dX10_isPerson_19 (v := 0) (by decide) ?_
      exact V.zret rfl C dX10_isPerson_20
    · refine V.iconst (pc := 15) C dX10_isPerson_15 (v := 1) (by decide) ?_
      refine V.goto (pc := 16) C dX10_isPerson_16 20 (by decide) ?_
      exact V.zret rfl C dX10_isPerson_20
theorem c_X10_isPerson (l : Launch) {N : Nat} (hN : 109 ≤ N) (a : Nat) (ha : isWorld N a) (x1 : Int32) (m : Mem) : Ct l yX10_isPerson cX10_isPerson 2 (some .boolean) 1 SX oI N N RX RX [.ref a, .int x1] m (X10_isPerson a x1 m) :=
  Ct.of (own := RX10) (nm := "isPerson") (by decide) rfl rfl (Nat.le_of_ble_eq_true rfl) (fun _ _ _ _ _ _ _ _ _ _ _ C => v_X10_isPerson C hN a ha x1 m)
theorem dX10_areTwo_0 : decode cX10_areTwo 0 = .ok (.aload_n 0, 1) := by decide +kernel
theorem dX10_areTwo_1 : decode cX10_areTwo 1 = .ok (.iload_n 1, 1) := by decide +kernel
theorem dX10_areTwo_2 : decode cX10_areTwo 2 = .ok (.invokevirtual 35, 3) := by decide +kernel
theorem dX10_areTwo_5 : decode cX10_areTwo 5 = .ok (.ifCond .eq 20, 3) := by decide +kernel
theorem dX10_areTwo_8 : decode cX10_areTwo 8 = .ok (.aload_n 0, 1) := by decide +kernel
theorem dX10_areTwo_9 : decode cX10_areTwo 9 = .ok (.iload_n 2, 1) := by decide +kernel
theorem dX10_areTwo_10 : decode cX10_areTwo 10 = .ok (.invokevirtual 35, 3) := by decide +kernel
theorem dX10_areTwo_13 : decode cX10_areTwo 13 = .ok (.ifCond .eq 12, 3) := by decide +kernel
theorem dX10_areTwo_16 : decode cX10_areTwo 16 = .ok (.iload_n 1, 1) := by decide +kernel
theorem dX10_areTwo_17 : decode cX10_areTwo 17 = .ok (.iload_n 2, 1) := by decide +kernel
theorem dX10_areTwo_18 : decode cX10_areTwo 18 = .ok (.if_icmp .eq 7, 3) := by decide +kernel
theorem dX10_areTwo_21 : decode cX10_areTwo 21 = .ok (.iconst 1, 1) := by decide +kernel
theorem dX10_areTwo_22 : decode cX10_areTwo 22 = .ok (.goto 4, 3) := by decide +kernel
theorem dX10_areTwo_25 : decode cX10_areTwo 25 = .ok (.iconst 0, 1) := by decide +kernel
theorem dX10_areTwo_26 : decode cX10_areTwo 26 = .ok (.ireturn, 1) := by decide +kernel
set_option maxRecDepth 100000 in
set_option maxHeartbeats 4000000 in
theorem v_X10_areTwo {l : Launch} {p : Program} {e : Env} {s : State} {mt : MethodId} {args : Array Value} {below : List Frame} {meth : Method} {c : Code} {A : Nat → Prop} {ad0 : Nat → Nat} {G : Gt} {N : Nat} (C : Cx G p s mt args meth c RX10 cX10_areTwo 3 (some .boolean) "areTwo" A) (hN : 109 ≤ N) (a : Nat) (ha : isWorld N a) (x1 : Int32) (x2 : Int32) (m : Mem) : V G SX oI l p e s mt args below meth c 3 2 A ad0 N N RX N RX 0 [(0, .ref a), (1, .int x1), (2, .int x2)] [] m (X10_areTwo a x1 x2 m) := by
  rw [X10_areTwo]
  refine V.aload_n (pc := 0) C dX10_areTwo_0 0 rfl ?_
  refine V.iload_n (pc := 1) C dX10_areTwo_1 1 rfl ?_
  refine V.callV (pc := 2) (st := []) C (c_X10_isPerson l hN a ha x1 m) obI ck_X10_isPerson ml_RX10_35 rfl rfl ha.s ha.k rfl rfl (Nat.le_of_ble_eq_true rfl) ⟨by decide, by decide⟩ dX10_areTwo_2 (fun r_1 m_2 _ => ?_)
  refine V.if_eq (pc := 5) C dX10_areTwo_5 25 (by decide) (fun _ => ?_) (fun _ => ?_)
  · refine V.iconst (pc := 25) C dX10_areTwo_25 (v := 0) (by decide) ?_
    exact V.zret rfl C dX10_areTwo_26
  · refine V.aload_n (pc := 8) C dX10_areTwo_8 0 rfl ?_
    refine V.iload_n (pc := 9) C dX10_areTwo_9 2 rfl ?_
    refine V.callV (pc := 10) (st := []) C (c_X10_isPerson l hN a ha x2 m_2) obI ck_X10_isPerson ml_RX10_35 rfl rfl ha.s ha.k rfl rfl (Nat.le_of_ble_eq_true rfl) ⟨by decide, by decide⟩ dX10_areTwo_10 (fun r_3 m_4 _ => ?_)
    refine V.if_eq (pc := 13) C dX10_areTwo_13 25 (by decide) (fun _ => ?_) (fun _ => ?_)
    · refine V.iconst (pc := 25) C dX10_areTwo_25 (v := 0) (by decide) ?_
      exact V.zret rfl C dX10_areTwo_26
    · refine V.iload_n (pc := 16) C dX10_areTwo_16 1 rfl ?_
      refine V.iload_n (pc := 17) C dX10_areTwo_17 2 rfl ?_
      refine V.icmp_eq (pc := 18) C dX10_areTwo_18 25 (by decide) (fun _ => ?_) (fun _ => ?_)
      · refine V.iconst (pc := 25) C dX10_areTwo_25 (v := 0) (by decide) ?_
        exact V.zret rfl C dX10_areTwo_26
      · refine V.iconst (pc := 21) C dX10_areTwo_21 (v := 1) (by decide) ?_
        refine V.goto (pc := 22) C dX10_areTwo_22 26 (by decide) ?_
        exact V.zret rfl C dX10_areTwo_26
theorem c_X10_areTwo (l : Launch) {N : Nat} (hN : 109 ≤ N) (a : Nat) (ha : isWorld N a) (x1 : Int32) (x2 : Int32) (m : Mem) : Ct l yX10_areTwo cX10_areTwo 3 (some .boolean) 2 SX oI N N RX RX [.ref a, .int x1, .int x2] m (X10_areTwo a x1 x2 m) :=
  Ct.of (own := RX10) (nm := "areTwo") (by decide) rfl rfl (Nat.le_of_ble_eq_true rfl) (fun _ _ _ _ _ _ _ _ _ _ _ C => v_X10_areTwo C hN a ha x1 x2 m)
theorem dX5_has_0 : decode cX5_has 0 = .ok (.aload_n 0, 1) := by decide +kernel
theorem dX5_has_1 : decode cX5_has 1 = .ok (.getfield 18, 3) := by decide +kernel
theorem dX5_has_4 : decode cX5_has 4 = .ok (.iload_n 1, 1) := by decide +kernel
theorem dX5_has_5 : decode cX5_has 5 = .ok (.iaload, 1) := by decide +kernel
theorem dX5_has_6 : decode cX5_has 6 = .ok (.iconst 1, 1) := by decide +kernel
theorem dX5_has_7 : decode cX5_has 7 = .ok (.iload_n 2, 1) := by decide +kernel
theorem dX5_has_8 : decode cX5_has 8 = .ok (.ishl, 1) := by decide +kernel
theorem dX5_has_9 : decode cX5_has 9 = .ok (.iand, 1) := by decide +kernel
theorem dX5_has_10 : decode cX5_has 10 = .ok (.ifCond .eq 7, 3) := by decide +kernel
theorem dX5_has_13 : decode cX5_has 13 = .ok (.iconst 1, 1) := by decide +kernel
theorem dX5_has_14 : decode cX5_has 14 = .ok (.goto 4, 3) := by decide +kernel
theorem dX5_has_17 : decode cX5_has 17 = .ok (.iconst 0, 1) := by decide +kernel
theorem dX5_has_18 : decode cX5_has 18 = .ok (.ireturn, 1) := by decide +kernel
set_option maxRecDepth 100000 in
set_option maxHeartbeats 4000000 in
theorem v_X5_has {l : Launch} {p : Program} {e : Env} {s : State} {mt : MethodId} {args : Array Value} {below : List Frame} {meth : Method} {c : Code} {A : Nat → Prop} {ad0 : Nat → Nat} {G : Gt} {N : Nat} (C : Cx G p s mt args meth c RX5 cX5_has 3 (some .boolean) "has" A) (hN : 109 ≤ N) (a : Nat) (ha : isLife N a) (x1 : Int32) (x2 : Int32) (m : Mem) : V G SX oI l p e s mt args below meth c 3 1 A ad0 N N RX N RX 0 [(0, .ref a), (1, .int x1), (2, .int x2)] [] m (X5_has a x1 x2 m) := by
  rw [X5_has]
  refine V.aload_n (pc := 0) C dX5_has_0 0 rfl ?_
  refine V.getr (pc := 1) C fl_RX5_18 ha.s ha.k rfl ha.r3 dX5_has_1 ?_
  refine V.iload_n (pc := 4) C dX5_has_4 1 rfl ?_
  refine V.iald (pc := 5) C ha.s3 ha.k3 dX5_has_5 (fun _ => ?_)
  refine V.iconst (pc := 6) C dX5_has_6 (v := 1) (by decide) ?_
  refine V.iload_n (pc := 7) C dX5_has_7 2 rfl ?_
  refine V.ishl (pc := 8) C dX5_has_8 ?_
  refine V.iand (pc := 9) C dX5_has_9 ?_
  refine V.if_eq (pc := 10) C dX5_has_10 17 (by decide) (fun _ => ?_) (fun _ => ?_)
  · refine V.iconst (pc := 17) C dX5_has_17 (v := 0) (by decide) ?_
    exact V.zret rfl C dX5_has_18
  · refine V.iconst (pc := 13) C dX5_has_13 (v := 1) (by decide) ?_
    refine V.goto (pc := 14) C dX5_has_14 18 (by decide) ?_
    exact V.zret rfl C dX5_has_18
theorem c_X5_has (l : Launch) {N : Nat} (hN : 109 ≤ N) (a : Nat) (ha : isLife N a) (x1 : Int32) (x2 : Int32) (m : Mem) : Ct l yX5_has cX5_has 3 (some .boolean) 1 SX oI N N RX RX [.ref a, .int x1, .int x2] m (X5_has a x1 x2 m) :=
  Ct.of (own := RX5) (nm := "has") (by decide) rfl rfl (Nat.le_of_ble_eq_true rfl) (fun _ _ _ _ _ _ _ _ _ _ _ C => v_X5_has C hN a ha x1 x2 m)
theorem dX5_drop_0 : decode cX5_drop 0 = .ok (.aload_n 0, 1) := by decide +kernel
theorem dX5_drop_1 : decode cX5_drop 1 = .ok (.getfield 18, 3) := by decide +kernel
theorem dX5_drop_4 : decode cX5_drop 4 = .ok (.iload_n 1, 1) := by decide +kernel
theorem dX5_drop_5 : decode cX5_drop 5 = .ok (.dup2, 1) := by decide +kernel
theorem dX5_drop_6 : decode cX5_drop 6 = .ok (.iaload, 1) := by decide +kernel
theorem dX5_drop_7 : decode cX5_drop 7 = .ok (.iconst 1, 1) := by decide +kernel
theorem dX5_drop_8 : decode cX5_drop 8 = .ok (.iload_n 2, 1) := by decide +kernel
theorem dX5_drop_9 : decode cX5_drop 9 = .ok (.ishl, 1) := by decide +kernel
theorem dX5_drop_10 : decode cX5_drop 10 = .ok (.iconst (-1), 1) := by decide +kernel
theorem dX5_drop_11 : decode cX5_drop 11 = .ok (.ixor, 1) := by decide +kernel
theorem dX5_drop_12 : decode cX5_drop 12 = .ok (.iand, 1) := by decide +kernel
theorem dX5_drop_13 : decode cX5_drop 13 = .ok (.iastore, 1) := by decide +kernel
theorem dX5_drop_14 : decode cX5_drop 14 = .ok (.aload_n 0, 1) := by decide +kernel
theorem dX5_drop_15 : decode cX5_drop 15 = .ok (.getfield 21, 3) := by decide +kernel
theorem dX5_drop_18 : decode cX5_drop 18 = .ok (.iload_n 2, 1) := by decide +kernel
theorem dX5_drop_19 : decode cX5_drop 19 = .ok (.dup2, 1) := by decide +kernel
theorem dX5_drop_20 : decode cX5_drop 20 = .ok (.iaload, 1) := by decide +kernel
theorem dX5_drop_21 : decode cX5_drop 21 = .ok (.iconst 1, 1) := by decide +kernel
theorem dX5_drop_22 : decode cX5_drop 22 = .ok (.iload_n 1, 1) := by decide +kernel
theorem dX5_drop_23 : decode cX5_drop 23 = .ok (.ishl, 1) := by decide +kernel
theorem dX5_drop_24 : decode cX5_drop 24 = .ok (.iconst (-1), 1) := by decide +kernel
theorem dX5_drop_25 : decode cX5_drop 25 = .ok (.ixor, 1) := by decide +kernel
theorem dX5_drop_26 : decode cX5_drop 26 = .ok (.iand, 1) := by decide +kernel
theorem dX5_drop_27 : decode cX5_drop 27 = .ok (.iastore, 1) := by decide +kernel
theorem dX5_drop_28 : decode cX5_drop 28 = .ok (.return_, 1) := by decide +kernel
set_option maxRecDepth 100000 in
set_option maxHeartbeats 4000000 in
theorem v_X5_drop {l : Launch} {p : Program} {e : Env} {s : State} {mt : MethodId} {args : Array Value} {below : List Frame} {meth : Method} {c : Code} {A : Nat → Prop} {ad0 : Nat → Nat} {G : Gt} {N : Nat} (C : Cx G p s mt args meth c RX5 cX5_drop 3 none "drop" A) (hN : 109 ≤ N) (a : Nat) (ha : isLife N a) (x1 : Int32) (x2 : Int32) (m : Mem) : V G SX oV l p e s mt args below meth c 3 1 A ad0 N N RX N RX 0 [(0, .ref a), (1, .int x1), (2, .int x2)] [] m (X5_drop a x1 x2 m) := by
  rw [X5_drop]
  refine V.aload_n (pc := 0) C dX5_drop_0 0 rfl ?_
  refine V.getr (pc := 1) C fl_RX5_18 ha.s ha.k rfl ha.r3 dX5_drop_1 ?_
  refine V.iload_n (pc := 4) C dX5_drop_4 1 rfl ?_
  refine V.dup2 (pc := 5) C dX5_drop_5 rfl rfl ?_
  refine V.iald (pc := 6) C ha.s3 ha.k3 dX5_drop_6 (fun _ => ?_)
  refine V.iconst (pc := 7) C dX5_drop_7 (v := 1) (by decide) ?_
  refine V.iload_n (pc := 8) C dX5_drop_8 2 rfl ?_
  refine V.ishl (pc := 9) C dX5_drop_9 ?_
  refine V.iconst (pc := 10) C dX5_drop_10 (v := (-1)) (by decide) ?_
  refine V.ixor (pc := 11) C dX5_drop_11 ?_
  refine V.iand (pc := 12) C dX5_drop_12 ?_
  refine V.iast (pc := 13) C ha.s3 ha.k3 dX5_drop_13 (fun _ => ?_)
  refine V.ltm (fun m_1 => ?_)
  refine V.aload_n (pc := 14) C dX5_drop_14 0 rfl ?_
  refine V.getr (pc := 15) C fl_RX5_21 ha.s ha.k rfl ha.r4 dX5_drop_15 ?_
  refine V.iload_n (pc := 18) C dX5_drop_18 2 rfl ?_
  refine V.dup2 (pc := 19) C dX5_drop_19 rfl rfl ?_
  refine V.iald (pc := 20) C ha.s4 ha.k4 dX5_drop_20 (fun _ => ?_)
  refine V.iconst (pc := 21) C dX5_drop_21 (v := 1) (by decide) ?_
  refine V.iload_n (pc := 22) C dX5_drop_22 1 rfl ?_
  refine V.ishl (pc := 23) C dX5_drop_23 ?_
  refine V.iconst (pc := 24) C dX5_drop_24 (v := (-1)) (by decide) ?_
  refine V.ixor (pc := 25) C dX5_drop_25 ?_
  refine V.iand (pc := 26) C dX5_drop_26 ?_
  refine V.iast (pc := 27) C ha.s4 ha.k4 dX5_drop_27 (fun _ => ?_)
  refine V.ltm (fun m_2 => ?_)
  exact V.vret C dX5_drop_28
theorem c_X5_drop (l : Launch) {N : Nat} (hN : 109 ≤ N) (a : Nat) (ha : isLife N a) (x1 : Int32) (x2 : Int32) (m : Mem) : Ct l yX5_drop cX5_drop 3 none 1 SX oV N N RX RX [.ref a, .int x1, .int x2] m (X5_drop a x1 x2 m) :=
  Ct.of (own := RX5) (nm := "drop") (by decide) rfl rfl (Nat.le_of_ble_eq_true rfl) (fun _ _ _ _ _ _ _ _ _ _ _ C => v_X5_drop C hN a ha x1 x2 m)
theorem dX10_growOlder_0 : decode cX10_growOlder 0 = .ok (.iconst 0, 1) := by decide +kernel
theorem dX10_growOlder_1 : decode cX10_growOlder 1 = .ok (.istore_n 2, 1) := by decide +kernel
theorem dX10_growOlder_2 : decode cX10_growOlder 2 = .ok (.aload_n 0, 1) := by decide +kernel
theorem dX10_growOlder_3 : decode cX10_growOlder 3 = .ok (.getfield 22, 3) := by decide +kernel
theorem dX10_growOlder_6 : decode cX10_growOlder 6 = .ok (.getfield 57, 3) := by decide +kernel
theorem dX10_growOlder_9 : decode cX10_growOlder 9 = .ok (.iload_n 1, 1) := by decide +kernel
theorem dX10_growOlder_10 : decode cX10_growOlder 10 = .ok (.dup2, 1) := by decide +kernel
theorem dX10_growOlder_11 : decode cX10_growOlder 11 = .ok (.iaload, 1) := by decide +kernel
theorem dX10_growOlder_12 : decode cX10_growOlder 12 = .ok (.iconst 1, 1) := by decide +kernel
theorem dX10_growOlder_13 : decode cX10_growOlder 13 = .ok (.iadd, 1) := by decide +kernel
theorem dX10_growOlder_14 : decode cX10_growOlder 14 = .ok (.iastore, 1) := by decide +kernel
theorem dX10_growOlder_15 : decode cX10_growOlder 15 = .ok (.iconst 0, 1) := by decide +kernel
theorem dX10_growOlder_16 : decode cX10_growOlder 16 = .ok (.istore_n 3, 1) := by decide +kernel
theorem dX10_growOlder_17 : decode cX10_growOlder 17 = .ok (.iload_n 3, 1) := by decide +kernel
theorem dX10_growOlder_18 : decode cX10_growOlder 18 = .ok (.aload_n 0, 1) := by decide +kernel
theorem dX10_growOlder_19 : decode cX10_growOlder 19 = .ok (.getfield 9, 3) := by decide +kernel
theorem dX10_growOlder_22 : decode cX10_growOlder 22 = .ok (.getfield 32, 3) := by decide +kernel
theorem dX10_growOlder_25 : decode cX10_growOlder 25 = .ok (.if_icmp .ge 89, 3) := by decide +kernel
theorem dX10_growOlder_28 : decode cX10_growOlder 28 = .ok (.aload_n 0, 1) := by decide +kernel
theorem dX10_growOlder_29 : decode cX10_growOlder 29 = .ok (.getfield 22, 3) := by decide +kernel
theorem dX10_growOlder_32 : decode cX10_growOlder 32 = .ok (.iload_n 1, 1) := by decide +kernel
theorem dX10_growOlder_33 : decode cX10_growOlder 33 = .ok (.iload_n 3, 1) := by decide +kernel
theorem dX10_growOlder_34 : decode cX10_growOlder 34 = .ok (.invokevirtual 107, 3) := by decide +kernel
theorem dX10_growOlder_37 : decode cX10_growOlder 37 = .ok (.ifCond .eq 71, 3) := by decide +kernel
theorem dX10_growOlder_40 : decode cX10_growOlder 40 = .ok (.iload_n 1, 1) := by decide +kernel
theorem dX10_growOlder_41 : decode cX10_growOlder 41 = .ok (.bipush 14, 2) := by decide +kernel
theorem dX10_growOlder_43 : decode cX10_growOlder 43 = .ok (.imul, 1) := by decide +kernel
theorem dX10_growOlder_44 : decode cX10_growOlder 44 = .ok (.iload_n 3, 1) := by decide +kernel
theorem dX10_growOlder_45 : decode cX10_growOlder 45 = .ok (.iadd, 1) := by decide +kernel
theorem dX10_growOlder_46 : decode cX10_growOlder 46 = .ok (.istore 4, 2) := by decide +kernel
theorem dX10_growOlder_48 : decode cX10_growOlder 48 = .ok (.aload_n 0, 1) := by decide +kernel
theorem dX10_growOlder_49 : decode cX10_growOlder 49 = .ok (.getfield 22, 3) := by decide +kernel
theorem dX10_growOlder_52 : decode cX10_growOlder 52 = .ok (.getfield 169, 3) := by decide +kernel
theorem dX10_growOlder_55 : decode cX10_growOlder 55 = .ok (.iload 4, 2) := by decide +kernel
theorem dX10_growOlder_57 : decode cX10_growOlder 57 = .ok (.dup2, 1) := by decide +kernel
theorem dX10_growOlder_58 : decode cX10_growOlder 58 = .ok (.iaload, 1) := by decide +kernel
theorem dX10_growOlder_59 : decode cX10_growOlder 59 = .ok (.iconst 1, 1) := by decide +kernel
theorem dX10_growOlder_60 : decode cX10_growOlder 60 = .ok (.iadd, 1) := by decide +kernel
theorem dX10_growOlder_61 : decode cX10_growOlder 61 = .ok (.iastore, 1) := by decide +kernel
theorem dX10_growOlder_62 : decode cX10_growOlder 62 = .ok (.aload_n 0, 1) := by decide +kernel
theorem dX10_growOlder_63 : decode cX10_growOlder 63 = .ok (.getfield 9, 3) := by decide +kernel
theorem dX10_growOlder_66 : decode cX10_growOlder 66 = .ok (.getfield 172, 3) := by decide +kernel
theorem dX10_growOlder_69 : decode cX10_growOlder 69 = .ok (.iload_n 3, 1) := by decide +kernel
theorem dX10_growOlder_70 : decode cX10_growOlder 70 = .ok (.iaload, 1) := by decide +kernel
theorem dX10_growOlder_71 : decode cX10_growOlder 71 = .ok (.ifCond .le 37, 3) := by decide +kernel
theorem dX10_growOlder_74 : decode cX10_growOlder 74 = .ok (.aload_n 0, 1) := by decide +kernel
theorem dX10_growOlder_75 : decode cX10_growOlder 75 = .ok (.getfield 22, 3) := by decide +kernel
theorem dX10_growOlder_78 : decode cX10_growOlder 78 = .ok (.getfield 169, 3) := by decide +kernel
theorem dX10_growOlder_81 : decode cX10_growOlder 81 = .ok (.iload 4, 2) := by decide +kernel
theorem dX10_growOlder_83 : decode cX10_growOlder 83 = .ok (.iaload, 1) := by decide +kernel
theorem dX10_growOlder_84 : decode cX10_growOlder 84 = .ok (.aload_n 0, 1) := by decide +kernel
theorem dX10_growOlder_85 : decode cX10_growOlder 85 = .ok (.getfield 9, 3) := by decide +kernel
theorem dX10_growOlder_88 : decode cX10_growOlder 88 = .ok (.getfield 172, 3) := by decide +kernel
theorem dX10_growOlder_91 : decode cX10_growOlder 91 = .ok (.iload_n 3, 1) := by decide +kernel
theorem dX10_growOlder_92 : decode cX10_growOlder 92 = .ok (.iaload, 1) := by decide +kernel
theorem dX10_growOlder_93 : decode cX10_growOlder 93 = .ok (.if_icmp .lt 15, 3) := by decide +kernel
theorem dX10_growOlder_96 : decode cX10_growOlder 96 = .ok (.aload_n 0, 1) := by decide +kernel
theorem dX10_growOlder_97 : decode cX10_growOlder 97 = .ok (.getfield 22, 3) := by decide +kernel
theorem dX10_growOlder_100 : decode cX10_growOlder 100 = .ok (.iload_n 1, 1) := by decide +kernel
theorem dX10_growOlder_101 : decode cX10_growOlder 101 = .ok (.iload_n 3, 1) := by decide +kernel
theorem dX10_growOlder_102 : decode cX10_growOlder 102 = .ok (.invokevirtual 116, 3) := by decide +kernel
theorem dX10_growOlder_105 : decode cX10_growOlder 105 = .ok (.iinc 2 1, 3) := by decide +kernel
theorem dX10_growOlder_108 : decode cX10_growOlder 108 = .ok (.iinc 3 1, 3) := by decide +kernel
theorem dX10_growOlder_111 : decode cX10_growOlder 111 = .ok (.goto (-94), 3) := by decide +kernel
theorem dX10_growOlder_114 : decode cX10_growOlder 114 = .ok (.iload_n 2, 1) := by decide +kernel
theorem dX10_growOlder_115 : decode cX10_growOlder 115 = .ok (.ireturn, 1) := by decide +kernel
set_option maxRecDepth 100000 in
set_option maxHeartbeats 4000000 in
theorem v_X10_growOlder_b17 {l : Launch} {p : Program} {e : Env} {s : State} {mt : MethodId} {args : Array Value} {below : List Frame} {meth : Method} {c : Code} {A : Nat → Prop} {ad0 : Nat → Nat} {G : Gt} {N : Nat} (C : Cx G p s mt args meth c RX10 cX10_growOlder 5 (some .int) "growOlder" A) (hN : 109 ≤ N) (a : Nat) (ha : isWorld N a) : ∀ (n : Nat) (y1 : Int32) (y2 : Int32) (y3 : Int32) (m : Mem), V G SX oI l p e s mt args below meth c 5 2 A ad0 N N RX N RX 17 [(0, .ref a), (1, .int y1), (2, .int y2), (3, .int y3)] [] m (X10_growOlder_b17 a n y1 y2 y3 m) := by
  intro n
  induction n with
  | zero =>
    intro y1 y2 y3 m
    rw [X10_growOlder_b17]
    exact V.nil
  | succ n ih =>
    intro y1 y2 y3 m
    rw [X10_growOlder_b17]
    refine V.iload_n (pc := 17) C dX10_growOlder_17 3 rfl ?_
    refine V.aload_n (pc := 18) C dX10_growOlder_18 0 rfl ?_
    refine V.getr (pc := 19) C fl_RX10_9 ha.s ha.k rfl ha.r0 dX10_growOlder_19 ?_
    refine V.geti (pc := 22) C fl_RX10_32 sX2 (kX2 hN) rfl dX10_growOlder_22 ?_
    refine V.icmp_ge (pc := 25) C dX10_growOlder_25 114 (by decide) (fun _ => ?_) (fun _ => ?_)
    · refine V.iload_n (pc := 114) C dX10_growOlder_114 2 rfl ?_
      exact V.iret C dX10_growOlder_115
    · refine V.aload_n (pc := 28) C dX10_growOlder_28 0 rfl ?_
      refine V.getr (pc := 29) C fl_RX10_22 ha.s ha.k rfl ha.r2 dX10_growOlder_29 ?_
      refine V.iload_n (pc := 32) C dX10_growOlder_32 1 rfl ?_
      refine V.iload_n (pc := 33) C dX10_growOlder_33 3 rfl ?_
      refine V.callV (pc := 34) (st := []) C (c_X5_has l hN (a + 1) ha.life y1 y3 m) obI ck_X5_has ml_RX10_107 rfl rfl ha.life.s ha.life.k rfl rfl (Nat.le_of_ble_eq_true rfl) ⟨by decide, by decide⟩ dX10_growOlder_34 (fun r_2 m_3 _ => ?_)
      refine V.if_eq (pc := 37) C dX10_growOlder_37 108 (by decide) (fun _ => ?_) (fun _ => ?_)
      · refine V.iinc (pc := 108) C dX10_growOlder_108 (v := 1) (L2 := [(3, .int (y3 + 1)), (0, .ref a), (1, .int y1), (2, .int y2)]) 3 rfl (by decide) (by decide) rfl ?_
        refine V.goto (pc := 111) C dX10_growOlder_111 17 (by decide) ?_
        refine V.wk [1, 2, 3, 0] rfl ?_
        exact ih y1 y2 (y3 + 1) m_3
      · refine V.iload_n (pc := 40) C dX10_growOlder_40 1 rfl ?_
        refine V.bipush (pc := 41) C dX10_growOlder_41 (v := 14) (by decide) ?_
        refine V.imul (pc := 43) C dX10_growOlder_43 ?_
        refine V.iload_n (pc := 44) C dX10_growOlder_44 3 rfl ?_
        refine V.iadd (pc := 45) C dX10_growOlder_45 ?_
        refine V.lti (fun x_4 _ => ?_)
        refine V.istore (pc := 46) C dX10_growOlder_46 (L2 := [(4, .int x_4), (0, .ref a), (1, .int y1), (2, .int y2), (3, .int y3)]) (by decide) rfl ?_
        refine V.aload_n (pc := 48) C dX10_growOlder_48 1 rfl ?_
        refine V.getr (pc := 49) C fl_RX10_22 ha.s ha.k rfl ha.r2 dX10_growOlder_49 ?_
        refine V.getr (pc := 52) C fl_RX10_169 ha.life.s ha.life.k rfl ha.life.r5 dX10_growOlder_52 ?_
        refine V.iload (pc := 55) C dX10_growOlder_55 0 rfl ?_
        refine V.dup2 (pc := 57) C dX10_growOlder_57 rfl rfl ?_
        refine V.iald (pc := 58) C ha.life.s5 ha.life.k5 dX10_growOlder_58 (fun _ => ?_)
        refine V.iconst (pc := 59) C dX10_growOlder_59 (v := 1) (by decide) ?_
        refine V.iadd (pc := 60) C dX10_growOlder_60 ?_
        refine V.iast (pc := 61) C ha.life.s5 ha.life.k5 dX10_growOlder_61 (fun _ => ?_)
        refine V.ltm (fun m_5 => ?_)
        refine V.aload_n (pc := 62) C dX10_growOlder_62 1 rfl ?_
        refine V.getr (pc := 63) C fl_RX10_9 ha.s ha.k rfl ha.r0 dX10_growOlder_63 ?_
        refine V.getr (pc := 66) C fl_RX10_172 sX2 (kX2 hN) rfl rX2_5 dX10_growOlder_66 ?_
        refine V.iload_n (pc := 69) C dX10_growOlder_69 4 rfl ?_
        refine V.iald (pc := 70) C sX3 (kX3 hN) dX10_growOlder_70 (fun _ => ?_)
        refine V.if_le (pc := 71) C dX10_growOlder_71 108 (by decide) (fun _ => ?_) (fun _ => ?_)
        · refine V.iinc (pc := 108) C dX10_growOlder_108 (v := 1) (L2 := [(3, .int (y3 + 1)), (4, .int x_4), (0, .ref a), (1, .int y1), (2, .int y2)]) 4 rfl (by decide) (by decide) rfl ?_
          refine V.goto (pc := 111) C dX10_growOlder_111 17 (by decide) ?_
          refine V.wk [2, 3, 4, 0] rfl ?_
          exact ih y1 y2 (y3 + 1) m_5
        · refine V.aload_n (pc := 74) C dX10_growOlder_74 1 rfl ?_
          refine V.getr (pc := 75) C fl_RX10_22 ha.s ha.k rfl ha.r2 dX10_growOlder_75 ?_
          refine V.getr (pc := 78) C fl_RX10_169 ha.life.s ha.life.k rfl ha.life.r5 dX10_growOlder_78 ?_
          refine V.iload (pc := 81) C dX10_growOlder_81 0 rfl ?_
          refine V.iald (pc := 83) C ha.life.s5 ha.life.k5 dX10_growOlder_83 (fun _ => ?_)
          refine V.aload_n (pc := 84) C dX10_growOlder_84 1 rfl ?_
          refine V.getr (pc := 85) C fl_RX10_9 ha.s ha.k rfl ha.r0 dX10_growOlder_85 ?_
          refine V.getr (pc := 88) C fl_RX10_172 sX2 (kX2 hN) rfl rX2_5 dX10_growOlder_88 ?_
          refine V.iload_n (pc := 91) C dX10_growOlder_91 4 rfl ?_
          refine V.iald (pc := 92) C sX3 (kX3 hN) dX10_growOlder_92 (fun _ => ?_)
          refine V.icmp_lt (pc := 93) C dX10_growOlder_93 108 (by decide) (fun _ => ?_) (fun _ => ?_)
          · refine V.iinc (pc := 108) C dX10_growOlder_108 (v := 1) (L2 := [(3, .int (y3 + 1)), (4, .int x_4), (0, .ref a), (1, .int y1), (2, .int y2)]) 4 rfl (by decide) (by decide) rfl ?_
            refine V.goto (pc := 111) C dX10_growOlder_111 17 (by decide) ?_
            refine V.wk [2, 3, 4, 0] rfl ?_
            exact ih y1 y2 (y3 + 1) m_5
          · refine V.aload_n (pc := 96) C dX10_growOlder_96 1 rfl ?_
            refine V.getr (pc := 97) C fl_RX10_22 ha.s ha.k rfl ha.r2 dX10_growOlder_97 ?_
            refine V.iload_n (pc := 100) C dX10_growOlder_100 2 rfl ?_
            refine V.iload_n (pc := 101) C dX10_growOlder_101 4 rfl ?_
            refine V.callV (pc := 102) (st := []) C (c_X5_drop l hN (a + 1) ha.life y1 y3 m_5) obV ck_X5_drop ml_RX10_116 rfl rfl ha.life.s ha.life.k rfl rfl (Nat.le_of_ble_eq_true rfl) ⟨by decide, by decide⟩ dX10_growOlder_102 (fun r_6 m_7 _ => ?_)
            refine V.iinc (pc := 105) C dX10_growOlder_105 (v := 1) (L2 := [(2, .int (y2 + 1)), (4, .int x_4), (0, .ref a), (1, .int y1), (3, .int y3)]) 3 rfl (by decide) (by decide) rfl ?_
            refine V.iinc (pc := 108) C dX10_growOlder_108 (v := 1) (L2 := [(3, .int (y3 + 1)), (2, .int (y2 + 1)), (4, .int x_4), (0, .ref a), (1, .int y1)]) 4 rfl (by decide) (by decide) rfl ?_
            refine V.goto (pc := 111) C dX10_growOlder_111 17 (by decide) ?_
            refine V.wk [3, 4, 1, 0] rfl ?_
            exact ih y1 (y2 + 1) (y3 + 1) m_7
set_option maxRecDepth 100000 in
set_option maxHeartbeats 4000000 in
theorem v_X10_growOlder {l : Launch} {p : Program} {e : Env} {s : State} {mt : MethodId} {args : Array Value} {below : List Frame} {meth : Method} {c : Code} {A : Nat → Prop} {ad0 : Nat → Nat} {G : Gt} {N : Nat} (C : Cx G p s mt args meth c RX10 cX10_growOlder 5 (some .int) "growOlder" A) (hN : 109 ≤ N) (a : Nat) (ha : isWorld N a) (x1 : Int32) (m : Mem) : V G SX oI l p e s mt args below meth c 5 2 A ad0 N N RX N RX 0 [(0, .ref a), (1, .int x1)] [] m (X10_growOlder a x1 m) := by
  rw [X10_growOlder]
  refine V.iconst (pc := 0) C dX10_growOlder_0 (v := 0) (by decide) ?_
  refine V.istore_n (pc := 1) C dX10_growOlder_1 (L2 := [(2, .int 0), (0, .ref a), (1, .int x1)]) (by decide) rfl ?_
  refine V.aload_n (pc := 2) C dX10_growOlder_2 1 rfl ?_
  refine V.getr (pc := 3) C fl_RX10_22 ha.s ha.k rfl ha.r2 dX10_growOlder_3 ?_
  refine V.getr (pc := 6) C fl_RX10_57 ha.life.s ha.life.k rfl ha.life.r1 dX10_growOlder_6 ?_
  refine V.iload_n (pc := 9) C dX10_growOlder_9 2 rfl ?_
  refine V.dup2 (pc := 10) C dX10_growOlder_10 rfl rfl ?_
  refine V.iald (pc := 11) C ha.life.s1 ha.life.k1 dX10_growOlder_11 (fun _ => ?_)
  refine V.iconst (pc := 12) C dX10_growOlder_12 (v := 1) (by decide) ?_
  refine V.iadd (pc := 13) C dX10_growOlder_13 ?_
  refine V.iast (pc := 14) C ha.life.s1 ha.life.k1 dX10_growOlder_14 (fun _ => ?_)
  refine V.ltm (fun m_1 => ?_)
  refine V.iconst (pc := 15) C dX10_growOlder_15 (v := 0) (by decide) ?_
  refine V.istore_n (pc := 16) C dX10_growOlder_16 (L2 := [(3, .int 0), (2, .int 0), (0, .ref a), (1, .int x1)]) (by decide) rfl ?_
  refine V.wk [2, 3, 1, 0] rfl ?_
  exact v_X10_growOlder_b17 C hN a ha FU x1 0 0 m_1
theorem c_X10_growOlder (l : Launch) {N : Nat} (hN : 109 ≤ N) (a : Nat) (ha : isWorld N a) (x1 : Int32) (m : Mem) : Ct l yX10_growOlder cX10_growOlder 5 (some .int) 2 SX oI N N RX RX [.ref a, .int x1] m (X10_growOlder a x1 m) :=
  Ct.of (own := RX10) (nm := "growOlder") (by decide) rfl rfl (Nat.le_of_ble_eq_true rfl) (fun _ _ _ _ _ _ _ _ _ _ _ C => v_X10_growOlder C hN a ha x1 m)
theorem dX10_hasRoom_0 : decode cX10_hasRoom 0 = .ok (.aload_n 0, 1) := by decide +kernel
theorem dX10_hasRoom_1 : decode cX10_hasRoom 1 = .ok (.getfield 22, 3) := by decide +kernel
theorem dX10_hasRoom_4 : decode cX10_hasRoom 4 = .ok (.getfield 84, 3) := by decide +kernel
theorem dX10_hasRoom_7 : decode cX10_hasRoom 7 = .ok (.iload_n 1, 1) := by decide +kernel
theorem dX10_hasRoom_8 : decode cX10_hasRoom 8 = .ok (.iaload, 1) := by decide +kernel
theorem dX10_hasRoom_9 : decode cX10_hasRoom 9 = .ok (.invokestatic 43, 3) := by decide +kernel
theorem dX10_hasRoom_12 : decode cX10_hasRoom 12 = .ok (.aload_n 0, 1) := by decide +kernel
theorem dX10_hasRoom_13 : decode cX10_hasRoom 13 = .ok (.getfield 9, 3) := by decide +kernel
theorem dX10_hasRoom_16 : decode cX10_hasRoom 16 = .ok (.getfield 113, 3) := by decide +kernel
theorem dX10_hasRoom_19 : decode cX10_hasRoom 19 = .ok (.if_icmp .ge 7, 3) := by decide +kernel
theorem dX10_hasRoom_22 : decode cX10_hasRoom 22 = .ok (.iconst 1, 1) := by decide +kernel
theorem dX10_hasRoom_23 : decode cX10_hasRoom 23 = .ok (.goto 4, 3) := by decide +kernel
theorem dX10_hasRoom_26 : decode cX10_hasRoom 26 = .ok (.iconst 0, 1) := by decide +kernel
theorem dX10_hasRoom_27 : decode cX10_hasRoom 27 = .ok (.ireturn, 1) := by decide +kernel
set_option maxRecDepth 100000 in
set_option maxHeartbeats 4000000 in
theorem v_X10_hasRoom {l : Launch} {p : Program} {e : Env} {s : State} {mt : MethodId} {args : Array Value} {below : List Frame} {meth : Method} {c : Code} {A : Nat → Prop} {ad0 : Nat → Nat} {G : Gt} {N : Nat} (C : Cx G p s mt args meth c RX10 cX10_hasRoom 2 (some .boolean) "hasRoom" A) (hN : 109 ≤ N) (a : Nat) (ha : isWorld N a) (x1 : Int32) (m : Mem) : V G SX oI l p e s mt args below meth c 2 2 A ad0 N N RX N RX 0 [(0, .ref a), (1, .int x1)] [] m (X10_hasRoom a x1 m) := by
  rw [X10_hasRoom]
  refine V.aload_n (pc := 0) C dX10_hasRoom_0 0 rfl ?_
  refine V.getr (pc := 1) C fl_RX10_22 ha.s ha.k rfl ha.r2 dX10_hasRoom_1 ?_
  refine V.getr (pc := 4) C fl_RX10_84 ha.life.s ha.life.k rfl ha.life.r3 dX10_hasRoom_4 ?_
  refine V.iload_n (pc := 7) C dX10_hasRoom_7 1 rfl ?_
  refine V.iald (pc := 8) C ha.life.s3 ha.life.k3 dX10_hasRoom_8 (fun _ => ?_)
  refine V.callS (pc := 9) (st := []) C (c_J6_bitCount_0f7a4 l (gi m ((a + 1) + 3) (ix x1)) m) obI ck_J6_bitCount_0f7a4 ml_RX10_43 rfl rfl (Nat.le_of_ble_eq_true rfl) ⟨by decide, by decide⟩ dX10_hasRoom_9 (fun r_1 m_2 _ => ?_)
  refine V.aload_n (pc := 12) C dX10_hasRoom_12 0 rfl ?_
  refine V.getr (pc := 13) C fl_RX10_9 ha.s ha.k rfl ha.r0 dX10_hasRoom_13 ?_
  refine V.geti (pc := 16) C fl_RX10_113 sX2 (kX2 hN) rfl dX10_hasRoom_16 ?_
  refine V.icmp_ge (pc := 19) C dX10_hasRoom_19 26 (by decide) (fun _ => ?_) (fun _ => ?_)
  · refine V.iconst (pc := 26) C dX10_hasRoom_26 (v := 0) (by decide) ?_
    exact V.zret rfl C dX10_hasRoom_27
  · refine V.iconst (pc := 22) C dX10_hasRoom_22 (v := 1) (by decide) ?_
    refine V.goto (pc := 23) C dX10_hasRoom_23 27 (by decide) ?_
    exact V.zret rfl C dX10_hasRoom_27
theorem c_X10_hasRoom (l : Launch) {N : Nat} (hN : 109 ≤ N) (a : Nat) (ha : isWorld N a) (x1 : Int32) (m : Mem) : Ct l yX10_hasRoom cX10_hasRoom 2 (some .boolean) 2 SX oI N N RX RX [.ref a, .int x1] m (X10_hasRoom a x1 m) :=
  Ct.of (own := RX10) (nm := "hasRoom") (by decide) rfl rfl (Nat.le_of_ble_eq_true rfl) (fun _ _ _ _ _ _ _ _ _ _ _ C => v_X10_hasRoom C hN a ha x1 m)
theorem dX10_wish_0 : decode cX10_wish 0 = .ok (.aload_n 0, 1) := by decide +kernel
theorem dX10_wish_1 : decode cX10_wish 1 = .ok (.getfield 22, 3) := by decide +kernel
theorem dX10_wish_4 : decode cX10_wish 4 = .ok (.getfield 84, 3) := by decide +kernel
theorem dX10_wish_7 : decode cX10_wish 7 = .ok (.iload_n 2, 1) := by decide +kernel
theorem dX10_wish_8 : decode cX10_wish 8 = .ok (.iaload, 1) := by decide +kernel
theorem dX10_wish_9 : decode cX10_wish 9 = .ok (.aload_n 0, 1) := by decide +kernel
theorem dX10_wish_10 : decode cX10_wish 10 = .ok (.getfield 22, 3) := by decide +kernel
theorem dX10_wish_13 : decode cX10_wish 13 = .ok (.getfield 84, 3) := by decide +kernel
theorem dX10_wish_16 : decode cX10_wish 16 = .ok (.iload_n 1, 1) := by decide +kernel
theorem dX10_wish_17 : decode cX10_wish 17 = .ok (.iaload, 1) := by decide +kernel
theorem dX10_wish_18 : decode cX10_wish 18 = .ok (.iconst (-1), 1) := by decide +kernel
theorem dX10_wish_19 : decode cX10_wish 19 = .ok (.ixor, 1) := by decide +kernel
theorem dX10_wish_20 : decode cX10_wish 20 = .ok (.iand, 1) := by decide +kernel
theorem dX10_wish_21 : decode cX10_wish 21 = .ok (.istore_n 3, 1) := by decide +kernel
theorem dX10_wish_22 : decode cX10_wish 22 = .ok (.iload_n 3, 1) := by decide +kernel
theorem dX10_wish_23 : decode cX10_wish 23 = .ok (.ifCond .eq 11, 3) := by decide +kernel
theorem dX10_wish_26 : decode cX10_wish 26 = .ok (.aload_n 0, 1) := by decide +kernel
theorem dX10_wish_27 : decode cX10_wish 27 = .ok (.iload_n 1, 1) := by decide +kernel
theorem dX10_wish_28 : decode cX10_wish 28 = .ok (.invokevirtual 110, 3) := by decide +kernel
theorem dX10_wish_31 : decode cX10_wish 31 = .ok (.ifCond .ne 7, 3) := by decide +kernel
theorem dX10_wish_34 : decode cX10_wish 34 = .ok (.iconst (-1), 1) := by decide +kernel
theorem dX10_wish_35 : decode cX10_wish 35 = .ok (.goto 7, 3) := by decide +kernel
theorem dX10_wish_38 : decode cX10_wish 38 = .ok (.iload_n 3, 1) := by decide +kernel
theorem dX10_wish_39 : decode cX10_wish 39 = .ok (.invokestatic 178, 3) := by decide +kernel
theorem dX10_wish_42 : decode cX10_wish 42 = .ok (.ireturn, 1) := by decide +kernel
set_option maxRecDepth 100000 in
set_option maxHeartbeats 4000000 in
theorem v_X10_wish {l : Launch} {p : Program} {e : Env} {s : State} {mt : MethodId} {args : Array Value} {below : List Frame} {meth : Method} {c : Code} {A : Nat → Prop} {ad0 : Nat → Nat} {G : Gt} {N : Nat} (C : Cx G p s mt args meth c RX10 cX10_wish 4 (some .int) "wish" A) (hN : 109 ≤ N) (a : Nat) (ha : isWorld N a) (x1 : Int32) (x2 : Int32) (m : Mem) : V G SX oI l p e s mt args below meth c 4 3 A ad0 N N RX N RX 0 [(0, .ref a), (1, .int x1), (2, .int x2)] [] m (X10_wish a x1 x2 m) := by
  rw [X10_wish]
  refine V.aload_n (pc := 0) C dX10_wish_0 0 rfl ?_
  refine V.getr (pc := 1) C fl_RX10_22 ha.s ha.k rfl ha.r2 dX10_wish_1 ?_
  refine V.getr (pc := 4) C fl_RX10_84 ha.life.s ha.life.k rfl ha.life.r3 dX10_wish_4 ?_
  refine V.iload_n (pc := 7) C dX10_wish_7 2 rfl ?_
  refine V.iald (pc := 8) C ha.life.s3 ha.life.k3 dX10_wish_8 (fun _ => ?_)
  refine V.aload_n (pc := 9) C dX10_wish_9 0 rfl ?_
  refine V.getr (pc := 10) C fl_RX10_22 ha.s ha.k rfl ha.r2 dX10_wish_10 ?_
  refine V.getr (pc := 13) C fl_RX10_84 ha.life.s ha.life.k rfl ha.life.r3 dX10_wish_13 ?_
  refine V.iload_n (pc := 16) C dX10_wish_16 1 rfl ?_
  refine V.iald (pc := 17) C ha.life.s3 ha.life.k3 dX10_wish_17 (fun _ => ?_)
  refine V.iconst (pc := 18) C dX10_wish_18 (v := (-1)) (by decide) ?_
  refine V.ixor (pc := 19) C dX10_wish_19 ?_
  refine V.iand (pc := 20) C dX10_wish_20 ?_
  refine V.lti (fun x_1 _ => ?_)
  refine V.istore_n (pc := 21) C dX10_wish_21 (L2 := [(3, .int x_1), (0, .ref a), (1, .int x1), (2, .int x2)]) (by decide) rfl ?_
  refine V.iload_n (pc := 22) C dX10_wish_22 0 rfl ?_
  refine V.if_eq (pc := 23) C dX10_wish_23 34 (by decide) (fun _ => ?_) (fun _ => ?_)
  · refine V.iconst (pc := 34) C dX10_wish_34 (v := (-1)) (by decide) ?_
    refine V.goto (pc := 35) C dX10_wish_35 42 (by decide) ?_
    exact V.iret C dX10_wish_42
  · refine V.aload_n (pc := 26) C dX10_wish_26 1 rfl ?_
    refine V.iload_n (pc := 27) C dX10_wish_27 2 rfl ?_
    refine V.callV (pc := 28) (st := []) C (c_X10_hasRoom l hN a ha x1 m) obI ck_X10_hasRoom ml_RX10_110 rfl rfl ha.s ha.k rfl rfl (Nat.le_of_ble_eq_true rfl) ⟨by decide, by decide⟩ dX10_wish_28 (fun r_2 m_3 _ => ?_)
    refine V.if_ne (pc := 31) C dX10_wish_31 38 (by decide) (fun _ => ?_) (fun _ => ?_)
    · refine V.iload_n (pc := 38) C dX10_wish_38 0 rfl ?_
      refine V.callS (pc := 39) (st := []) C (c_J6_numberOfTrailingZeros_0f7a4 l x_1 m_3) obI ck_J6_numberOfTrailingZeros_0f7a4 ml_RX10_178 rfl rfl (Nat.le_of_ble_eq_true rfl) ⟨by decide, by decide⟩ dX10_wish_39 (fun r_4 m_5 _ => ?_)
      exact V.iret C dX10_wish_42
    · refine V.iconst (pc := 34) C dX10_wish_34 (v := (-1)) (by decide) ?_
      refine V.goto (pc := 35) C dX10_wish_35 42 (by decide) ?_
      exact V.iret C dX10_wish_42
theorem c_X10_wish (l : Launch) {N : Nat} (hN : 109 ≤ N) (a : Nat) (ha : isWorld N a) (x1 : Int32) (x2 : Int32) (m : Mem) : Ct l yX10_wish cX10_wish 4 (some .int) 3 SX oI N N RX RX [.ref a, .int x1, .int x2] m (X10_wish a x1 x2 m) :=
  Ct.of (own := RX10) (nm := "wish") (by decide) rfl rfl (Nat.le_of_ble_eq_true rfl) (fun _ _ _ _ _ _ _ _ _ _ _ C => v_X10_wish C hN a ha x1 x2 m)
theorem dX10_isThing_0 : decode cX10_isThing 0 = .ok (.iload_n 1, 1) := by decide +kernel
theorem dX10_isThing_1 : decode cX10_isThing 1 = .ok (.ifCond .lt 18, 3) := by decide +kernel
theorem dX10_isThing_4 : decode cX10_isThing 4 = .ok (.iload_n 1, 1) := by decide +kernel
theorem dX10_isThing_5 : decode cX10_isThing 5 = .ok (.aload_n 0, 1) := by decide +kernel
theorem dX10_isThing_6 : decode cX10_isThing 6 = .ok (.getfield 9, 3) := by decide +kernel
theorem dX10_isThing_9 : decode cX10_isThing 9 = .ok (.getfield 32, 3) := by decide +kernel
theorem dX10_isThing_12 : decode cX10_isThing 12 = .ok (.if_icmp .ge 7, 3) := by decide +kernel
theorem dX10_isThing_15 : decode cX10_isThing 15 = .ok (.iconst 1, 1) := by decide +kernel
theorem dX10_isThing_16 : decode cX10_isThing 16 = .ok (.goto 4, 3) := by decide +kernel
theorem dX10_isThing_19 : decode cX10_isThing 19 = .ok (.iconst 0, 1) := by decide +kernel
theorem dX10_isThing_20 : decode cX10_isThing 20 = .ok (.ireturn, 1) := by decide +kernel
set_option maxRecDepth 100000 in
set_option maxHeartbeats 4000000 in
theorem v_X10_isThing {l : Launch} {p : Program} {e : Env} {s : State} {mt : MethodId} {args : Array Value} {below : List Frame} {meth : Method} {c : Code} {A : Nat → Prop} {ad0 : Nat → Nat} {G : Gt} {N : Nat} (C : Cx G p s mt args meth c RX10 cX10_isThing 2 (some .boolean) "isThing" A) (hN : 109 ≤ N) (a : Nat) (ha : isWorld N a) (x1 : Int32) (m : Mem) : V G SX oI l p e s mt args below meth c 2 1 A ad0 N N RX N RX 0 [(0, .ref a), (1, .int x1)] [] m (X10_isThing a x1 m) := by
  rw [X10_isThing]
  refine V.iload_n (pc := 0) C dX10_isThing_0 1 rfl ?_
  refine V.if_lt (pc := 1) C dX10_isThing_1 19 (by decide) (fun _ => ?_) (fun _ => ?_)
  · refine V.iconst (pc := 19) C dX10_isThing_19 (v := 0) (by decide) ?_
    exact V.zret rfl C dX10_isThing_20
  · refine V.iload_n (pc := 4) C dX10_isThing_4 1 rfl ?_
    refine V.aload_n (pc := 5) C dX10_isThing_5 0 rfl ?_
    refine V.getr (pc := 6) C fl_RX10_9 ha.s ha.k rfl ha.r0 dX10_isThing_6 ?_
    refine V.geti (pc := 9) C fl_RX10_32 sX2 (kX2 hN) rfl dX10_isThing_9 ?_
    refine V.icmp_ge (pc := 12) C dX10_isThing_12 19 (by decide) (fun _ => ?_) (fun _ => ?_)
    · refine V.iconst (pc := 19) C dX10_isThing_19 (v := 0) (by decide) ?_
      exact V.zret rfl C dX10_isThing_20
    · refine V.iconst (pc := 15) C dX10_isThing_15 (v := 1) (by decide) ?_
      refine V.goto (pc := 16) C dX10_isThing_16 20 (by decide) ?_
      exact V.zret rfl C dX10_isThing_20
theorem c_X10_isThing (l : Launch) {N : Nat} (hN : 109 ≤ N) (a : Nat) (ha : isWorld N a) (x1 : Int32) (m : Mem) : Ct l yX10_isThing cX10_isThing 2 (some .boolean) 1 SX oI N N RX RX [.ref a, .int x1] m (X10_isThing a x1 m) :=
  Ct.of (own := RX10) (nm := "isThing") (by decide) rfl rfl (Nat.le_of_ble_eq_true rfl) (fun _ _ _ _ _ _ _ _ _ _ _ C => v_X10_isThing C hN a ha x1 m)
theorem dX5_adopt_0 : decode cX5_adopt 0 = .ok (.aload_n 0, 1) := by decide +kernel
theorem dX5_adopt_1 : decode cX5_adopt 1 = .ok (.getfield 18, 3) := by decide +kernel
theorem dX5_adopt_4 : decode cX5_adopt 4 = .ok (.iload_n 1, 1) := by decide +kernel
theorem dX5_adopt_5 : decode cX5_adopt 5 = .ok (.dup2, 1) := by decide +kernel
theorem dX5_adopt_6 : decode cX5_adopt 6 = .ok (.iaload, 1) := by decide +kernel
theorem dX5_adopt_7 : decode cX5_adopt 7 = .ok (.iconst 1, 1) := by decide +kernel
theorem dX5_adopt_8 : decode cX5_adopt 8 = .ok (.iload_n 2, 1) := by decide +kernel
theorem dX5_adopt_9 : decode cX5_adopt 9 = .ok (.ishl, 1) := by decide +kernel
theorem dX5_adopt_10 : decode cX5_adopt 10 = .ok (.ior, 1) := by decide +kernel
theorem dX5_adopt_11 : decode cX5_adopt 11 = .ok (.iastore, 1) := by decide +kernel
theorem dX5_adopt_12 : decode cX5_adopt 12 = .ok (.aload_n 0, 1) := by decide +kernel
theorem dX5_adopt_13 : decode cX5_adopt 13 = .ok (.getfield 21, 3) := by decide +kernel
theorem dX5_adopt_16 : decode cX5_adopt 16 = .ok (.iload_n 2, 1) := by decide +kernel
theorem dX5_adopt_17 : decode cX5_adopt 17 = .ok (.dup2, 1) := by decide +kernel
theorem dX5_adopt_18 : decode cX5_adopt 18 = .ok (.iaload, 1) := by decide +kernel
theorem dX5_adopt_19 : decode cX5_adopt 19 = .ok (.iconst 1, 1) := by decide +kernel
theorem dX5_adopt_20 : decode cX5_adopt 20 = .ok (.iload_n 1, 1) := by decide +kernel
theorem dX5_adopt_21 : decode cX5_adopt 21 = .ok (.ishl, 1) := by decide +kernel
theorem dX5_adopt_22 : decode cX5_adopt 22 = .ok (.ior, 1) := by decide +kernel
theorem dX5_adopt_23 : decode cX5_adopt 23 = .ok (.iastore, 1) := by decide +kernel
theorem dX5_adopt_24 : decode cX5_adopt 24 = .ok (.aload_n 0, 1) := by decide +kernel
theorem dX5_adopt_25 : decode cX5_adopt 25 = .ok (.getfield 24, 3) := by decide +kernel
theorem dX5_adopt_28 : decode cX5_adopt 28 = .ok (.iload_n 1, 1) := by decide +kernel
theorem dX5_adopt_29 : decode cX5_adopt 29 = .ok (.bipush 14, 2) := by decide +kernel
theorem dX5_adopt_31 : decode cX5_adopt 31 = .ok (.imul, 1) := by decide +kernel
theorem dX5_adopt_32 : decode cX5_adopt 32 = .ok (.iload_n 2, 1) := by decide +kernel
theorem dX5_adopt_33 : decode cX5_adopt 33 = .ok (.iadd, 1) := by decide +kernel
theorem dX5_adopt_34 : decode cX5_adopt 34 = .ok (.iload_n 3, 1) := by decide +kernel
theorem dX5_adopt_35 : decode cX5_adopt 35 = .ok (.iastore, 1) := by decide +kernel
theorem dX5_adopt_36 : decode cX5_adopt 36 = .ok (.return_, 1) := by decide +kernel
set_option maxRecDepth 100000 in
set_option maxHeartbeats 4000000 in
theorem v_X5_adopt {l : Launch} {p : Program} {e : Env} {s : State} {mt : MethodId} {args : Array Value} {below : List Frame} {meth : Method} {c : Code} {A : Nat → Prop} {ad0 : Nat → Nat} {G : Gt} {N : Nat} (C : Cx G p s mt args meth c RX5 cX5_adopt 4 none "adopt" A) (hN : 109 ≤ N) (a : Nat) (ha : isLife N a) (x1 : Int32) (x2 : Int32) (x3 : Int32) (m : Mem) : V G SX oV l p e s mt args below meth c 4 1 A ad0 N N RX N RX 0 [(0, .ref a), (1, .int x1), (2, .int x2), (3, .int x3)] [] m (X5_adopt a x1 x2 x3 m) := by
  rw [X5_adopt]
  refine V.aload_n (pc := 0) C dX5_adopt_0 0 rfl ?_
  refine V.getr (pc := 1) C fl_RX5_18 ha.s ha.k rfl ha.r3 dX5_adopt_1 ?_
  refine V.iload_n (pc := 4) C dX5_adopt_4 1 rfl ?_
  refine V.dup2 (pc := 5) C dX5_adopt_5 rfl rfl ?_
  refine V.iald (pc := 6) C ha.s3 ha.k3 dX5_adopt_6 (fun _ => ?_)
  refine V.iconst (pc := 7) C dX5_adopt_7 (v := 1) (by decide) ?_
  refine V.iload_n (pc := 8) C dX5_adopt_8 2 rfl ?_
  refine V.ishl (pc := 9) C dX5_adopt_9 ?_
  refine V.ior (pc := 10) C dX5_adopt_10 ?_
  refine V.iast (pc := 11) C ha.s3 ha.k3 dX5_adopt_11 (fun _ => ?_)
  refine V.ltm (fun m_1 => ?_)
  refine V.aload_n (pc := 12) C dX5_adopt_12 0 rfl ?_
  refine V.getr (pc := 13) C fl_RX5_21 ha.s ha.k rfl ha.r4 dX5_adopt_13 ?_
  refine V.iload_n (pc := 16) C dX5_adopt_16 2 rfl ?_
  refine V.dup2 (pc := 17) C dX5_adopt_17 rfl rfl ?_
  refine V.iald (pc := 18) C ha.s4 ha.k4 dX5_adopt_18 (fun _ => ?_)
  refine V.iconst (pc := 19) C dX5_adopt_19 (v := 1) (by decide) ?_
  refine V.iload_n (pc := 20) C dX5_adopt_20 1 rfl ?_
  refine V.ishl (pc := 21) C dX5_adopt_21 ?_
  refine V.ior (pc := 22) C dX5_adopt_22 ?_
  refine V.iast (pc := 23) C ha.s4 ha.k4 dX5_adopt_23 (fun _ => ?_)
  refine V.ltm (fun m_2 => ?_)
  refine V.aload_n (pc := 24) C dX5_adopt_24 0 rfl ?_
  refine V.getr (pc := 25) C fl_RX5_24 ha.s ha.k rfl ha.r5 dX5_adopt_25 ?_
  refine V.iload_n (pc := 28) C dX5_adopt_28 1 rfl ?_
  refine V.bipush (pc := 29) C dX5_adopt_29 (v := 14) (by decide) ?_
  refine V.imul (pc := 31) C dX5_adopt_31 ?_
  refine V.iload_n (pc := 32) C dX5_adopt_32 2 rfl ?_
  refine V.iadd (pc := 33) C dX5_adopt_33 ?_
  refine V.iload_n (pc := 34) C dX5_adopt_34 3 rfl ?_
  refine V.iast (pc := 35) C ha.s5 ha.k5 dX5_adopt_35 (fun _ => ?_)
  refine V.ltm (fun m_3 => ?_)
  exact V.vret C dX5_adopt_36
theorem c_X5_adopt (l : Launch) {N : Nat} (hN : 109 ≤ N) (a : Nat) (ha : isLife N a) (x1 : Int32) (x2 : Int32) (x3 : Int32) (m : Mem) : Ct l yX5_adopt cX5_adopt 4 none 1 SX oV N N RX RX [.ref a, .int x1, .int x2, .int x3] m (X5_adopt a x1 x2 x3 m) :=
  Ct.of (own := RX5) (nm := "adopt") (by decide) rfl rfl (Nat.le_of_ble_eq_true rfl) (fun _ _ _ _ _ _ _ _ _ _ _ C => v_X5_adopt C hN a ha x1 x2 x3 m)
theorem dX10_exchange_0 : decode cX10_exchange 0 = .ok (.aload_n 0, 1) := by decide +kernel
theorem dX10_exchange_1 : decode cX10_exchange 1 = .ok (.iload_n 1, 1) := by decide +kernel
theorem dX10_exchange_2 : decode cX10_exchange 2 = .ok (.iload_n 2, 1) := by decide +kernel
theorem dX10_exchange_3 : decode cX10_exchange 3 = .ok (.invokevirtual 175, 3) := by decide +kernel
theorem dX10_exchange_6 : decode cX10_exchange 6 = .ok (.istore_n 3, 1) := by decide +kernel
theorem dX10_exchange_7 : decode cX10_exchange 7 = .ok (.aload_n 0, 1) := by decide +kernel
theorem dX10_exchange_8 : decode cX10_exchange 8 = .ok (.iload_n 2, 1) := by decide +kernel
theorem dX10_exchange_9 : decode cX10_exchange 9 = .ok (.iload_n 1, 1) := by decide +kernel
theorem dX10_exchange_10 : decode cX10_exchange 10 = .ok (.invokevirtual 175, 3) := by decide +kernel
theorem dX10_exchange_13 : decode cX10_exchange 13 = .ok (.istore 4, 2) := by decide +kernel
theorem dX10_exchange_15 : decode cX10_exchange 15 = .ok (.aload_n 0, 1) := by decide +kernel
theorem dX10_exchange_16 : decode cX10_exchange 16 = .ok (.iload_n 3, 1) := by decide +kernel
theorem dX10_exchange_17 : decode cX10_exchange 17 = .ok (.invokevirtual 104, 3) := by decide +kernel
theorem dX10_exchange_20 : decode cX10_exchange 20 = .ok (.ifCond .eq 13, 3) := by decide +kernel
theorem dX10_exchange_23 : decode cX10_exchange 23 = .ok (.aload_n 0, 1) := by decide +kernel
theorem dX10_exchange_24 : decode cX10_exchange 24 = .ok (.getfield 22, 3) := by decide +kernel
theorem dX10_exchange_27 : decode cX10_exchange 27 = .ok (.iload_n 1, 1) := by decide +kernel
theorem dX10_exchange_28 : decode cX10_exchange 28 = .ok (.iload_n 3, 1) := by decide +kernel
theorem dX10_exchange_29 : decode cX10_exchange 29 = .ok (.iconst 0, 1) := by decide +kernel
theorem dX10_exchange_30 : decode cX10_exchange 30 = .ok (.invokevirtual 120, 3) := by decide +kernel
theorem dX10_exchange_33 : decode cX10_exchange 33 = .ok (.aload_n 0, 1) := by decide +kernel
theorem dX10_exchange_34 : decode cX10_exchange 34 = .ok (.iload 4, 2) := by decide +kernel
theorem dX10_exchange_36 : decode cX10_exchange 36 = .ok (.invokevirtual 104, 3) := by decide +kernel
theorem dX10_exchange_39 : decode cX10_exchange 39 = .ok (.ifCond .eq 14, 3) := by decide +kernel
theorem dX10_exchange_42 : decode cX10_exchange 42 = .ok (.aload_n 0, 1) := by decide +kernel
theorem dX10_exchange_43 : decode cX10_exchange 43 = .ok (.getfield 22, 3) := by decide +kernel
theorem dX10_exchange_46 : decode cX10_exchange 46 = .ok (.iload_n 2, 1) := by decide +kernel
theorem dX10_exchange_47 : decode cX10_exchange 47 = .ok (.iload 4, 2) := by decide +kernel
theorem dX10_exchange_49 : decode cX10_exchange 49 = .ok (.iconst 0, 1) := by decide +kernel
theorem dX10_exchange_50 : decode cX10_exchange 50 = .ok (.invokevirtual 120, 3) := by decide +kernel
theorem dX10_exchange_53 : decode cX10_exchange 53 = .ok (.return_, 1) := by decide +kernel
set_option maxRecDepth 100000 in
set_option maxHeartbeats 4000000 in
theorem v_X10_exchange_b33 {l : Launch} {p : Program} {e : Env} {s : State} {mt : MethodId} {args : Array Value} {below : List Frame} {meth : Method} {c : Code} {A : Nat → Prop} {ad0 : Nat → Nat} {G : Gt} {N : Nat} (C : Cx G p s mt args meth c RX10 cX10_exchange 5 none "exchange" A) (hN : 109 ≤ N) (a : Nat) (ha : isWorld N a) (y2 : Int32) (y4 : Int32) (m : Mem) : V G SX oV l p e s mt args below meth c 5 4 A ad0 N N RX N RX 33 [(0, .ref a), (2, .int y2), (4, .int y4)] [] m (X10_exchange_b33 a y2 y4 m) := by
  rw [X10_exchange_b33]
  refine V.aload_n (pc := 33) C dX10_exchange_33 0 rfl ?_
  refine V.iload (pc := 34) C dX10_exchange_34 2 rfl ?_
  refine V.callV (pc := 36) (st := []) C (c_X10_isThing l hN a ha y4 m) obI ck_X10_isThing ml_RX10_104 rfl rfl ha.s ha.k rfl rfl (Nat.le_of_ble_eq_true rfl) ⟨by decide, by decide⟩ dX10_exchange_36 (fun r_7 m_8 _ => ?_)
  refine V.if_eq (pc := 39) C dX10_exchange_39 53 (by decide) (fun _ => ?_) (fun _ => ?_)
  · exact V.vret C dX10_exchange_53
  · refine V.aload_n (pc := 42) C dX10_exchange_42 0 rfl ?_
    refine V.getr (pc := 43) C fl_RX10_22 ha.s ha.k rfl ha.r2 dX10_exchange_43 ?_
    refine V.iload_n (pc := 46) C dX10_exchange_46 1 rfl ?_
    refine V.iload (pc := 47) C dX10_exchange_47 2 rfl ?_
    refine V.iconst (pc := 49) C dX10_exchange_49 (v := 0) (by decide) ?_
    refine V.callV (pc := 50) (st := []) C (c_X5_adopt l hN (a + 1) ha.life y2 y4 0 m_8) obV ck_X5_adopt ml_RX10_120 rfl rfl ha.life.s ha.life.k rfl rfl (Nat.le_of_ble_eq_true rfl) ⟨by decide, by decide⟩ dX10_exchange_50 (fun r_9 m_10 _ => ?_)
    exact V.vret C dX10_exchange_53
set_option maxRecDepth 100000 in
set_option maxHeartbeats 4000000 in
theorem v_X10_exchange {l : Launch} {p : Program} {e : Env} {s : State} {mt : MethodId} {args : Array Value} {below : List Frame} {meth : Method} {c : Code} {A : Nat → Prop} {ad0 : Nat → Nat} {G : Gt} {N : Nat} (C : Cx G p s mt args meth c RX10 cX10_exchange 5 none "exchange" A) (hN : 109 ≤ N) (a : Nat) (ha : isWorld N a) (x1 : Int32) (x2 : Int32) (m : Mem) : V G SX oV l p e s mt args below meth c 5 4 A ad0 N N RX N RX 0 [(0, .ref a), (1, .int x1), (2, .int x2)] [] m (X10_exchange a x1 x2 m) := by
  rw [X10_exchange]
  refine V.aload_n (pc := 0) C dX10_exchange_0 0 rfl ?_
  refine V.iload_n (pc := 1) C dX10_exchange_1 1 rfl ?_
  refine V.iload_n (pc := 2) C dX10_exchange_2 2 rfl ?_
  refine V.callV (pc := 3) (st := []) C (c_X10_wish l hN a ha x1 x2 m) obI ck_X10_wish ml_RX10_175 rfl rfl ha.s ha.k rfl rfl (Nat.le_of_ble_eq_true rfl) ⟨by decide, by decide⟩ dX10_exchange_3 (fun r_1 m_2 _ => ?_)
  refine V.istore_n (pc := 6) C dX10_exchange_6 (L2 := [(3, .int r_1), (0, .ref a), (1, .int x1), (2, .int x2)]) (by decide) rfl ?_
  refine V.aload_n (pc := 7) C dX10_exchange_7 1 rfl ?_
  refine V.iload_n (pc := 8) C dX10_exchange_8 3 rfl ?_
  refine V.iload_n (pc := 9) C dX10_exchange_9 2 rfl ?_
  refine V.callV (pc := 10) (st := []) C (c_X10_wish l hN a ha x2 x1 m_2) obI ck_X10_wish ml_RX10_175 rfl rfl ha.s ha.k rfl rfl (Nat.le_of_ble_eq_true rfl) ⟨by decide, by decide⟩ dX10_exchange_10 (fun r_3 m_4 _ => ?_)
  refine V.istore (pc := 13) C dX10_exchange_13 (L2 := [(4, .int r_3), (3, .int r_1), (0, .ref a), (1, .int x1), (2, .int x2)]) (by decide) rfl ?_
  refine V.aload_n (pc := 15) C dX10_exchange_15 2 rfl ?_
  refine V.iload_n (pc := 16) C dX10_exchange_16 1 rfl ?_
  refine V.callV (pc := 17) (st := []) C (c_X10_isThing l hN a ha r_1 m_4) obI ck_X10_isThing ml_RX10_104 rfl rfl ha.s ha.k rfl rfl (Nat.le_of_ble_eq_true rfl) ⟨by decide, by decide⟩ dX10_exchange_17 (fun r_5 m_6 _ => ?_)
  refine V.if_eq (pc := 20) C dX10_exchange_20 33 (by decide) (fun _ => ?_) (fun _ => ?_)
  · refine V.wk [2, 4, 0] rfl ?_
    exact v_X10_exchange_b33 C hN a ha x2 r_3 m_6
  · refine V.aload_n (pc := 23) C dX10_exchange_23 2 rfl ?_
    refine V.getr (pc := 24) C fl_RX10_22 ha.s ha.k rfl ha.r2 dX10_exchange_24 ?_
    refine V.iload_n (pc := 27) C dX10_exchange_27 3 rfl ?_
    refine V.iload_n (pc := 28) C dX10_exchange_28 1 rfl ?_
    refine V.iconst (pc := 29) C dX10_exchange_29 (v := 0) (by decide) ?_
    refine V.callV (pc := 30) (st := []) C (c_X5_adopt l hN (a + 1) ha.life x1 r_1 0 m_6) obV ck_X5_adopt ml_RX10_120 rfl rfl ha.life.s ha.life.k rfl rfl (Nat.le_of_ble_eq_true rfl) ⟨by decide, by decide⟩ dX10_exchange_30 (fun r_11 m_12 _ => ?_)
    refine V.wk [2, 4, 0] rfl ?_
    exact v_X10_exchange_b33 C hN a ha x2 r_3 m_12
theorem c_X10_exchange (l : Launch) {N : Nat} (hN : 109 ≤ N) (a : Nat) (ha : isWorld N a) (x1 : Int32) (x2 : Int32) (m : Mem) : Ct l yX10_exchange cX10_exchange 5 none 4 SX oV N N RX RX [.ref a, .int x1, .int x2] m (X10_exchange a x1 x2 m) :=
  Ct.of (own := RX10) (nm := "exchange") (by decide) rfl rfl (Nat.le_of_ble_eq_true rfl) (fun _ _ _ _ _ _ _ _ _ _ _ C => v_X10_exchange C hN a ha x1 x2 m)
theorem dX10_passYear_0 : decode cX10_passYear 0 = .ok (.iconst 0, 1) := by decide +kernel
theorem dX10_passYear_1 : decode cX10_passYear 1 = .ok (.istore_n 1, 1) := by decide +kernel
theorem dX10_passYear_2 : decode cX10_passYear 2 = .ok (.iconst 0, 1) := by decide +kernel
theorem dX10_passYear_3 : decode cX10_passYear 3 = .ok (.istore_n 2, 1) := by decide +kernel
theorem dX10_passYear_4 : decode cX10_passYear 4 = .ok (.iload_n 2, 1) := by decide +kernel
theorem dX10_passYear_5 : decode cX10_passYear 5 = .ok (.aload_n 0, 1) := by decide +kernel
theorem dX10_passYear_6 : decode cX10_passYear 6 = .ok (.getfield 9, 3) := by decide +kernel
theorem dX10_passYear_9 : decode cX10_passYear 9 = .ok (.getfield 26, 3) := by decide +kernel
theorem dX10_passYear_12 : decode cX10_passYear 12 = .ok (.if_icmp .ge 17, 3) := by decide +kernel
theorem dX10_passYear_15 : decode cX10_passYear 15 = .ok (.iload_n 1, 1) := by decide +kernel
theorem dX10_passYear_16 : decode cX10_passYear 16 = .ok (.aload_n 0, 1) := by decide +kernel
theorem dX10_passYear_17 : decode cX10_passYear 17 = .ok (.iload_n 2, 1) := by decide +kernel
theorem dX10_passYear_18 : decode cX10_passYear 18 = .ok (.invokevirtual 160, 3) := by decide +kernel
theorem dX10_passYear_21 : decode cX10_passYear 21 = .ok (.iadd, 1) := by decide +kernel
theorem dX10_passYear_22 : decode cX10_passYear 22 = .ok (.istore_n 1, 1) := by decide +kernel
theorem dX10_passYear_23 : decode cX10_passYear 23 = .ok (.iinc 2 1, 3) := by decide +kernel
theorem dX10_passYear_26 : decode cX10_passYear 26 = .ok (.goto (-22), 3) := by decide +kernel
theorem dX10_passYear_29 : decode cX10_passYear 29 = .ok (.iconst 0, 1) := by decide +kernel
theorem dX10_passYear_30 : decode cX10_passYear 30 = .ok (.istore_n 2, 1) := by decide +kernel
theorem dX10_passYear_31 : decode cX10_passYear 31 = .ok (.iload_n 2, 1) := by decide +kernel
theorem dX10_passYear_32 : decode cX10_passYear 32 = .ok (.aload_n 0, 1) := by decide +kernel
theorem dX10_passYear_33 : decode cX10_passYear 33 = .ok (.getfield 9, 3) := by decide +kernel
theorem dX10_passYear_36 : decode cX10_passYear 36 = .ok (.getfield 26, 3) := by decide +kernel
theorem dX10_passYear_39 : decode cX10_passYear 39 = .ok (.if_icmp .ge 36, 3) := by decide +kernel
theorem dX10_passYear_42 : decode cX10_passYear 42 = .ok (.aload_n 0, 1) := by decide +kernel
theorem dX10_passYear_43 : decode cX10_passYear 43 = .ok (.getfield 22, 3) := by decide +kernel
theorem dX10_passYear_46 : decode cX10_passYear 46 = .ok (.getfield 98, 3) := by decide +kernel
theorem dX10_passYear_49 : decode cX10_passYear 49 = .ok (.iload_n 2, 1) := by decide +kernel
theorem dX10_passYear_50 : decode cX10_passYear 50 = .ok (.iaload, 1) := by decide +kernel
theorem dX10_passYear_51 : decode cX10_passYear 51 = .ok (.iload_n 2, 1) := by decide +kernel
theorem dX10_passYear_52 : decode cX10_passYear 52 = .ok (.if_icmp .le 17, 3) := by decide +kernel
theorem dX10_passYear_55 : decode cX10_passYear 55 = .ok (.aload_n 0, 1) := by decide +kernel
theorem dX10_passYear_56 : decode cX10_passYear 56 = .ok (.iload_n 2, 1) := by decide +kernel
theorem dX10_passYear_57 : decode cX10_passYear 57 = .ok (.aload_n 0, 1) := by decide +kernel
theorem dX10_passYear_58 : decode cX10_passYear 58 = .ok (.getfield 22, 3) := by decide +kernel
theorem dX10_passYear_61 : decode cX10_passYear 61 = .ok (.getfield 98, 3) := by decide +kernel
theorem dX10_passYear_64 : decode cX10_passYear 64 = .ok (.iload_n 2, 1) := by decide +kernel
theorem dX10_passYear_65 : decode cX10_passYear 65 = .ok (.iaload, 1) := by decide +kernel
theorem dX10_passYear_66 : decode cX10_passYear 66 = .ok (.invokevirtual 163, 3) := by decide +kernel
theorem dX10_passYear_69 : decode cX10_passYear 69 = .ok (.iinc 2 1, 3) := by decide +kernel
theorem dX10_passYear_72 : decode cX10_passYear 72 = .ok (.goto (-41), 3) := by decide +kernel
theorem dX10_passYear_75 : decode cX10_passYear 75 = .ok (.aload_n 0, 1) := by decide +kernel
theorem dX10_passYear_76 : decode cX10_passYear 76 = .ok (.getfield 22, 3) := by decide +kernel
theorem dX10_passYear_79 : decode cX10_passYear 79 = .ok (.dup, 1) := by decide +kernel
theorem dX10_passYear_80 : decode cX10_passYear 80 = .ok (.getfield 69, 3) := by decide +kernel
theorem dX10_passYear_83 : decode cX10_passYear 83 = .ok (.iconst 1, 1) := by decide +kernel
theorem dX10_passYear_84 : decode cX10_passYear 84 = .ok (.iadd, 1) := by decide +kernel
theorem dX10_passYear_85 : decode cX10_passYear 85 = .ok (.putfield 69, 3) := by decide +kernel
theorem dX10_passYear_88 : decode cX10_passYear 88 = .ok (.iload_n 1, 1) := by decide +kernel
theorem dX10_passYear_89 : decode cX10_passYear 89 = .ok (.ireturn, 1) := by decide +kernel
set_option maxRecDepth 100000 in
set_option maxHeartbeats 4000000 in
theorem v_X10_passYear_b31 {l : Launch} {p : Program} {e : Env} {s : State} {mt : MethodId} {args : Array Value} {below : List Frame} {meth : Method} {c : Code} {A : Nat → Prop} {ad0 : Nat → Nat} {G : Gt} {N : Nat} (C : Cx G p s mt args meth c RX10 cX10_passYear 3 (some .int) "passYear" A) (hN : 109 ≤ N) (a : Nat) (ha : isWorld N a) : ∀ (n : Nat) (y1 : Int32) (y2 : Int32) (m : Mem), V G SX oI l p e s mt args below meth c 3 5 A ad0 N N RX N RX 31 [(0, .ref a), (1, .int y1), (2, .int y2)] [] m (X10_passYear_b31 a n y1 y2 m) := by
  intro n
  induction n with
  | zero =>
    intro y1 y2 m
    rw [X10_passYear_b31]
    exact V.nil
  | succ n ih =>
    intro y1 y2 m
    rw [X10_passYear_b31]
    refine V.iload_n (pc := 31) C dX10_passYear_31 2 rfl ?_
    refine V.aload_n (pc := 32) C dX10_passYear_32 0 rfl ?_
    refine V.getr (pc := 33) C fl_RX10_9 ha.s ha.k rfl ha.r0 dX10_passYear_33 ?_
    refine V.geti (pc := 36) C fl_RX10_26 sX2 (kX2 hN) rfl dX10_passYear_36 ?_
    refine V.icmp_ge (pc := 39) C dX10_passYear_39 75 (by decide) (fun _ => ?_) (fun _ => ?_)
    · refine V.aload_n (pc := 75) C dX10_passYear_75 0 rfl ?_
      refine V.getr (pc := 76) C fl_RX10_22 ha.s ha.k rfl ha.r2 dX10_passYear_76 ?_
      refine V.dup (pc := 79) C dX10_passYear_79 rfl ?_
      refine V.geti (pc := 80) C fl_RX10_69 ha.life.s ha.life.k rfl dX10_passYear_80 ?_
      refine V.iconst (pc := 83) C dX10_passYear_83 (v := 1) (by decide) ?_
      refine V.iadd (pc := 84) C dX10_passYear_84 ?_
      refine V.puti (pc := 85) C fp_RX10_69 ha.life.s ha.life.k rfl dX10_passYear_85 ?_
      refine V.ltm (fun m_1 => ?_)
      refine V.iload_n (pc := 88) C dX10_passYear_88 1 rfl ?_
      exact V.iret C dX10_passYear_89
    · refine V.aload_n (pc := 42) C dX10_passYear_42 0 rfl ?_
      refine V.getr (pc := 43) C fl_RX10_22 ha.s ha.k rfl ha.r2 dX10_passYear_43 ?_
      refine V.getr (pc := 46) C fl_RX10_98 ha.life.s ha.life.k rfl ha.life.r2 dX10_passYear_46 ?_
      refine V.iload_n (pc := 49) C dX10_passYear_49 2 rfl ?_
      refine V.iald (pc := 50) C ha.life.s2 ha.life.k2 dX10_passYear_50 (fun _ => ?_)
      refine V.iload_n (pc := 51) C dX10_passYear_51 2 rfl ?_
      refine V.icmp_le (pc := 52) C dX10_passYear_52 69 (by decide) (fun _ => ?_) (fun _ => ?_)
      · refine V.iinc (pc := 69) C dX10_passYear_69 (v := 1) (L2 := [(2, .int (y2 + 1)), (0, .ref a), (1, .int y1)]) 2 rfl (by decide) (by decide) rfl ?_
        refine V.goto (pc := 72) C dX10_passYear_72 31 (by decide) ?_
        refine V.wk [1, 2, 0] rfl ?_
        exact ih y1 (y2 + 1) m
      · refine V.aload_n (pc := 55) C dX10_passYear_55 0 rfl ?_
        refine V.iload_n (pc := 56) C dX10_passYear_56 2 rfl ?_
        refine V.aload_n (pc := 57) C dX10_passYear_57 0 rfl ?_
        refine V.getr (pc := 58) C fl_RX10_22 ha.s ha.k rfl ha.r2 dX10_passYear_58 ?_
        refine V.getr (pc := 61) C fl_RX10_98 ha.life.s ha.life.k rfl ha.life.r2 dX10_passYear_61 ?_
        refine V.iload_n (pc := 64) C dX10_passYear_64 2 rfl ?_
        refine V.iald (pc := 65) C ha.life.s2 ha.life.k2 dX10_passYear_65 (fun _ => ?_)
        refine V.callV (pc := 66) (st := []) C (c_X10_exchange l hN a ha y2 (gi m ((a + 1) + 2) (ix y2)) m) obV ck_X10_exchange ml_RX10_163 rfl rfl ha.s ha.k rfl rfl (Nat.le_of_ble_eq_true rfl) ⟨by decide, by decide⟩ dX10_passYear_66 (fun r_2 m_3 _ => ?_)
        refine V.iinc (pc := 69) C dX10_passYear_69 (v := 1) (L2 := [(2, .int (y2 + 1)), (0, .ref a), (1, .int y1)]) 2 rfl (by decide) (by decide) rfl ?_
        refine V.goto (pc := 72) C dX10_passYear_72 31 (by decide) ?_
        refine V.wk [1, 2, 0] rfl ?_
        exact ih y1 (y2 + 1) m_3
set_option maxRecDepth 100000 in
set_option maxHeartbeats 4000000 in
theorem v_X10_passYear_b4 {l : Launch} {p : Program} {e : Env} {s : State} {mt : MethodId} {args : Array Value} {below : List Frame} {meth : Method} {c : Code} {A : Nat → Prop} {ad0 : Nat → Nat} {G : Gt} {N : Nat} (C : Cx G p s mt args meth c RX10 cX10_passYear 3 (some .int) "passYear" A) (hN : 109 ≤ N) (a : Nat) (ha : isWorld N a) : ∀ (n : Nat) (y1 : Int32) (y2 : Int32) (m : Mem), V G SX oI l p e s mt args below meth c 3 5 A ad0 N N RX N RX 4 [(0, .ref a), (1, .int y1), (2, .int y2)] [] m (X10_passYear_b4 a n y1 y2 m) := by
  intro n
  induction n with
  | zero =>
    intro y1 y2 m
    rw [X10_passYear_b4]
    exact V.nil
  | succ n ih =>
    intro y1 y2 m
    rw [X10_passYear_b4]
    refine V.iload_n (pc := 4) C dX10_passYear_4 2 rfl ?_
    refine V.aload_n (pc := 5) C dX10_passYear_5 0 rfl ?_
    refine V.getr (pc := 6) C fl_RX10_9 ha.s ha.k rfl ha.r0 dX10_passYear_6 ?_
    refine V.geti (pc := 9) C fl_RX10_26 sX2 (kX2 hN) rfl dX10_passYear_9 ?_
    refine V.icmp_ge (pc := 12) C dX10_passYear_12 29 (by decide) (fun _ => ?_) (fun _ => ?_)
    · refine V.iconst (pc := 29) C dX10_passYear_29 (v := 0) (by decide) ?_
      refine V.istore_n (pc := 30) C dX10_passYear_30 (L2 := [(2, .int 0), (0, .ref a), (1, .int y1)]) (by decide) rfl ?_
      refine V.wk [1, 2, 0] rfl ?_
      exact v_X10_passYear_b31 C hN a ha FU y1 0 m
    · refine V.iload_n (pc := 15) C dX10_passYear_15 1 rfl ?_
      refine V.aload_n (pc := 16) C dX10_passYear_16 0 rfl ?_
      refine V.iload_n (pc := 17) C dX10_passYear_17 2 rfl ?_
      refine V.callV (pc := 18) (st := [.int y1]) C (c_X10_growOlder l hN a ha y2 m) obI ck_X10_growOlder ml_RX10_160 rfl rfl ha.s ha.k rfl rfl (Nat.le_of_ble_eq_true rfl) ⟨by decide, by decide⟩ dX10_passYear_18 (fun r_4 m_5 _ => ?_)
      refine V.iadd (pc := 21) C dX10_passYear_21 ?_
      refine V.lti (fun x_6 _ => ?_)
      refine V.istore_n (pc := 22) C dX10_passYear_22 (L2 := [(1, .int x_6), (0, .ref a), (2, .int y2)]) (by decide) rfl ?_
      refine V.iinc (pc := 23) C dX10_passYear_23 (v := 1) (L2 := [(2, .int (y2 + 1)), (1, .int x_6), (0, .ref a)]) 2 rfl (by decide) (by decide) rfl ?_
      refine V.goto (pc := 26) C dX10_passYear_26 4 (by decide) ?_
      refine V.wk [2, 1, 0] rfl ?_
      exact ih x_6 (y2 + 1) m_5
set_option maxRecDepth 100000 in
set_option maxHeartbeats 4000000 in
theorem v_X10_passYear {l : Launch} {p : Program} {e : Env} {s : State} {mt : MethodId} {args : Array Value} {below : List Frame} {meth : Method} {c : Code} {A : Nat → Prop} {ad0 : Nat → Nat} {G : Gt} {N : Nat} (C : Cx G p s mt args meth c RX10 cX10_passYear 3 (some .int) "passYear" A) (hN : 109 ≤ N) (a : Nat) (ha : isWorld N a) (m : Mem) : V G SX oI l p e s mt args below meth c 3 5 A ad0 N N RX N RX 0 [(0, .ref a)] [] m (X10_passYear a  m) := by
  rw [X10_passYear]
  refine V.iconst (pc := 0) C dX10_passYear_0 (v := 0) (by decide) ?_
  refine V.istore_n (pc := 1) C dX10_passYear_1 (L2 := [(1, .int 0), (0, .ref a)]) (by decide) rfl ?_
  refine V.iconst (pc := 2) C dX10_passYear_2 (v := 0) (by decide) ?_
  refine V.istore_n (pc := 3) C dX10_passYear_3 (L2 := [(2, .int 0), (1, .int 0), (0, .ref a)]) (by decide) rfl ?_
  refine V.wk [2, 1, 0] rfl ?_
  exact v_X10_passYear_b4 C hN a ha FU 0 0 m
theorem c_X10_passYear (l : Launch) {N : Nat} (hN : 109 ≤ N) (a : Nat) (ha : isWorld N a) (m : Mem) : Ct l yX10_passYear cX10_passYear 3 (some .int) 5 SX oI N N RX RX [.ref a] m (X10_passYear a  m) :=
  Ct.of (own := RX10) (nm := "passYear") (by decide) rfl rfl (Nat.le_of_ble_eq_true rfl) (fun _ _ _ _ _ _ _ _ _ _ _ C => v_X10_passYear C hN a ha  m)
theorem dX5_split_0 : decode cX5_split 0 = .ok (.aload_n 0, 1) := by decide +kernel
theorem dX5_split_1 : decode cX5_split 1 = .ok (.getfield 15, 3) := by decide +kernel
theorem dX5_split_4 : decode cX5_split 4 = .ok (.iload_n 1, 1) := by decide +kernel
theorem dX5_split_5 : decode cX5_split 5 = .ok (.iaload, 1) := by decide +kernel
theorem dX5_split_6 : decode cX5_split 6 = .ok (.istore_n 2, 1) := by decide +kernel
theorem dX5_split_7 : decode cX5_split 7 = .ok (.aload_n 0, 1) := by decide +kernel
theorem dX5_split_8 : decode cX5_split 8 = .ok (.getfield 15, 3) := by decide +kernel
theorem dX5_split_11 : decode cX5_split 11 = .ok (.iload_n 1, 1) := by decide +kernel
theorem dX5_split_12 : decode cX5_split 12 = .ok (.iconst (-1), 1) := by decide +kernel
theorem dX5_split_13 : decode cX5_split 13 = .ok (.iastore, 1) := by decide +kernel
theorem dX5_split_14 : decode cX5_split 14 = .ok (.iload_n 2, 1) := by decide +kernel
theorem dX5_split_15 : decode cX5_split 15 = .ok (.ifCond .lt 16, 3) := by decide +kernel
theorem dX5_split_18 : decode cX5_split 18 = .ok (.iload_n 2, 1) := by decide +kernel
theorem dX5_split_19 : decode cX5_split 19 = .ok (.bipush 8, 2) := by decide +kernel
theorem dX5_split_21 : decode cX5_split 21 = .ok (.if_icmp .ge 10, 3) := by decide +kernel
theorem dX5_split_24 : decode cX5_split 24 = .ok (.aload_n 0, 1) := by decide +kernel
theorem dX5_split_25 : decode cX5_split 25 = .ok (.getfield 15, 3) := by decide +kernel
theorem dX5_split_28 : decode cX5_split 28 = .ok (.iload_n 2, 1) := by decide +kernel
theorem dX5_split_29 : decode cX5_split 29 = .ok (.iconst (-1), 1) := by decide +kernel
theorem dX5_split_30 : decode cX5_split 30 = .ok (.iastore, 1) := by decide +kernel
theorem dX5_split_31 : decode cX5_split 31 = .ok (.return_, 1) := by decide +kernel
set_option maxRecDepth 100000 in
set_option maxHeartbeats 4000000 in
theorem v_X5_split {l : Launch} {p : Program} {e : Env} {s : State} {mt : MethodId} {args : Array Value} {below : List Frame} {meth : Method} {c : Code} {A : Nat → Prop} {ad0 : Nat → Nat} {G : Gt} {N : Nat} (C : Cx G p s mt args meth c RX5 cX5_split 3 none "split" A) (hN : 109 ≤ N) (a : Nat) (ha : isLife N a) (x1 : Int32) (m : Mem) : V G SX oV l p e s mt args below meth c 3 1 A ad0 N N RX N RX 0 [(0, .ref a), (1, .int x1)] [] m (X5_split a x1 m) := by
  rw [X5_split]
  refine V.aload_n (pc := 0) C dX5_split_0 0 rfl ?_
  refine V.getr (pc := 1) C fl_RX5_15 ha.s ha.k rfl ha.r2 dX5_split_1 ?_
  refine V.iload_n (pc := 4) C dX5_split_4 1 rfl ?_
  refine V.iald (pc := 5) C ha.s2 ha.k2 dX5_split_5 (fun _ => ?_)
  refine V.lti (fun x_1 _ => ?_)
  refine V.istore_n (pc := 6) C dX5_split_6 (L2 := [(2, .int x_1), (0, .ref a), (1, .int x1)]) (by decide) rfl ?_
  refine V.aload_n (pc := 7) C dX5_split_7 1 rfl ?_
  refine V.getr (pc := 8) C fl_RX5_15 ha.s ha.k rfl ha.r2 dX5_split_8 ?_
  refine V.iload_n (pc := 11) C dX5_split_11 2 rfl ?_
  refine V.iconst (pc := 12) C dX5_split_12 (v := (-1)) (by decide) ?_
  refine V.iast (pc := 13) C ha.s2 ha.k2 dX5_split_13 (fun _ => ?_)
  refine V.ltm (fun m_2 => ?_)
  refine V.iload_n (pc := 14) C dX5_split_14 0 rfl ?_
  refine V.if_lt (pc := 15) C dX5_split_15 31 (by decide) (fun _ => ?_) (fun _ => ?_)
  · exact V.vret C dX5_split_31
  · refine V.iload_n (pc := 18) C dX5_split_18 0 rfl ?_
    refine V.bipush (pc := 19) C dX5_split_19 (v := 8) (by decide) ?_
    refine V.icmp_ge (pc := 21) C dX5_split_21 31 (by decide) (fun _ => ?_) (fun _ => ?_)
    · exact V.vret C dX5_split_31
    · refine V.aload_n (pc := 24) C dX5_split_24 1 rfl ?_
      refine V.getr (pc := 25) C fl_RX5_15 ha.s ha.k rfl ha.r2 dX5_split_25 ?_
      refine V.iload_n (pc := 28) C dX5_split_28 0 rfl ?_
      refine V.iconst (pc := 29) C dX5_split_29 (v := (-1)) (by decide) ?_
      refine V.iast (pc := 30) C ha.s2 ha.k2 dX5_split_30 (fun _ => ?_)
      refine V.ltm (fun m_3 => ?_)
      exact V.vret C dX5_split_31
theorem c_X5_split (l : Launch) {N : Nat} (hN : 109 ≤ N) (a : Nat) (ha : isLife N a) (x1 : Int32) (m : Mem) : Ct l yX5_split cX5_split 3 none 1 SX oV N N RX RX [.ref a, .int x1] m (X5_split a x1 m) :=
  Ct.of (own := RX5) (nm := "split") (by decide) rfl rfl (Nat.le_of_ble_eq_true rfl) (fun _ _ _ _ _ _ _ _ _ _ _ C => v_X5_split C hN a ha x1 m)
theorem dX10_measure_0 : decode cX10_measure 0 = .ok (.iload_n 3, 1) := by decide +kernel
theorem dX10_measure_1 : decode cX10_measure 1 = .ok (.iload 4, 2) := by decide +kernel
theorem dX10_measure_3 : decode cX10_measure 3 = .ok (.iand, 1) := by decide +kernel
theorem dX10_measure_4 : decode cX10_measure 4 = .ok (.istore 5, 2) := by decide +kernel
theorem dX10_measure_6 : decode cX10_measure 6 = .ok (.iconst 1, 1) := by decide +kernel
theorem dX10_measure_7 : decode cX10_measure 7 = .ok (.iload_n 1, 1) := by decide +kernel
theorem dX10_measure_8 : decode cX10_measure 8 = .ok (.ishl, 1) := by decide +kernel
theorem dX10_measure_9 : decode cX10_measure 9 = .ok (.iconst 1, 1) := by decide +kernel
theorem dX10_measure_10 : decode cX10_measure 10 = .ok (.iload_n 2, 1) := by decide +kernel
theorem dX10_measure_11 : decode cX10_measure 11 = .ok (.ishl, 1) := by decide +kernel
theorem dX10_measure_12 : decode cX10_measure 12 = .ok (.ior, 1) := by decide +kernel
theorem dX10_measure_13 : decode cX10_measure 13 = .ok (.istore 6, 2) := by decide +kernel
theorem dX10_measure_15 : decode cX10_measure 15 = .ok (.iconst 0, 1) := by decide +kernel
theorem dX10_measure_16 : decode cX10_measure 16 = .ok (.istore 7, 2) := by decide +kernel
theorem dX10_measure_18 : decode cX10_measure 18 = .ok (.iconst 0, 1) := by decide +kernel
theorem dX10_measure_19 : decode cX10_measure 19 = .ok (.istore 8, 2) := by decide +kernel
theorem dX10_measure_21 : decode cX10_measure 21 = .ok (.iload 8, 2) := by decide +kernel
theorem dX10_measure_23 : decode cX10_measure 23 = .ok (.aload_n 0, 1) := by decide +kernel
theorem dX10_measure_24 : decode cX10_measure 24 = .ok (.getfield 9, 3) := by decide +kernel
theorem dX10_measure_27 : decode cX10_measure 27 = .ok (.getfield 32, 3) := by decide +kernel
theorem dX10_measure_30 : decode cX10_measure 30 = .ok (.if_icmp .ge 50, 3) := by decide +kernel
theorem dX10_measure_33 : decode cX10_measure 33 = .ok (.iload 5, 2) := by decide +kernel
theorem dX10_measure_35 : decode cX10_measure 35 = .ok (.iconst 1, 1) := by decide +kernel
theorem dX10_measure_36 : decode cX10_measure 36 = .ok (.iload 8, 2) := by decide +kernel
theorem dX10_measure_38 : decode cX10_measure 38 = .ok (.ishl, 1) := by decide +kernel
theorem dX10_measure_39 : decode cX10_measure 39 = .ok (.iand, 1) := by decide +kernel
theorem dX10_measure_40 : decode cX10_measure 40 = .ok (.ifCond .eq 34, 3) := by decide +kernel
theorem dX10_measure_43 : decode cX10_measure 43 = .ok (.iload 7, 2) := by decide +kernel
theorem dX10_measure_45 : decode cX10_measure 45 = .ok (.aload_n 0, 1) := by decide +kernel
theorem dX10_measure_46 : decode cX10_measure 46 = .ok (.getfield 9, 3) := by decide +kernel
theorem dX10_measure_49 : decode cX10_measure 49 = .ok (.getfield 26, 3) := by decide +kernel
theorem dX10_measure_52 : decode cX10_measure 52 = .ok (.aload_n 0, 1) := by decide +kernel
theorem dX10_measure_53 : decode cX10_measure 53 = .ok (.getfield 22, 3) := by decide +kernel
theorem dX10_measure_56 : decode cX10_measure 56 = .ok (.getfield 39, 3) := by decide +kernel
theorem dX10_measure_59 : decode cX10_measure 59 = .ok (.iload 8, 2) := by decide +kernel
theorem dX10_measure_61 : decode cX10_measure 61 = .ok (.iaload, 1) := by decide +kernel
theorem dX10_measure_62 : decode cX10_measure 62 = .ok (.iload 6, 2) := by decide +kernel
theorem dX10_measure_64 : decode cX10_measure 64 = .ok (.ior, 1) := by decide +kernel
theorem dX10_measure_65 : decode cX10_measure 65 = .ok (.invokestatic 43, 3) := by decide +kernel
theorem dX10_measure_68 : decode cX10_measure 68 = .ok (.isub, 1) := by decide +kernel
theorem dX10_measure_69 : decode cX10_measure 69 = .ok (.iconst 1, 1) := by decide +kernel
theorem dX10_measure_70 : decode cX10_measure 70 = .ok (.iadd, 1) := by decide +kernel
theorem dX10_measure_71 : decode cX10_measure 71 = .ok (.iadd, 1) := by decide +kernel
theorem dX10_measure_72 : decode cX10_measure 72 = .ok (.istore 7, 2) := by decide +kernel
theorem dX10_measure_74 : decode cX10_measure 74 = .ok (.iinc 8 1, 3) := by decide +kernel
theorem dX10_measure_77 : decode cX10_measure 77 = .ok (.goto (-56), 3) := by decide +kernel
theorem dX10_measure_80 : decode cX10_measure 80 = .ok (.aload_n 0, 1) := by decide +kernel
theorem dX10_measure_81 : decode cX10_measure 81 = .ok (.getfield 15, 3) := by decide +kernel
theorem dX10_measure_84 : decode cX10_measure 84 = .ok (.getfield 49, 3) := by decide +kernel
theorem dX10_measure_87 : decode cX10_measure 87 = .ok (.astore 8, 2) := by decide +kernel
theorem dX10_measure_89 : decode cX10_measure 89 = .ok (.aload 8, 2) := by decide +kernel
theorem dX10_measure_91 : decode cX10_measure 91 = .ok (.iconst 0, 1) := by decide +kernel
theorem dX10_measure_92 : decode cX10_measure 92 = .ok (.iload 5, 2) := by decide +kernel
theorem dX10_measure_94 : decode cX10_measure 94 = .ok (.invokestatic 43, 3) := by decide +kernel
theorem dX10_measure_97 : decode cX10_measure 97 = .ok (.iastore, 1) := by decide +kernel
theorem dX10_measure_98 : decode cX10_measure 98 = .ok (.aload 8, 2) := by decide +kernel
theorem dX10_measure_100 : decode cX10_measure 100 = .ok (.iconst 1, 1) := by decide +kernel
theorem dX10_measure_101 : decode cX10_measure 101 = .ok (.iload 7, 2) := by decide +kernel
theorem dX10_measure_103 : decode cX10_measure 103 = .ok (.iastore, 1) := by decide +kernel
theorem dX10_measure_104 : decode cX10_measure 104 = .ok (.aload 8, 2) := by decide +kernel
theorem dX10_measure_106 : decode cX10_measure 106 = .ok (.iconst 2, 1) := by decide +kernel
theorem dX10_measure_107 : decode cX10_measure 107 = .ok (.iload_n 3, 1) := by decide +kernel
theorem dX10_measure_108 : decode cX10_measure 108 = .ok (.aload_n 0, 1) := by decide +kernel
theorem dX10_measure_109 : decode cX10_measure 109 = .ok (.getfield 9, 3) := by decide +kernel
theorem dX10_measure_112 : decode cX10_measure 112 = .ok (.getfield 54, 3) := by decide +kernel
theorem dX10_measure_115 : decode cX10_measure 115 = .ok (.iload_n 2, 1) := by decide +kernel
theorem dX10_measure_116 : decode cX10_measure 116 = .ok (.iaload, 1) := by decide +kernel
theorem dX10_measure_117 : decode cX10_measure 117 = .ok (.iand, 1) := by decide +kernel
theorem dX10_measure_118 : decode cX10_measure 118 = .ok (.invokestatic 43, 3) := by decide +kernel
theorem dX10_measure_121 : decode cX10_measure 121 = .ok (.iload 4, 2) := by decide +kernel
theorem dX10_measure_123 : decode cX10_measure 123 = .ok (.aload_n 0, 1) := by decide +kernel
theorem dX10_measure_124 : decode cX10_measure 124 = .ok (.getfield 9, 3) := by decide +kernel
theorem dX10_measure_127 : decode cX10_measure 127 = .ok (.getfield 54, 3) := by decide +kernel
theorem dX10_measure_130 : decode cX10_measure 130 = .ok (.iload_n 1, 1) := by decide +kernel
theorem dX10_measure_131 : decode cX10_measure 131 = .ok (.iaload, 1) := by decide +kernel
theorem dX10_measure_132 : decode cX10_measure 132 = .ok (.iand, 1) := by decide +kernel
theorem dX10_measure_133 : decode cX10_measure 133 = .ok (.invokestatic 43, 3) := by decide +kernel
theorem dX10_measure_136 : decode cX10_measure 136 = .ok (.iadd, 1) := by decide +kernel
theorem dX10_measure_137 : decode cX10_measure 137 = .ok (.iastore, 1) := by decide +kernel
theorem dX10_measure_138 : decode cX10_measure 138 = .ok (.aload 8, 2) := by decide +kernel
theorem dX10_measure_140 : decode cX10_measure 140 = .ok (.iconst 3, 1) := by decide +kernel
theorem dX10_measure_141 : decode cX10_measure 141 = .ok (.iload_n 3, 1) := by decide +kernel
theorem dX10_measure_142 : decode cX10_measure 142 = .ok (.invokestatic 43, 3) := by decide +kernel
theorem dX10_measure_145 : decode cX10_measure 145 = .ok (.iload 4, 2) := by decide +kernel
theorem dX10_measure_147 : decode cX10_measure 147 = .ok (.invokestatic 43, 3) := by decide +kernel
theorem dX10_measure_150 : decode cX10_measure 150 = .ok (.iadd, 1) := by decide +kernel
theorem dX10_measure_151 : decode cX10_measure 151 = .ok (.iastore, 1) := by decide +kernel
theorem dX10_measure_152 : decode cX10_measure 152 = .ok (.aload 8, 2) := by decide +kernel
theorem dX10_measure_154 : decode cX10_measure 154 = .ok (.iconst 4, 1) := by decide +kernel
theorem dX10_measure_155 : decode cX10_measure 155 = .ok (.aload_n 0, 1) := by decide +kernel
theorem dX10_measure_156 : decode cX10_measure 156 = .ok (.getfield 22, 3) := by decide +kernel
theorem dX10_measure_159 : decode cX10_measure 159 = .ok (.getfield 57, 3) := by decide +kernel
theorem dX10_measure_162 : decode cX10_measure 162 = .ok (.iload_n 1, 1) := by decide +kernel
theorem dX10_measure_163 : decode cX10_measure 163 = .ok (.iaload, 1) := by decide +kernel
theorem dX10_measure_164 : decode cX10_measure 164 = .ok (.aload_n 0, 1) := by decide +kernel
theorem dX10_measure_165 : decode cX10_measure 165 = .ok (.getfield 22, 3) := by decide +kernel
theorem dX10_measure_168 : decode cX10_measure 168 = .ok (.getfield 57, 3) := by decide +kernel
theorem dX10_measure_171 : decode cX10_measure 171 = .ok (.iload_n 2, 1) := by decide +kernel
theorem dX10_measure_172 : decode cX10_measure 172 = .ok (.iaload, 1) := by decide +kernel
theorem dX10_measure_173 : decode cX10_measure 173 = .ok (.isub, 1) := by decide +kernel
theorem dX10_measure_174 : decode cX10_measure 174 = .ok (.invokestatic 60, 3) := by decide +kernel
theorem dX10_measure_177 : decode cX10_measure 177 = .ok (.iastore, 1) := by decide +kernel
theorem dX10_measure_178 : decode cX10_measure 178 = .ok (.aload 8, 2) := by decide +kernel
theorem dX10_measure_180 : decode cX10_measure 180 = .ok (.iconst 5, 1) := by decide +kernel
theorem dX10_measure_181 : decode cX10_measure 181 = .ok (.aload_n 0, 1) := by decide +kernel
theorem dX10_measure_182 : decode cX10_measure 182 = .ok (.getfield 22, 3) := by decide +kernel
theorem dX10_measure_185 : decode cX10_measure 185 = .ok (.getfield 57, 3) := by decide +kernel
theorem dX10_measure_188 : decode cX10_measure 188 = .ok (.iload_n 1, 1) := by decide +kernel
theorem dX10_measure_189 : decode cX10_measure 189 = .ok (.iaload, 1) := by decide +kernel
theorem dX10_measure_190 : decode cX10_measure 190 = .ok (.aload_n 0, 1) := by decide +kernel
theorem dX10_measure_191 : decode cX10_measure 191 = .ok (.getfield 22, 3) := by decide +kernel
theorem dX10_measure_194 : decode cX10_measure 194 = .ok (.getfield 57, 3) := by decide +kernel
theorem dX10_measure_197 : decode cX10_measure 197 = .ok (.iload_n 2, 1) := by decide +kernel
theorem dX10_measure_198 : decode cX10_measure 198 = .ok (.iaload, 1) := by decide +kernel
theorem dX10_measure_199 : decode cX10_measure 199 = .ok (.invokestatic 65, 3) := by decide +kernel
theorem dX10_measure_202 : decode cX10_measure 202 = .ok (.iastore, 1) := by decide +kernel
theorem dX10_measure_203 : decode cX10_measure 203 = .ok (.aload 8, 2) := by decide +kernel
theorem dX10_measure_205 : decode cX10_measure 205 = .ok (.bipush 6, 2) := by decide +kernel
theorem dX10_measure_207 : decode cX10_measure 207 = .ok (.aload_n 0, 1) := by decide +kernel
theorem dX10_measure_208 : decode cX10_measure 208 = .ok (.getfield 22, 3) := by decide +kernel
theorem dX10_measure_211 : decode cX10_measure 211 = .ok (.getfield 69, 3) := by decide +kernel
theorem dX10_measure_214 : decode cX10_measure 214 = .ok (.iastore, 1) := by decide +kernel
theorem dX10_measure_215 : decode cX10_measure 215 = .ok (.return_, 1) := by decide +kernel
set_option maxRecDepth 100000 in
set_option maxHeartbeats 4000000 in
theorem v_X10_measure_b21 {l : Launch} {p : Program} {e : Env} {s : State} {mt : MethodId} {args : Array Value} {below : List Frame} {meth : Method} {c : Code} {A : Nat → Prop} {ad0 : Nat → Nat} {G : Gt} {N : Nat} (C : Cx G p s mt args meth c RX10 cX10_measure 9 none "measure" A) (hN : 109 ≤ N) (a : Nat) (ha : isWorld N a) : ∀ (n : Nat) (y1 : Int32) (y2 : Int32) (y3 : Int32) (y4 : Int32) (y5 : Int32) (y6 : Int32) (y7 : Int32) (y8 : Int32) (m : Mem), V G SX oV l p e s mt args below meth c 9 2 A ad0 N N RX N RX 21 [(0, .ref a), (1, .int y1), (2, .int y2), (3, .int y3), (4, .int y4), (5, .int y5), (6, .int y6), (7, .int y7), (8, .int y8)] [] m (X10_measure_b21 a n y1 y2 y3 y4 y5 y6 y7 y8 m) := by
  intro n
  induction n with
  | zero =>
    intro y1 y2 y3 y4 y5 y6 y7 y8 m
    rw [X10_measure_b21]
    exact V.nil
  | succ n ih =>
    intro y1 y2 y3 y4 y5 y6 y7 y8 m
    rw [X10_measure_b21]
    refine V.iload (pc := 21) C dX10_measure_21 8 rfl ?_
    refine V.aload_n (pc := 23) C dX10_measure_23 0 rfl ?_
    refine V.getr (pc := 24) C fl_RX10_9 ha.s ha.k rfl ha.r0 dX10_measure_24 ?_
    refine V.geti (pc := 27) C fl_RX10_32 sX2 (kX2 hN) rfl dX10_measure_27 ?_
    refine V.icmp_ge (pc := 30) C dX10_measure_30 80 (by decide) (fun _ => ?_) (fun _ => ?_)
    · refine V.aload_n (pc := 80) C dX10_measure_80 0 rfl ?_
      refine V.getr (pc := 81) C fl_RX10_15 ha.s ha.k rfl ha.r1 dX10_measure_81 ?_
      refine V.getr (pc := 84) C fl_RX10_49 sX22 (kX22 hN) rfl rX22_0 dX10_measure_84 ?_
      refine V.astore (pc := 87) C dX10_measure_87 (L2 := [(8, .ref 23), (0, .ref a), (1, .int y1), (2, .int y2), (3, .int y3), (4, .int y4), (5, .int y5), (6, .int y6), (7, .int y7)]) (by decide) rfl ?_
      refine V.aload (pc := 89) C dX10_measure_89 0 rfl ?_
      refine V.iconst (pc := 91) C dX10_measure_91 (v := 0) (by decide) ?_
      refine V.iload (pc := 92) C dX10_measure_92 6 rfl ?_
      refine V.callS (pc := 94) (st := [.int 0, .ref 23]) C (c_J6_bitCount_0f7a4 l y5 m) obI ck_J6_bitCount_0f7a4 ml_RX10_43 rfl rfl (Nat.le_of_ble_eq_true rfl) ⟨by decide, by decide⟩ dX10_measure_94 (fun r_3 m_4 _ => ?_)
      refine V.iast (pc := 97) C sX23 (kX23 hN) dX10_measure_97 (fun _ => ?_)
      refine V.ltm (fun m_5 => ?_)
      refine V.aload (pc := 98) C dX10_measure_98 0 rfl ?_
      refine V.iconst (pc := 100) C dX10_measure_100 (v := 1) (by decide) ?_
      refine V.iload (pc := 101) C dX10_measure_101 8 rfl ?_
      refine V.iast (pc := 103) C sX23 (kX23 hN) dX10_measure_103 (fun _ => ?_)
      refine V.ltm (fun m_6 => ?_)
      refine V.aload (pc := 104) C dX10_measure_104 0 rfl ?_
      refine V.iconst (pc := 106) C dX10_measure_106 (v := 2) (by decide) ?_
      refine V.iload_n (pc := 107) C dX10_measure_107 4 rfl ?_
      refine V.aload_n (pc := 108) C dX10_measure_108 1 rfl ?_
      refine V.getr (pc := 109) C fl_RX10_9 ha.s ha.k rfl ha.r0 dX10_measure_109 ?_
      refine V.getr (pc := 112) C fl_RX10_54 sX2 (kX2 hN) rfl rX2_6 dX10_measure_112 ?_
      refine V.iload_n (pc := 115) C dX10_measure_115 3 rfl ?_
      refine V.iald (pc := 116) C sX4 (kX4 hN) dX10_measure_116 (fun _ => ?_)
      refine V.iand (pc := 117) C dX10_measure_117 ?_
      refine V.callS (pc := 118) (st := [.int 2, .ref 23]) C (c_J6_bitCount_0f7a4 l (y3 &&& (gi m_6 4 (ix y2))) m_6) obI ck_J6_bitCount_0f7a4 ml_RX10_43 rfl rfl (Nat.le_of_ble_eq_true rfl) ⟨by decide, by decide⟩ dX10_measure_118 (fun r_7 m_8 _ => ?_)
      refine V.iload (pc := 121) C dX10_measure_121 5 rfl ?_
      refine V.aload_n (pc := 123) C dX10_measure_123 1 rfl ?_
      refine V.getr (pc := 124) C fl_RX10_9 ha.s ha.k rfl ha.r0 dX10_measure_124 ?_
      refine V.getr (pc := 127) C fl_RX10_54 sX2 (kX2 hN) rfl rX2_6 dX10_measure_127 ?_
      refine V.iload_n (pc := 130) C dX10_measure_130 2 rfl ?_
      refine V.iald (pc := 131) C sX4 (kX4 hN) dX10_measure_131 (fun _ => ?_)
      refine V.iand (pc := 132) C dX10_measure_132 ?_
      refine V.callS (pc := 133) (st := [.int r_7, .int 2, .ref 23]) C (c_J6_bitCount_0f7a4 l (y4 &&& (gi m_8 4 (ix y1))) m_8) obI ck_J6_bitCount_0f7a4 ml_RX10_43 rfl rfl (Nat.le_of_ble_eq_true rfl) ⟨by decide, by decide⟩ dX10_measure_133 (fun r_9 m_10 _ => ?_)
      refine V.iadd (pc := 136) C dX10_measure_136 ?_
      refine V.iast (pc := 137) C sX23 (kX23 hN) dX10_measure_137 (fun _ => ?_)
      refine V.ltm (fun m_11 => ?_)
      refine V.aload (pc := 138) C dX10_measure_138 0 rfl ?_
      refine V.iconst (pc := 140) C dX10_measure_140 (v := 3) (by decide) ?_
      refine V.iload_n (pc := 141) C dX10_measure_141 4 rfl ?_
      refine V.callS (pc := 142) (st := [.int 3, .ref 23]) C (c_J6_bitCount_0f7a4 l y3 m_11) obI ck_J6_bitCount_0f7a4 ml_RX10_43 rfl rfl (Nat.le_of_ble_eq_true rfl) ⟨by decide, by decide⟩ dX10_measure_142 (fun r_12 m_13 _ => ?_)
      refine V.iload (pc := 145) C dX10_measure_145 5 rfl ?_
      refine V.callS (pc := 147) (st := [.int r_12, .int 3, .ref 23]) C (c_J6_bitCount_0f7a4 l y4 m_13) obI ck_J6_bitCount_0f7a4 ml_RX10_43 rfl rfl (Nat.le_of_ble_eq_true rfl) ⟨by decide, by decide⟩ dX10_measure_147 (fun r_14 m_15 _ => ?_)
      refine V.iadd (pc := 150) C dX10_measure_150 ?_
      refine V.iast (pc := 151) C sX23 (kX23 hN) dX10_measure_151 (fun _ => ?_)
      refine V.ltm (fun m_16 => ?_)
      refine V.aload (pc := 152) C dX10_measure_152 0 rfl ?_
      refine V.iconst (pc := 154) C dX10_measure_154 (v := 4) (by decide) ?_
      refine V.aload_n (pc := 155) C dX10_measure_155 1 rfl ?_
      refine V.getr (pc := 156) C fl_RX10_22 ha.s ha.k rfl ha.r2 dX10_measure_156 ?_
      refine V.getr (pc := 159) C fl_RX10_57 ha.life.s ha.life.k rfl ha.life.r1 dX10_measure_159 ?_
      refine V.iload_n (pc := 162) C dX10_measure_162 2 rfl ?_
      refine V.iald (pc := 163) C ha.life.s1 ha.life.k1 dX10_measure_163 (fun _ => ?_)
      refine V.aload_n (pc := 164) C dX10_measure_164 1 rfl ?_
      refine V.getr (pc := 165) C fl_RX10_22 ha.s ha.k rfl ha.r2 dX10_measure_165 ?_
      refine V.getr (pc := 168) C fl_RX10_57 ha.life.s ha.life.k rfl ha.life.r1 dX10_measure_168 ?_
      refine V.iload_n (pc := 171) C dX10_measure_171 3 rfl ?_
      refine V.iald (pc := 172) C ha.life.s1 ha.life.k1 dX10_measure_172 (fun _ => ?_)
      refine V.isub (pc := 173) C dX10_measure_173 ?_
      refine V.mabs (pc := 174) (st := [.int 4, .ref 23]) C ml_RX10_60 mt_abs_s mt_i mt_abs_c (by decide) (Nat.le_of_ble_eq_true rfl) dX10_measure_174 ?_
      refine V.iast (pc := 177) C sX23 (kX23 hN) dX10_measure_177 (fun _ => ?_)
      refine V.ltm (fun m_17 => ?_)
      refine V.aload (pc := 178) C dX10_measure_178 0 rfl ?_
      refine V.iconst (pc := 180) C dX10_measure_180 (v := 5) (by decide) ?_
      refine V.aload_n (pc := 181) C dX10_measure_181 1 rfl ?_
      refine V.getr (pc := 182) C fl_RX10_22 ha.s ha.k rfl ha.r2 dX10_measure_182 ?_
      refine V.getr (pc := 185) C fl_RX10_57 ha.life.s ha.life.k rfl ha.life.r1 dX10_measure_185 ?_
      refine V.iload_n (pc := 188) C dX10_measure_188 2 rfl ?_
      refine V.iald (pc := 189) C ha.life.s1 ha.life.k1 dX10_measure_189 (fun _ => ?_)
      refine V.aload_n (pc := 190) C dX10_measure_190 1 rfl ?_
      refine V.getr (pc := 191) C fl_RX10_22 ha.s ha.k rfl ha.r2 dX10_measure_191 ?_
      refine V.getr (pc := 194) C fl_RX10_57 ha.life.s ha.life.k rfl ha.life.r1 dX10_measure_194 ?_
      refine V.iload_n (pc := 197) C dX10_measure_197 3 rfl ?_
      refine V.iald (pc := 198) C ha.life.s1 ha.life.k1 dX10_measure_198 (fun _ => ?_)
      refine V.mmax (pc := 199) (st := [.int 5, .ref 23]) C ml_RX10_65 mt_max_s mt_i mt_max_c (by decide) (Nat.le_of_ble_eq_true rfl) dX10_measure_199 ?_
      refine V.iast (pc := 202) C sX23 (kX23 hN) dX10_measure_202 (fun _ => ?_)
      refine V.ltm (fun m_18 => ?_)
      refine V.aload (pc := 203) C dX10_measure_203 0 rfl ?_
      refine V.bipush (pc := 205) C dX10_measure_205 (v := 6) (by decide) ?_
      refine V.aload_n (pc := 207) C dX10_measure_207 1 rfl ?_
      refine V.getr (pc := 208) C fl_RX10_22 ha.s ha.k rfl ha.r2 dX10_measure_208 ?_
      refine V.geti (pc := 211) C fl_RX10_69 ha.life.s ha.life.k rfl dX10_measure_211 ?_
      refine V.iast (pc := 214) C sX23 (kX23 hN) dX10_measure_214 (fun _ => ?_)
      refine V.ltm (fun m_19 => ?_)
      exact V.vret C dX10_measure_215
    · refine V.iload (pc := 33) C dX10_measure_33 5 rfl ?_
      refine V.iconst (pc := 35) C dX10_measure_35 (v := 1) (by decide) ?_
      refine V.iload (pc := 36) C dX10_measure_36 8 rfl ?_
      refine V.ishl (pc := 38) C dX10_measure_38 ?_
      refine V.iand (pc := 39) C dX10_measure_39 ?_
      refine V.if_eq (pc := 40) C dX10_measure_40 74 (by decide) (fun _ => ?_) (fun _ => ?_)
      · refine V.iinc (pc := 74) C dX10_measure_74 (v := 1) (L2 := [(8, .int (y8 + 1)), (0, .ref a), (1, .int y1), (2, .int y2), (3, .int y3), (4, .int y4), (5, .int y5), (6, .int y6), (7, .int y7)]) 8 rfl (by decide) (by decide) rfl ?_
        refine V.goto (pc := 77) C dX10_measure_77 21 (by decide) ?_
        refine V.wk [1, 2, 3, 4, 5, 6, 7, 8, 0] rfl ?_
        exact ih y1 y2 y3 y4 y5 y6 y7 (y8 + 1) m
      · refine V.iload (pc := 43) C dX10_measure_43 7 rfl ?_
        refine V.aload_n (pc := 45) C dX10_measure_45 0 rfl ?_
        refine V.getr (pc := 46) C fl_RX10_9 ha.s ha.k rfl ha.r0 dX10_measure_46 ?_
        refine V.geti (pc := 49) C fl_RX10_26 sX2 (kX2 hN) rfl dX10_measure_49 ?_
        refine V.aload_n (pc := 52) C dX10_measure_52 0 rfl ?_
        refine V.getr (pc := 53) C fl_RX10_22 ha.s ha.k rfl ha.r2 dX10_measure_53 ?_
        refine V.getr (pc := 56) C fl_RX10_39 ha.life.s ha.life.k rfl ha.life.r4 dX10_measure_56 ?_
        refine V.iload (pc := 59) C dX10_measure_59 8 rfl ?_
        refine V.iald (pc := 61) C ha.life.s4 ha.life.k4 dX10_measure_61 (fun _ => ?_)
        refine V.iload (pc := 62) C dX10_measure_62 6 rfl ?_
        refine V.ior (pc := 64) C dX10_measure_64 ?_
        refine V.callS (pc := 65) (st := [.int (gi m 2 1), .int y7]) C (c_J6_bitCount_0f7a4 l ((gi m ((a + 1) + 4) (ix y8)) ||| y6) m) obI ck_J6_bitCount_0f7a4 ml_RX10_43 rfl rfl (Nat.le_of_ble_eq_true rfl) ⟨by decide, by decide⟩ dX10_measure_65 (fun r_20 m_21 _ => ?_)
        refine V.isub (pc := 68) C dX10_measure_68 ?_
        refine V.iconst (pc := 69) C dX10_measure_69 (v := 1) (by decide) ?_
        refine V.iadd (pc := 70) C dX10_measure_70 ?_
        refine V.iadd (pc := 71) C dX10_measure_71 ?_
        refine V.lti (fun x_22 _ => ?_)
        refine V.istore (pc := 72) C dX10_measure_72 (L2 := [(7, .int x_22), (0, .ref a), (1, .int y1), (2, .int y2), (3, .int y3), (4, .int y4), (5, .int y5), (6, .int y6), (8, .int y8)]) (by decide) rfl ?_
        refine V.iinc (pc := 74) C dX10_measure_74 (v := 1) (L2 := [(8, .int (y8 + 1)), (7, .int x_22), (0, .ref a), (1, .int y1), (2, .int y2), (3, .int y3), (4, .int y4), (5, .int y5), (6, .int y6)]) 8 rfl (by decide) (by decide) rfl ?_
        refine V.goto (pc := 77) C dX10_measure_77 21 (by decide) ?_
        refine V.wk [2, 3, 4, 5, 6, 7, 8, 1, 0] rfl ?_
        exact ih y1 y2 y3 y4 y5 y6 x_22 (y8 + 1) m_21
set_option maxRecDepth 100000 in
set_option maxHeartbeats 4000000 in
theorem v_X10_measure {l : Launch} {p : Program} {e : Env} {s : State} {mt : MethodId} {args : Array Value} {below : List Frame} {meth : Method} {c : Code} {A : Nat → Prop} {ad0 : Nat → Nat} {G : Gt} {N : Nat} (C : Cx G p s mt args meth c RX10 cX10_measure 9 none "measure" A) (hN : 109 ≤ N) (a : Nat) (ha : isWorld N a) (x1 : Int32) (x2 : Int32) (x3 : Int32) (x4 : Int32) (m : Mem) : V G SX oV l p e s mt args below meth c 9 2 A ad0 N N RX N RX 0 [(0, .ref a), (1, .int x1), (2, .int x2), (3, .int x3), (4, .int x4)] [] m (X10_measure a x1 x2 x3 x4 m) := by
  rw [X10_measure]
  refine V.iload_n (pc := 0) C dX10_measure_0 3 rfl ?_
  refine V.iload (pc := 1) C dX10_measure_1 4 rfl ?_
  refine V.iand (pc := 3) C dX10_measure_3 ?_
  refine V.lti (fun x_1 _ => ?_)
  refine V.istore (pc := 4) C dX10_measure_4 (L2 := [(5, .int x_1), (0, .ref a), (1, .int x1), (2, .int x2), (3, .int x3), (4, .int x4)]) (by decide) rfl ?_
  refine V.iconst (pc := 6) C dX10_measure_6 (v := 1) (by decide) ?_
  refine V.iload_n (pc := 7) C dX10_measure_7 2 rfl ?_
  refine V.ishl (pc := 8) C dX10_measure_8 ?_
  refine V.iconst (pc := 9) C dX10_measure_9 (v := 1) (by decide) ?_
  refine V.iload_n (pc := 10) C dX10_measure_10 3 rfl ?_
  refine V.ishl (pc := 11) C dX10_measure_11 ?_
  refine V.ior (pc := 12) C dX10_measure_12 ?_
  refine V.lti (fun x_2 _ => ?_)
  refine V.istore (pc := 13) C dX10_measure_13 (L2 := [(6, .int x_2), (5, .int x_1), (0, .ref a), (1, .int x1), (2, .int x2), (3, .int x3), (4, .int x4)]) (by decide) rfl ?_
  refine V.iconst (pc := 15) C dX10_measure_15 (v := 0) (by decide) ?_
  refine V.istore (pc := 16) C dX10_measure_16 (L2 := [(7, .int 0), (6, .int x_2), (5, .int x_1), (0, .ref a), (1, .int x1), (2, .int x2), (3, .int x3), (4, .int x4)]) (by decide) rfl ?_
  refine V.iconst (pc := 18) C dX10_measure_18 (v := 0) (by decide) ?_
  refine V.istore (pc := 19) C dX10_measure_19 (L2 := [(8, .int 0), (7, .int 0), (6, .int x_2), (5, .int x_1), (0, .ref a), (1, .int x1), (2, .int x2), (3, .int x3), (4, .int x4)]) (by decide) rfl ?_
  refine V.wk [4, 5, 6, 7, 8, 3, 2, 1, 0] rfl ?_
  exact v_X10_measure_b21 C hN a ha FU x1 x2 x3 x4 x_1 x_2 0 0 m
theorem c_X10_measure (l : Launch) {N : Nat} (hN : 109 ≤ N) (a : Nat) (ha : isWorld N a) (x1 : Int32) (x2 : Int32) (x3 : Int32) (x4 : Int32) (m : Mem) : Ct l yX10_measure cX10_measure 9 none 2 SX oV N N RX RX [.ref a, .int x1, .int x2, .int x3, .int x4] m (X10_measure a x1 x2 x3 x4 m) :=
  Ct.of (own := RX10) (nm := "measure") (by decide) rfl rfl (Nat.le_of_ble_eq_true rfl) (fun _ _ _ _ _ _ _ _ _ _ _ C => v_X10_measure C hN a ha x1 x2 x3 x4 m)
