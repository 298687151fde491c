theorem dX1_findAlike_0 : decode cX1_findAlike 0 = .ok (.iconst 0, 1) := by decide +kernel
theorem dX1_findAlike_1 : decode cX1_findAlike 1 = .ok (.istore_n 2, 1) := by decide +kernel
theorem dX1_findAlike_2 : decode cX1_findAlike 2 = .ok (.iconst 0, 1) := by decide +kernel
theorem dX1_findAlike_3 : decode cX1_findAlike 3 = .ok (.istore_n 3, 1) := by decide +kernel
theorem dX1_findAlike_4 : decode cX1_findAlike 4 = .ok (.iload_n 3, 1) := by decide +kernel
theorem dX1_findAlike_5 : decode cX1_findAlike 5 = .ok (.iload_n 1, 1) := by decide +kernel
theorem dX1_findAlike_6 : decode cX1_findAlike 6 = .ok (.if_icmp .ge 41, 3) := by decide +kernel
theorem dX1_findAlike_9 : decode cX1_findAlike 9 = .ok (.aload_n 0, 1) := by decide +kernel
theorem dX1_findAlike_10 : decode cX1_findAlike 10 = .ok (.getfield 49, 3) := by decide +kernel
theorem dX1_findAlike_13 : decode cX1_findAlike 13 = .ok (.iconst 1, 1) := by decide +kernel
theorem dX1_findAlike_14 : decode cX1_findAlike 14 = .ok (.iload_n 3, 1) := by decide +kernel
theorem dX1_findAlike_15 : decode cX1_findAlike 15 = .ok (.ishl, 1) := by decide +kernel
theorem dX1_findAlike_16 : decode cX1_findAlike 16 = .ok (.iand, 1) := by decide +kernel
theorem dX1_findAlike_17 : decode cX1_findAlike 17 = .ok (.ifCond .eq 24, 3) := by decide +kernel
theorem dX1_findAlike_20 : decode cX1_findAlike 20 = .ok (.aload_n 0, 1) := by decide +kernel
theorem dX1_findAlike_21 : decode cX1_findAlike 21 = .ok (.getfield 9, 3) := by decide +kernel
theorem dX1_findAlike_24 : decode cX1_findAlike 24 = .ok (.iload_n 3, 1) := by decide +kernel
theorem dX1_findAlike_25 : decode cX1_findAlike 25 = .ok (.iaload, 1) := by decide +kernel
theorem dX1_findAlike_26 : decode cX1_findAlike 26 = .ok (.aload_n 0, 1) := by decide +kernel
theorem dX1_findAlike_27 : decode cX1_findAlike 27 = .ok (.getfield 9, 3) := by decide +kernel
theorem dX1_findAlike_30 : decode cX1_findAlike 30 = .ok (.iload_n 1, 1) := by decide +kernel
theorem dX1_findAlike_31 : decode cX1_findAlike 31 = .ok (.iaload, 1) := by decide +kernel
theorem dX1_findAlike_32 : decode cX1_findAlike 32 = .ok (.if_icmp .ne 9, 3) := by decide +kernel
theorem dX1_findAlike_35 : decode cX1_findAlike 35 = .ok (.iload_n 2, 1) := by decide +kernel
theorem dX1_findAlike_36 : decode cX1_findAlike 36 = .ok (.iconst 1, 1) := by decide +kernel
theorem dX1_findAlike_37 : decode cX1_findAlike 37 = .ok (.iload_n 3, 1) := by decide +kernel
theorem dX1_findAlike_38 : decode cX1_findAlike 38 = .ok (.ishl, 1) := by decide +kernel
theorem dX1_findAlike_39 : decode cX1_findAlike 39 = .ok (.ior, 1) := by decide +kernel
theorem dX1_findAlike_40 : decode cX1_findAlike 40 = .ok (.istore_n 2, 1) := by decide +kernel
theorem dX1_findAlike_41 : decode cX1_findAlike 41 = .ok (.iinc 3 1, 3) := by decide +kernel
theorem dX1_findAlike_44 : decode cX1_findAlike 44 = .ok (.goto (-40), 3) := by decide +kernel
theorem dX1_findAlike_47 : decode cX1_findAlike 47 = .ok (.iload_n 2, 1) := by decide +kernel
theorem dX1_findAlike_48 : decode cX1_findAlike 48 = .ok (.ireturn, 1) := by decide +kernel
set_option maxRecDepth 100000 in
set_option maxHeartbeats 4000000 in
theorem v_X1_findAlike_b4 {l : Launch} {p : Program} {e : Env} {s : State} {mt : MethodId} {args : Array Value} {below : List Frame} {meth : Method} {c : Code} {A : Nat → Prop} {ad0 : Nat → Nat} {G : Gt} {N : Nat} (C : Cx G p s mt args meth c RX1 cX1_findAlike 4 (some .int) "findAlike" A) (hN : 109 ≤ N) : ∀ (n : Nat) (y1 : Int32) (y2 : Int32) (y3 : Int32) (m : Mem), V G SX oI l p e s mt args below meth c 4 1 A ad0 N N RX N RX 4 [(0, .ref 96), (1, .int y1), (2, .int y2), (3, .int y3)] [] m (X1_findAlike_b4  n y1 y2 y3 m) := by
  intro n
  induction n with
  | zero =>
    intro y1 y2 y3 m
    rw [X1_findAlike_b4]
    exact V.nil
  | succ n ih =>
    intro y1 y2 y3 m
    rw [X1_findAlike_b4]
    refine V.iload_n (pc := 4) C dX1_findAlike_4 3 rfl ?_
    refine V.iload_n (pc := 5) C dX1_findAlike_5 1 rfl ?_
    refine V.icmp_ge (pc := 6) C dX1_findAlike_6 47 (by decide) (fun _ => ?_) (fun _ => ?_)
    · refine V.iload_n (pc := 47) C dX1_findAlike_47 2 rfl ?_
      exact V.iret C dX1_findAlike_48
    · refine V.aload_n (pc := 9) C dX1_findAlike_9 0 rfl ?_
      refine V.geti (pc := 10) C fl_RX1_49 sX96 (kX96 hN) rfl dX1_findAlike_10 ?_
      refine V.iconst (pc := 13) C dX1_findAlike_13 (v := 1) (by decide) ?_
      refine V.iload_n (pc := 14) C dX1_findAlike_14 3 rfl ?_
      refine V.ishl (pc := 15) C dX1_findAlike_15 ?_
      refine V.iand (pc := 16) C dX1_findAlike_16 ?_
      refine V.if_eq (pc := 17) C dX1_findAlike_17 41 (by decide) (fun _ => ?_) (fun _ => ?_)
      · refine V.iinc (pc := 41) C dX1_findAlike_41 (v := 1) (L2 := [(3, .int (y3 + 1)), (0, .ref 96), (1, .int y1), (2, .int y2)]) 3 rfl (by decide) (by decide) rfl ?_
        refine V.goto (pc := 44) C dX1_findAlike_44 4 (by decide) ?_
        refine V.wk [1, 2, 3, 0] rfl ?_
        exact ih y1 y2 (y3 + 1) m
      · refine V.aload_n (pc := 20) C dX1_findAlike_20 0 rfl ?_
        refine V.getr (pc := 21) C fl_RX1_9 sX96 (kX96 hN) rfl rX96_4 dX1_findAlike_21 ?_
        refine V.iload_n (pc := 24) C dX1_findAlike_24 3 rfl ?_
        refine V.iald (pc := 25) C sX97 (kX97 hN) dX1_findAlike_25 (fun _ => ?_)
        refine V.aload_n (pc := 26) C dX1_findAlike_26 0 rfl ?_
        refine V.getr (pc := 27) C fl_RX1_9 sX96 (kX96 hN) rfl rX96_4 dX1_findAlike_27 ?_
        refine V.iload_n (pc := 30) C dX1_findAlike_30 1 rfl ?_
        refine V.iald (pc := 31) C sX97 (kX97 hN) dX1_findAlike_31 (fun _ => ?_)
        refine V.icmp_ne (pc := 32) C dX1_findAlike_32 41 (by decide) (fun _ => ?_) (fun _ => ?_)
        · refine V.iinc (pc := 41) C dX1_findAlike_41 (v := 1) (L2 := [(3, .int (y3 + 1)), (0, .ref 96), (1, .int y1), (2, .int y2)]) 3 rfl (by decide) (by decide) rfl ?_
          refine V.goto (pc := 44) C dX1_findAlike_44 4 (by decide) ?_
          refine V.wk [1, 2, 3, 0] rfl ?_
          exact ih y1 y2 (y3 + 1) m
        · refine V.iload_n (pc := 35) C dX1_findAlike_35 2 rfl ?_
          refine V.iconst (pc := 36) C dX1_findAlike_36 (v := 1) (by decide) ?_
          refine V.iload_n (pc := 37) C dX1_findAlike_37 3 rfl ?_
          refine V.ishl (pc := 38) C dX1_findAlike_38 ?_
          refine V.ior (pc := 39) C dX1_findAlike_39 ?_
          refine V.lti (fun x_1 _ => ?_)
          refine V.istore_n (pc := 40) C dX1_findAlike_40 (L2 := [(2, .int x_1), (0, .ref 96), (1, .int y1), (3, .int y3)]) (by decide) rfl ?_
          refine V.iinc (pc := 41) C dX1_findAlike_41 (v := 1) (L2 := [(3, .int (y3 + 1)), (2, .int x_1), (0, .ref 96), (1, .int y1)]) 3 rfl (by decide) (by decide) rfl ?_
          refine V.goto (pc := 44) C dX1_findAlike_44 4 (by decide) ?_
          refine V.wk [2, 3, 1, 0] rfl ?_
          exact ih y1 x_1 (y3 + 1) m
set_option maxRecDepth 100000 in
set_option maxHeartbeats 4000000 in
theorem v_X1_findAlike {l : Launch} {p : Program} {e : Env} {s : State} {mt : MethodId} {args : Array Value} {below : List Frame} {meth : Method} {c : Code} {A : Nat → Prop} {ad0 : Nat → Nat} {G : Gt} {N : Nat} (C : Cx G p s mt args meth c RX1 cX1_findAlike 4 (some .int) "findAlike" A) (hN : 109 ≤ N) (x1 : Int32) (m : Mem) : V G SX oI l p e s mt args below meth c 4 1 A ad0 N N RX N RX 0 [(0, .ref 96), (1, .int x1)] [] m (X1_findAlike  x1 m) := by
  rw [X1_findAlike]
  refine V.iconst (pc := 0) C dX1_findAlike_0 (v := 0) (by decide) ?_
  refine V.istore_n (pc := 1) C dX1_findAlike_1 (L2 := [(2, .int 0), (0, .ref 96), (1, .int x1)]) (by decide) rfl ?_
  refine V.iconst (pc := 2) C dX1_findAlike_2 (v := 0) (by decide) ?_
  refine V.istore_n (pc := 3) C dX1_findAlike_3 (L2 := [(3, .int 0), (2, .int 0), (0, .ref 96), (1, .int x1)]) (by decide) rfl ?_
  refine V.wk [2, 3, 1, 0] rfl ?_
  exact v_X1_findAlike_b4 C hN FU x1 0 0 m
theorem c_X1_findAlike (l : Launch) {N : Nat} (hN : 109 ≤ N) (x1 : Int32) (m : Mem) : Ct l yX1_findAlike cX1_findAlike 4 (some .int) 1 SX oI N N RX RX [.ref 96, .int x1] m (X1_findAlike  x1 m) :=
  Ct.of (own := RX1) (nm := "findAlike") (by decide) rfl rfl (Nat.le_of_ble_eq_true rfl) (fun _ _ _ _ _ _ _ _ _ _ _ C => v_X1_findAlike C hN x1 m)
theorem dX1_reachesBar_0 : decode cX1_reachesBar 0 = .ok (.aload_n 0, 1) := by decide +kernel
theorem dX1_reachesBar_1 : decode cX1_reachesBar 1 = .ok (.iload_n 1, 1) := by decide +kernel
theorem dX1_reachesBar_2 : decode cX1_reachesBar 2 = .ok (.putfield 85, 3) := by decide +kernel
theorem dX1_reachesBar_5 : decode cX1_reachesBar 5 = .ok (.aload_n 0, 1) := by decide +kernel
theorem dX1_reachesBar_6 : decode cX1_reachesBar 6 = .ok (.getfield 18, 3) := by decide +kernel
theorem dX1_reachesBar_9 : decode cX1_reachesBar 9 = .ok (.getfield 40, 3) := by decide +kernel
theorem dX1_reachesBar_12 : decode cX1_reachesBar 12 = .ok (.astore_n 2, 1) := by decide +kernel
theorem dX1_reachesBar_13 : decode cX1_reachesBar 13 = .ok (.aload_n 0, 1) := by decide +kernel
theorem dX1_reachesBar_14 : decode cX1_reachesBar 14 = .ok (.getfield 18, 3) := by decide +kernel
theorem dX1_reachesBar_17 : decode cX1_reachesBar 17 = .ok (.aload_n 0, 1) := by decide +kernel
theorem dX1_reachesBar_18 : decode cX1_reachesBar 18 = .ok (.getfield 22, 3) := by decide +kernel
theorem dX1_reachesBar_21 : decode cX1_reachesBar 21 = .ok (.aload_n 0, 1) := by decide +kernel
theorem dX1_reachesBar_22 : decode cX1_reachesBar 22 = .ok (.getfield 26, 3) := by decide +kernel
theorem dX1_reachesBar_25 : decode cX1_reachesBar 25 = .ok (.aload_n 2, 1) := by decide +kernel
theorem dX1_reachesBar_26 : decode cX1_reachesBar 26 = .ok (.getfield 44, 3) := by decide +kernel
theorem dX1_reachesBar_29 : decode cX1_reachesBar 29 = .ok (.aload_n 0, 1) := by decide +kernel
theorem dX1_reachesBar_30 : decode cX1_reachesBar 30 = .ok (.getfield 22, 3) := by decide +kernel
theorem dX1_reachesBar_33 : decode cX1_reachesBar 33 = .ok (.iaload, 1) := by decide +kernel
theorem dX1_reachesBar_34 : decode cX1_reachesBar 34 = .ok (.iload_n 1, 1) := by decide +kernel
theorem dX1_reachesBar_35 : decode cX1_reachesBar 35 = .ok (.ior, 1) := by decide +kernel
theorem dX1_reachesBar_36 : decode cX1_reachesBar 36 = .ok (.aload_n 2, 1) := by decide +kernel
theorem dX1_reachesBar_37 : decode cX1_reachesBar 37 = .ok (.getfield 44, 3) := by decide +kernel
theorem dX1_reachesBar_40 : decode cX1_reachesBar 40 = .ok (.aload_n 0, 1) := by decide +kernel
theorem dX1_reachesBar_41 : decode cX1_reachesBar 41 = .ok (.getfield 26, 3) := by decide +kernel
theorem dX1_reachesBar_44 : decode cX1_reachesBar 44 = .ok (.iaload, 1) := by decide +kernel
theorem dX1_reachesBar_45 : decode cX1_reachesBar 45 = .ok (.invokevirtual 88, 3) := by decide +kernel
theorem dX1_reachesBar_48 : decode cX1_reachesBar 48 = .ok (.aload_n 0, 1) := by decide +kernel
theorem dX1_reachesBar_49 : decode cX1_reachesBar 49 = .ok (.getfield 18, 3) := by decide +kernel
theorem dX1_reachesBar_52 : decode cX1_reachesBar 52 = .ok (.getfield 29, 3) := by decide +kernel
theorem dX1_reachesBar_55 : decode cX1_reachesBar 55 = .ok (.getfield 92, 3) := by decide +kernel
theorem dX1_reachesBar_58 : decode cX1_reachesBar 58 = .ok (.if_icmp .lt 7, 3) := by decide +kernel
theorem dX1_reachesBar_61 : decode cX1_reachesBar 61 = .ok (.iconst 1, 1) := by decide +kernel
theorem dX1_reachesBar_62 : decode cX1_reachesBar 62 = .ok (.goto 4, 3) := by decide +kernel
theorem dX1_reachesBar_65 : decode cX1_reachesBar 65 = .ok (.iconst 0, 1) := by decide +kernel
theorem dX1_reachesBar_66 : decode cX1_reachesBar 66 = .ok (.ireturn, 1) := by decide +kernel
set_option maxRecDepth 100000 in
set_option maxHeartbeats 4000000 in
theorem v_X1_reachesBar {l : Launch} {p : Program} {e : Env} {s : State} {mt : MethodId} {args : Array Value} {below : List Frame} {meth : Method} {c : Code} {A : Nat → Prop} {ad0 : Nat → Nat} {G : Gt} {N : Nat} (C : Cx G p s mt args meth c RX1 cX1_reachesBar 3 (some .boolean) "reachesBar" A) (hN : 109 ≤ N) (x1 : Int32) (m : Mem) : V G SX oI l p e s mt args below meth c 3 4 A ad0 N N RX N RX 0 [(0, .ref 96), (1, .int x1)] [] m (X1_reachesBar  x1 m) := by
  rw [X1_reachesBar]
  refine V.aload_n (pc := 0) C dX1_reachesBar_0 0 rfl ?_
  refine V.iload_n (pc := 1) C dX1_reachesBar_1 1 rfl ?_
  refine V.puti (pc := 2) C fp_RX1_85 sX96 (kX96 hN) rfl dX1_reachesBar_2 ?_
  refine V.ltm (fun m_1 => ?_)
  refine V.aload_n (pc := 5) C dX1_reachesBar_5 0 rfl ?_
  refine V.getr (pc := 6) C fl_RX1_18 sX96 (kX96 hN) rfl rX96_0 dX1_reachesBar_6 ?_
  refine V.getr (pc := 9) C fl_RX1_40 sX25 (kX25 hN) rfl rX25_2 dX1_reachesBar_9 ?_
  refine V.astore_n (pc := 12) C dX1_reachesBar_12 (L2 := [(2, .ref 26), (0, .ref 96), (1, .int x1)]) (by decide) rfl ?_
  refine V.aload_n (pc := 13) C dX1_reachesBar_13 1 rfl ?_
  refine V.getr (pc := 14) C fl_RX1_18 sX96 (kX96 hN) rfl rX96_0 dX1_reachesBar_14 ?_
  refine V.aload_n (pc := 17) C dX1_reachesBar_17 1 rfl ?_
  refine V.geti (pc := 18) C fl_RX1_22 sX96 (kX96 hN) rfl dX1_reachesBar_18 ?_
  refine V.aload_n (pc := 21) C dX1_reachesBar_21 1 rfl ?_
  refine V.geti (pc := 22) C fl_RX1_26 sX96 (kX96 hN) rfl dX1_reachesBar_22 ?_
  refine V.aload_n (pc := 25) C dX1_reachesBar_25 0 rfl ?_
  refine V.getr (pc := 26) C fl_RX1_44 sX26 (kX26 hN) rfl rX26_3 dX1_reachesBar_26 ?_
  refine V.aload_n (pc := 29) C dX1_reachesBar_29 1 rfl ?_
  refine V.geti (pc := 30) C fl_RX1_22 sX96 (kX96 hN) rfl dX1_reachesBar_30 ?_
  refine V.iald (pc := 33) C sX29 (kX29 hN) dX1_reachesBar_33 (fun _ => ?_)
  refine V.iload_n (pc := 34) C dX1_reachesBar_34 2 rfl ?_
  refine V.ior (pc := 35) C dX1_reachesBar_35 ?_
  refine V.aload_n (pc := 36) C dX1_reachesBar_36 0 rfl ?_
  refine V.getr (pc := 37) C fl_RX1_44 sX26 (kX26 hN) rfl rX26_3 dX1_reachesBar_37 ?_
  refine V.aload_n (pc := 40) C dX1_reachesBar_40 1 rfl ?_
  refine V.geti (pc := 41) C fl_RX1_26 sX96 (kX96 hN) rfl dX1_reachesBar_41 ?_
  refine V.iald (pc := 44) C sX29 (kX29 hN) dX1_reachesBar_44 (fun _ => ?_)
  refine V.callV (pc := 45) (st := []) C (c_X10_goodnessWith l hN 25 (iX25 hN) (gi m_1 96 1) (gi m_1 96 2) ((gi m_1 29 (ix (gi m_1 96 1))) ||| x1) (gi m_1 29 (ix (gi m_1 96 2))) m_1) obI ck_X10_goodnessWith ml_RX1_88 rfl rfl sX25 (kX25 hN) rfl rfl (Nat.le_of_ble_eq_true rfl) ⟨by decide, by decide⟩ dX1_reachesBar_45 (fun r_2 m_3 _ => ?_)
  refine V.aload_n (pc := 48) C dX1_reachesBar_48 1 rfl ?_
  refine V.getr (pc := 49) C fl_RX1_18 sX96 (kX96 hN) rfl rX96_0 dX1_reachesBar_49 ?_
  refine V.getr (pc := 52) C fl_RX1_29 sX25 (kX25 hN) rfl rX25_0 dX1_reachesBar_52 ?_
  refine V.geti (pc := 55) C fl_RX1_92 sX2 (kX2 hN) rfl dX1_reachesBar_55 ?_
  refine V.icmp_lt (pc := 58) C dX1_reachesBar_58 65 (by decide) (fun _ => ?_) (fun _ => ?_)
  · refine V.iconst (pc := 65) C dX1_reachesBar_65 (v := 0) (by decide) ?_
    exact V.zret rfl C dX1_reachesBar_66
  · refine V.iconst (pc := 61) C dX1_reachesBar_61 (v := 1) (by decide) ?_
    refine V.goto (pc := 62) C dX1_reachesBar_62 66 (by decide) ?_
    exact V.zret rfl C dX1_reachesBar_66
theorem c_X1_reachesBar (l : Launch) {N : Nat} (hN : 109 ≤ N) (x1 : Int32) (m : Mem) : Ct l yX1_reachesBar cX1_reachesBar 3 (some .boolean) 4 SX oI N N RX RX [.ref 96, .int x1] m (X1_reachesBar  x1 m) :=
  Ct.of (own := RX1) (nm := "reachesBar") (by decide) rfl rfl (Nat.le_of_ble_eq_true rfl) (fun _ _ _ _ _ _ _ _ _ _ _ C => v_X1_reachesBar C hN x1 m)
theorem dX1_seek_0 : decode cX1_seek 0 = .ok (.iload 4, 2) := by decide +kernel
theorem dX1_seek_2 : decode cX1_seek 2 = .ok (.iload_n 3, 1) := by decide +kernel
theorem dX1_seek_3 : decode cX1_seek 3 = .ok (.iconst (-1), 1) := by decide +kernel
theorem dX1_seek_4 : decode cX1_seek 4 = .ok (.ixor, 1) := by decide +kernel
theorem dX1_seek_5 : decode cX1_seek 5 = .ok (.iand, 1) := by decide +kernel
theorem dX1_seek_6 : decode cX1_seek 6 = .ok (.invokestatic 59, 3) := by decide +kernel
theorem dX1_seek_9 : decode cX1_seek 9 = .ok (.istore 5, 2) := by decide +kernel
theorem dX1_seek_11 : decode cX1_seek 11 = .ok (.iload_n 2, 1) := by decide +kernel
theorem dX1_seek_12 : decode cX1_seek 12 = .ok (.ifCond .ne 22, 3) := by decide +kernel
theorem dX1_seek_15 : decode cX1_seek 15 = .ok (.iload 5, 2) := by decide +kernel
theorem dX1_seek_17 : decode cX1_seek 17 = .ok (.ifCond .ne 15, 3) := by decide +kernel
theorem dX1_seek_20 : decode cX1_seek 20 = .ok (.aload_n 0, 1) := by decide +kernel
theorem dX1_seek_21 : decode cX1_seek 21 = .ok (.iload_n 3, 1) := by decide +kernel
theorem dX1_seek_22 : decode cX1_seek 22 = .ok (.invokevirtual 81, 3) := by decide +kernel
theorem dX1_seek_25 : decode cX1_seek 25 = .ok (.ifCond .eq 7, 3) := by decide +kernel
theorem dX1_seek_28 : decode cX1_seek 28 = .ok (.iconst 1, 1) := by decide +kernel
theorem dX1_seek_29 : decode cX1_seek 29 = .ok (.goto 4, 3) := by decide +kernel
theorem dX1_seek_32 : decode cX1_seek 32 = .ok (.iconst 0, 1) := by decide +kernel
theorem dX1_seek_33 : decode cX1_seek 33 = .ok (.ireturn, 1) := by decide +kernel
theorem dX1_seek_34 : decode cX1_seek 34 = .ok (.iload_n 1, 1) := by decide +kernel
theorem dX1_seek_35 : decode cX1_seek 35 = .ok (.ifCond .lt 26, 3) := by decide +kernel
theorem dX1_seek_38 : decode cX1_seek 38 = .ok (.iload 5, 2) := by decide +kernel
theorem dX1_seek_40 : decode cX1_seek 40 = .ok (.iload_n 2, 1) := by decide +kernel
theorem dX1_seek_41 : decode cX1_seek 41 = .ok (.if_icmp .gt 20, 3) := by decide +kernel
theorem dX1_seek_44 : decode cX1_seek 44 = .ok (.aload_n 0, 1) := by decide +kernel
theorem dX1_seek_45 : decode cX1_seek 45 = .ok (.getfield 49, 3) := by decide +kernel
theorem dX1_seek_48 : decode cX1_seek 48 = .ok (.iconst 2, 1) := by decide +kernel
theorem dX1_seek_49 : decode cX1_seek 49 = .ok (.iload_n 1, 1) := by decide +kernel
theorem dX1_seek_50 : decode cX1_seek 50 = .ok (.ishl, 1) := by decide +kernel
theorem dX1_seek_51 : decode cX1_seek 51 = .ok (.iconst 1, 1) := by decide +kernel
theorem dX1_seek_52 : decode cX1_seek 52 = .ok (.isub, 1) := by decide +kernel
theorem dX1_seek_53 : decode cX1_seek 53 = .ok (.iand, 1) := by decide +kernel
theorem dX1_seek_54 : decode cX1_seek 54 = .ok (.invokestatic 59, 3) := by decide +kernel
theorem dX1_seek_57 : decode cX1_seek 57 = .ok (.iload_n 2, 1) := by decide +kernel
theorem dX1_seek_58 : decode cX1_seek 58 = .ok (.if_icmp .ge 5, 3) := by decide +kernel
theorem dX1_seek_61 : decode cX1_seek 61 = .ok (.iconst 0, 1) := by decide +kernel
theorem dX1_seek_62 : decode cX1_seek 62 = .ok (.ireturn, 1) := by decide +kernel
theorem dX1_seek_63 : decode cX1_seek 63 = .ok (.iconst 1, 1) := by decide +kernel
theorem dX1_seek_64 : decode cX1_seek 64 = .ok (.iload_n 1, 1) := by decide +kernel
theorem dX1_seek_65 : decode cX1_seek 65 = .ok (.ishl, 1) := by decide +kernel
theorem dX1_seek_66 : decode cX1_seek 66 = .ok (.istore 6, 2) := by decide +kernel
theorem dX1_seek_68 : decode cX1_seek 68 = .ok (.iload 4, 2) := by decide +kernel
theorem dX1_seek_70 : decode cX1_seek 70 = .ok (.iload 6, 2) := by decide +kernel
theorem dX1_seek_72 : decode cX1_seek 72 = .ok (.iand, 1) := by decide +kernel
theorem dX1_seek_73 : decode cX1_seek 73 = .ok (.ifCond .ne 19, 3) := by decide +kernel
theorem dX1_seek_76 : decode cX1_seek 76 = .ok (.aload_n 0, 1) := by decide +kernel
theorem dX1_seek_77 : decode cX1_seek 77 = .ok (.iload_n 1, 1) := by decide +kernel
theorem dX1_seek_78 : decode cX1_seek 78 = .ok (.iconst 1, 1) := by decide +kernel
theorem dX1_seek_79 : decode cX1_seek 79 = .ok (.isub, 1) := by decide +kernel
theorem dX1_seek_80 : decode cX1_seek 80 = .ok (.iload_n 2, 1) := by decide +kernel
theorem dX1_seek_81 : decode cX1_seek 81 = .ok (.iload_n 3, 1) := by decide +kernel
theorem dX1_seek_82 : decode cX1_seek 82 = .ok (.iload 4, 2) := by decide +kernel
theorem dX1_seek_84 : decode cX1_seek 84 = .ok (.invokevirtual 64, 3) := by decide +kernel
theorem dX1_seek_87 : decode cX1_seek 87 = .ok (.ifCond .eq 5, 3) := by decide +kernel
theorem dX1_seek_90 : decode cX1_seek 90 = .ok (.iconst 1, 1) := by decide +kernel
theorem dX1_seek_91 : decode cX1_seek 91 = .ok (.ireturn, 1) := by decide +kernel
theorem dX1_seek_92 : decode cX1_seek 92 = .ok (.aload_n 0, 1) := by decide +kernel
theorem dX1_seek_93 : decode cX1_seek 93 = .ok (.getfield 49, 3) := by decide +kernel
theorem dX1_seek_96 : decode cX1_seek 96 = .ok (.iload 6, 2) := by decide +kernel
theorem dX1_seek_98 : decode cX1_seek 98 = .ok (.iand, 1) := by decide +kernel
theorem dX1_seek_99 : decode cX1_seek 99 = .ok (.ifCond .eq 33, 3) := by decide +kernel
theorem dX1_seek_102 : decode cX1_seek 102 = .ok (.aload_n 0, 1) := by decide +kernel
theorem dX1_seek_103 : decode cX1_seek 103 = .ok (.iload_n 1, 1) := by decide +kernel
theorem dX1_seek_104 : decode cX1_seek 104 = .ok (.iconst 1, 1) := by decide +kernel
theorem dX1_seek_105 : decode cX1_seek 105 = .ok (.isub, 1) := by decide +kernel
theorem dX1_seek_106 : decode cX1_seek 106 = .ok (.iload_n 2, 1) := by decide +kernel
theorem dX1_seek_107 : decode cX1_seek 107 = .ok (.iconst 1, 1) := by decide +kernel
theorem dX1_seek_108 : decode cX1_seek 108 = .ok (.isub, 1) := by decide +kernel
theorem dX1_seek_109 : decode cX1_seek 109 = .ok (.iload_n 3, 1) := by decide +kernel
theorem dX1_seek_110 : decode cX1_seek 110 = .ok (.iload 6, 2) := by decide +kernel
theorem dX1_seek_112 : decode cX1_seek 112 = .ok (.ior, 1) := by decide +kernel
theorem dX1_seek_113 : decode cX1_seek 113 = .ok (.iload 4, 2) := by decide +kernel
theorem dX1_seek_115 : decode cX1_seek 115 = .ok (.aload_n 0, 1) := by decide +kernel
theorem dX1_seek_116 : decode cX1_seek 116 = .ok (.getfield 15, 3) := by decide +kernel
theorem dX1_seek_119 : decode cX1_seek 119 = .ok (.iload_n 1, 1) := by decide +kernel
theorem dX1_seek_120 : decode cX1_seek 120 = .ok (.iaload, 1) := by decide +kernel
theorem dX1_seek_121 : decode cX1_seek 121 = .ok (.ior, 1) := by decide +kernel
theorem dX1_seek_122 : decode cX1_seek 122 = .ok (.invokevirtual 64, 3) := by decide +kernel
theorem dX1_seek_125 : decode cX1_seek 125 = .ok (.ifCond .eq 7, 3) := by decide +kernel
theorem dX1_seek_128 : decode cX1_seek 128 = .ok (.iconst 1, 1) := by decide +kernel
theorem dX1_seek_129 : decode cX1_seek 129 = .ok (.goto 4, 3) := by decide +kernel
theorem dX1_seek_132 : decode cX1_seek 132 = .ok (.iconst 0, 1) := by decide +kernel
theorem dX1_seek_133 : decode cX1_seek 133 = .ok (.ireturn, 1) := by decide +kernel
set_option maxRecDepth 100000 in
set_option maxHeartbeats 4000000 in
theorem v_X1_seek_b92 {l : Launch} {p : Program} {e : Env} {s : State} {mt : MethodId} {args : Array Value} {below : List Frame} {meth : Method} {c : Code} {A : Nat → Prop} {ad0 : Nat → Nat} {G : Gt} {N : Nat} {fr fr1 : Nat} (hfr : fr1 + 1 ≤ fr ∧ 5 ≤ fr) (C : Cx G p s mt args meth c RX1 cX1_seek 7 (some .boolean) "seek" A) (hN : 109 ≤ N) (f_X1_seek : Int32 → Int32 → Int32 → Int32 → Mem → Option (Int32 × Mem)) (h_X1_seek : ∀ (x1 : Int32) (x2 : Int32) (x3 : Int32) (x4 : Int32) (m : Mem), Ct l yX1_seek cX1_seek 7 (some .boolean) fr1 SX oI N N RX RX [.ref 96, .int x1, .int x2, .int x3, .int x4] m (f_X1_seek x1 x2 x3 x4 m)) (y1 : Int32) (y2 : Int32) (y3 : Int32) (y4 : Int32) (y6 : Int32) (m : Mem) : V G SX oI l p e s mt args below meth c 7 fr A ad0 N N RX N RX 92 [(0, .ref 96), (1, .int y1), (2, .int y2), (3, .int y3), (4, .int y4), (6, .int y6)] [] m (X1_seek_b92 f_X1_seek y1 y2 y3 y4 y6 m) := by
  rw [X1_seek_b92]
  refine V.aload_n (pc := 92) C dX1_seek_92 0 rfl ?_
  refine V.geti (pc := 93) C fl_RX1_49 sX96 (kX96 hN) rfl dX1_seek_93 ?_
  refine V.iload (pc := 96) C dX1_seek_96 5 rfl ?_
  refine V.iand (pc := 98) C dX1_seek_98 ?_
  refine V.if_eq (pc := 99) C dX1_seek_99 132 (by decide) (fun _ => ?_) (fun _ => ?_)
  · refine V.iconst (pc := 132) C dX1_seek_132 (v := 0) (by decide) ?_
    exact V.zret rfl C dX1_seek_133
  · refine V.aload_n (pc := 102) C dX1_seek_102 0 rfl ?_
    refine V.iload_n (pc := 103) C dX1_seek_103 1 rfl ?_
    refine V.iconst (pc := 104) C dX1_seek_104 (v := 1) (by decide) ?_
    refine V.isub (pc := 105) C dX1_seek_105 ?_
    refine V.iload_n (pc := 106) C dX1_seek_106 2 rfl ?_
    refine V.iconst (pc := 107) C dX1_seek_107 (v := 1) (by decide) ?_
    refine V.isub (pc := 108) C dX1_seek_108 ?_
    refine V.iload_n (pc := 109) C dX1_seek_109 3 rfl ?_
    refine V.iload (pc := 110) C dX1_seek_110 5 rfl ?_
    refine V.ior (pc := 112) C dX1_seek_112 ?_
    refine V.iload (pc := 113) C dX1_seek_113 4 rfl ?_
    refine V.aload_n (pc := 115) C dX1_seek_115 0 rfl ?_
    refine V.getr (pc := 116) C fl_RX1_15 sX96 (kX96 hN) rfl rX96_5 dX1_seek_116 ?_
    refine V.iload_n (pc := 119) C dX1_seek_119 1 rfl ?_
    refine V.iald (pc := 120) C sX98 (kX98 hN) dX1_seek_120 (fun _ => ?_)
    refine V.ior (pc := 121) C dX1_seek_121 ?_
    refine V.callV (pc := 122) (st := []) C (h_X1_seek (y1 - 1) (y2 - 1) (y3 ||| y6) (y4 ||| (gi m 98 (ix y1))) m) obI ck_X1_seek ml_RX1_64 rfl rfl sX96 (kX96 hN) rfl rfl (Nat.le_of_ble_eq_true rfl) ⟨by omega, by decide⟩ dX1_seek_122 (fun r_6 m_7 _ => ?_)
    refine V.if_eq (pc := 125) C dX1_seek_125 132 (by decide) (fun _ => ?_) (fun _ => ?_)
    · refine V.iconst (pc := 132) C dX1_seek_132 (v := 0) (by decide) ?_
      exact V.zret rfl C dX1_seek_133
    · refine V.iconst (pc := 128) C dX1_seek_128 (v := 1) (by decide) ?_
      refine V.goto (pc := 129) C dX1_seek_129 133 (by decide) ?_
      exact V.zret rfl C dX1_seek_133
set_option maxRecDepth 100000 in
set_option maxHeartbeats 4000000 in
theorem v_X1_seek {l : Launch} {p : Program} {e : Env} {s : State} {mt : MethodId} {args : Array Value} {below : List Frame} {meth : Method} {c : Code} {A : Nat → Prop} {ad0 : Nat → Nat} {G : Gt} {N : Nat} {fr fr1 : Nat} (hfr : fr1 + 1 ≤ fr ∧ 5 ≤ fr) (C : Cx G p s mt args meth c RX1 cX1_seek 7 (some .boolean) "seek" A) (hN : 109 ≤ N) (f_X1_seek : Int32 → Int32 → Int32 → Int32 → Mem → Option (Int32 × Mem)) (h_X1_seek : ∀ (x1 : Int32) (x2 : Int32) (x3 : Int32) (x4 : Int32) (m : Mem), Ct l yX1_seek cX1_seek 7 (some .boolean) fr1 SX oI N N RX RX [.ref 96, .int x1, .int x2, .int x3, .int x4] m (f_X1_seek x1 x2 x3 x4 m)) (x1 : Int32) (x2 : Int32) (x3 : Int32) (x4 : Int32) (m : Mem) : V G SX oI l p e s mt args below meth c 7 fr A ad0 N N RX N RX 0 [(0, .ref 96), (1, .int x1), (2, .int x2), (3, .int x3), (4, .int x4)] [] m (X1_seek f_X1_seek x1 x2 x3 x4 m) := by
  rw [X1_seek]
  refine V.iload (pc := 0) C dX1_seek_0 4 rfl ?_
  refine V.iload_n (pc := 2) C dX1_seek_2 3 rfl ?_
  refine V.iconst (pc := 3) C dX1_seek_3 (v := (-1)) (by decide) ?_
  refine V.ixor (pc := 4) C dX1_seek_4 ?_
  refine V.iand (pc := 5) C dX1_seek_5 ?_
  refine V.callS (pc := 6) (st := []) C (c_J6_bitCount_0f7a4 l (x4 &&& (x3 ^^^ (-1))) m) obI ck_J6_bitCount_0f7a4 ml_RX1_59 rfl rfl (Nat.le_of_ble_eq_true rfl) ⟨by omega, by decide⟩ dX1_seek_6 (fun r_1 m_2 _ => ?_)
  refine V.istore (pc := 9) C dX1_seek_9 (L2 := [(5, .int r_1), (0, .ref 96), (1, .int x1), (2, .int x2), (3, .int x3), (4, .int x4)]) (by decide) rfl ?_
  refine V.iload_n (pc := 11) C dX1_seek_11 3 rfl ?_
  refine V.if_ne (pc := 12) C dX1_seek_12 34 (by decide) (fun _ => ?_) (fun _ => ?_)
  · refine V.iload_n (pc := 34) C dX1_seek_34 2 rfl ?_
    refine V.if_lt (pc := 35) C dX1_seek_35 61 (by decide) (fun _ => ?_) (fun _ => ?_)
    · refine V.iconst (pc := 61) C dX1_seek_61 (v := 0) (by decide) ?_
      exact V.zret rfl C dX1_seek_62
    · refine V.iload (pc := 38) C dX1_seek_38 0 rfl ?_
      refine V.iload_n (pc := 40) C dX1_seek_40 3 rfl ?_
      refine V.icmp_gt (pc := 41) C dX1_seek_41 61 (by decide) (fun _ => ?_) (fun _ => ?_)
      · refine V.iconst (pc := 61) C dX1_seek_61 (v := 0) (by decide) ?_
        exact V.zret rfl C dX1_seek_62
      · refine V.aload_n (pc := 44) C dX1_seek_44 1 rfl ?_
        refine V.geti (pc := 45) C fl_RX1_49 sX96 (kX96 hN) rfl dX1_seek_45 ?_
        refine V.iconst (pc := 48) C dX1_seek_48 (v := 2) (by decide) ?_
        refine V.iload_n (pc := 49) C dX1_seek_49 2 rfl ?_
        refine V.ishl (pc := 50) C dX1_seek_50 ?_
        refine V.iconst (pc := 51) C dX1_seek_51 (v := 1) (by decide) ?_
        refine V.isub (pc := 52) C dX1_seek_52 ?_
        refine V.iand (pc := 53) C dX1_seek_53 ?_
        refine V.callS (pc := 54) (st := []) C (c_J6_bitCount_0f7a4 l ((gi m_2 96 3) &&& (((2 : Int32) <<< (x1 &&& 31)) - 1)) m_2) obI ck_J6_bitCount_0f7a4 ml_RX1_59 rfl rfl (Nat.le_of_ble_eq_true rfl) ⟨by omega, by decide⟩ dX1_seek_54 (fun r_3 m_4 _ => ?_)
        refine V.iload_n (pc := 57) C dX1_seek_57 3 rfl ?_
        refine V.icmp_ge (pc := 58) C dX1_seek_58 63 (by decide) (fun _ => ?_) (fun _ => ?_)
        · refine V.iconst (pc := 63) C dX1_seek_63 (v := 1) (by decide) ?_
          refine V.iload_n (pc := 64) C dX1_seek_64 2 rfl ?_
          refine V.ishl (pc := 65) C dX1_seek_65 ?_
          refine V.lti (fun x_5 _ => ?_)
          refine V.istore (pc := 66) C dX1_seek_66 (L2 := [(6, .int x_5), (5, .int r_1), (0, .ref 96), (1, .int x1), (2, .int x2), (3, .int x3), (4, .int x4)]) (by decide) rfl ?_
          refine V.iload (pc := 68) C dX1_seek_68 6 rfl ?_
          refine V.iload (pc := 70) C dX1_seek_70 0 rfl ?_
          refine V.iand (pc := 72) C dX1_seek_72 ?_
          refine V.if_ne (pc := 73) C dX1_seek_73 92 (by decide) (fun _ => ?_) (fun _ => ?_)
          · refine V.wk [2, 3, 4, 5, 6, 0] rfl ?_
            exact v_X1_seek_b92 hfr C hN f_X1_seek h_X1_seek x1 x2 x3 x4 x_5 m_4
          · refine V.aload_n (pc := 76) C dX1_seek_76 2 rfl ?_
            refine V.iload_n (pc := 77) C dX1_seek_77 3 rfl ?_
            refine V.iconst (pc := 78) C dX1_seek_78 (v := 1) (by decide) ?_
            refine V.isub (pc := 79) C dX1_seek_79 ?_
            refine V.iload_n (pc := 80) C dX1_seek_80 4 rfl ?_
            refine V.iload_n (pc := 81) C dX1_seek_81 5 rfl ?_
            refine V.iload (pc := 82) C dX1_seek_82 6 rfl ?_
            refine V.callV (pc := 84) (st := []) C (h_X1_seek (x1 - 1) x2 x3 x4 m_4) obI ck_X1_seek ml_RX1_64 rfl rfl sX96 (kX96 hN) rfl rfl (Nat.le_of_ble_eq_true rfl) ⟨by omega, by decide⟩ dX1_seek_84 (fun r_8 m_9 _ => ?_)
            refine V.if_eq (pc := 87) C dX1_seek_87 92 (by decide) (fun _ => ?_) (fun _ => ?_)
            · refine V.wk [2, 3, 4, 5, 6, 0] rfl ?_
              exact v_X1_seek_b92 hfr C hN f_X1_seek h_X1_seek x1 x2 x3 x4 x_5 m_9
            · refine V.iconst (pc := 90) C dX1_seek_90 (v := 1) (by decide) ?_
              exact V.zret rfl C dX1_seek_91
        · refine V.iconst (pc := 61) C dX1_seek_61 (v := 0) (by decide) ?_
          exact V.zret rfl C dX1_seek_62
  · refine V.iload (pc := 15) C dX1_seek_15 0 rfl ?_
    refine V.if_ne (pc := 17) C dX1_seek_17 32 (by decide) (fun _ => ?_) (fun _ => ?_)
    · refine V.iconst (pc := 32) C dX1_seek_32 (v := 0) (by decide) ?_
      exact V.zret rfl C dX1_seek_33
    · refine V.aload_n (pc := 20) C dX1_seek_20 1 rfl ?_
      refine V.iload_n (pc := 21) C dX1_seek_21 4 rfl ?_
      refine V.callV (pc := 22) (st := []) C (c_X1_reachesBar l hN x3 m_2) obI ck_X1_reachesBar ml_RX1_81 rfl rfl sX96 (kX96 hN) rfl rfl (Nat.le_of_ble_eq_true rfl) ⟨by omega, by decide⟩ dX1_seek_22 (fun r_10 m_11 _ => ?_)
      refine V.if_eq (pc := 25) C dX1_seek_25 32 (by decide) (fun _ => ?_) (fun _ => ?_)
      · refine V.iconst (pc := 32) C dX1_seek_32 (v := 0) (by decide) ?_
        exact V.zret rfl C dX1_seek_33
      · refine V.iconst (pc := 28) C dX1_seek_28 (v := 1) (by decide) ?_
        refine V.goto (pc := 29) C dX1_seek_29 33 (by decide) ?_
        exact V.zret rfl C dX1_seek_33
theorem c_X1_seek (l : Launch) {N : Nat} {fr fr1 : Nat} (hfr : fr1 + 1 ≤ fr ∧ 5 ≤ fr) (hN : 109 ≤ N) (f_X1_seek : Int32 → Int32 → Int32 → Int32 → Mem → Option (Int32 × Mem)) (h_X1_seek : ∀ (x1 : Int32) (x2 : Int32) (x3 : Int32) (x4 : Int32) (m : Mem), Ct l yX1_seek cX1_seek 7 (some .boolean) fr1 SX oI N N RX RX [.ref 96, .int x1, .int x2, .int x3, .int x4] m (f_X1_seek x1 x2 x3 x4 m)) (x1 : Int32) (x2 : Int32) (x3 : Int32) (x4 : Int32) (m : Mem) : Ct l yX1_seek cX1_seek 7 (some .boolean) fr SX oI N N RX RX [.ref 96, .int x1, .int x2, .int x3, .int x4] m (X1_seek f_X1_seek x1 x2 x3 x4 m) :=
  Ct.of (own := RX1) (nm := "seek") (by decide) rfl rfl (Nat.le_of_ble_eq_true rfl) (fun _ _ _ _ _ _ _ _ _ _ _ C => v_X1_seek hfr C hN f_X1_seek h_X1_seek x1 x2 x3 x4 m)
theorem cg_X1_seek (l : Launch) {N : Nat} (hN : 109 ≤ N) : ∀ d : Nat, (∀ (x1 : Int32) (x2 : Int32) (x3 : Int32) (x4 : Int32) (m : Mem), Ct l yX1_seek cX1_seek 7 (some .boolean) (d + 5) SX oI N N RX RX [.ref 96, .int x1, .int x2, .int x3, .int x4] m (g_X1_seek d x1 x2 x3 x4 m))
  | 0 => fun _ _ _ _ _ => ct_none
  | d + 1 => by
    have ih := cg_X1_seek l hN d
    exact fun x1 x2 x3 x4 m => c_X1_seek l (fr := d + 1 + 5) (fr1 := d + 5) ⟨by omega, by omega⟩ hN _ (ih) x1 x2 x3 x4 m
theorem c_X1_seek_top (l : Launch) {N : Nat} (hN : 109 ≤ N) (x1 : Int32) (x2 : Int32) (x3 : Int32) (x4 : Int32) (m : Mem) : Ct l yX1_seek cX1_seek 7 (some .boolean) 69 SX oI N N RX RX [.ref 96, .int x1, .int x2, .int x3, .int x4] m (X1_seek_top x1 x2 x3 x4 m) := (cg_X1_seek l hN 64) x1 x2 x3 x4 m
theorem dX1_fewest_0 : decode cX1_fewest 0 = .ok (.aload_n 0, 1) := by decide +kernel
theorem dX1_fewest_1 : decode cX1_fewest 1 = .ok (.iload_n 1, 1) := by decide +kernel
theorem dX1_fewest_2 : decode cX1_fewest 2 = .ok (.putfield 22, 3) := by decide +kernel
theorem dX1_fewest_5 : decode cX1_fewest 5 = .ok (.aload_n 0, 1) := by decide +kernel
theorem dX1_fewest_6 : decode cX1_fewest 6 = .ok (.iload_n 2, 1) := by decide +kernel
theorem dX1_fewest_7 : decode cX1_fewest 7 = .ok (.putfield 26, 3) := by decide +kernel
theorem dX1_fewest_10 : decode cX1_fewest 10 = .ok (.aload_n 0, 1) := by decide +kernel
theorem dX1_fewest_11 : decode cX1_fewest 11 = .ok (.iconst 1, 1) := by decide +kernel
theorem dX1_fewest_12 : decode cX1_fewest 12 = .ok (.aload_n 0, 1) := by decide +kernel
theorem dX1_fewest_13 : decode cX1_fewest 13 = .ok (.getfield 18, 3) := by decide +kernel
theorem dX1_fewest_16 : decode cX1_fewest 16 = .ok (.getfield 29, 3) := by decide +kernel
theorem dX1_fewest_19 : decode cX1_fewest 19 = .ok (.getfield 35, 3) := by decide +kernel
theorem dX1_fewest_22 : decode cX1_fewest 22 = .ok (.ishl, 1) := by decide +kernel
theorem dX1_fewest_23 : decode cX1_fewest 23 = .ok (.iconst 1, 1) := by decide +kernel
theorem dX1_fewest_24 : decode cX1_fewest 24 = .ok (.isub, 1) := by decide +kernel
theorem dX1_fewest_25 : decode cX1_fewest 25 = .ok (.aload_n 0, 1) := by decide +kernel
theorem dX1_fewest_26 : decode cX1_fewest 26 = .ok (.getfield 18, 3) := by decide +kernel
theorem dX1_fewest_29 : decode cX1_fewest 29 = .ok (.getfield 40, 3) := by decide +kernel
theorem dX1_fewest_32 : decode cX1_fewest 32 = .ok (.getfield 44, 3) := by decide +kernel
theorem dX1_fewest_35 : decode cX1_fewest 35 = .ok (.aload_n 0, 1) := by decide +kernel
theorem dX1_fewest_36 : decode cX1_fewest 36 = .ok (.getfield 22, 3) := by decide +kernel
theorem dX1_fewest_39 : decode cX1_fewest 39 = .ok (.iaload, 1) := by decide +kernel
theorem dX1_fewest_40 : decode cX1_fewest 40 = .ok (.iconst (-1), 1) := by decide +kernel
theorem dX1_fewest_41 : decode cX1_fewest 41 = .ok (.ixor, 1) := by decide +kernel
theorem dX1_fewest_42 : decode cX1_fewest 42 = .ok (.iand, 1) := by decide +kernel
theorem dX1_fewest_43 : decode cX1_fewest 43 = .ok (.putfield 49, 3) := by decide +kernel
theorem dX1_fewest_46 : decode cX1_fewest 46 = .ok (.iconst 0, 1) := by decide +kernel
theorem dX1_fewest_47 : decode cX1_fewest 47 = .ok (.istore_n 3, 1) := by decide +kernel
theorem dX1_fewest_48 : decode cX1_fewest 48 = .ok (.iload_n 3, 1) := by decide +kernel
theorem dX1_fewest_49 : decode cX1_fewest 49 = .ok (.bipush 14, 2) := by decide +kernel
theorem dX1_fewest_51 : decode cX1_fewest 51 = .ok (.if_icmp .ge 31, 3) := by decide +kernel
theorem dX1_fewest_54 : decode cX1_fewest 54 = .ok (.aload_n 0, 1) := by decide +kernel
theorem dX1_fewest_55 : decode cX1_fewest 55 = .ok (.getfield 9, 3) := by decide +kernel
theorem dX1_fewest_58 : decode cX1_fewest 58 = .ok (.iload_n 3, 1) := by decide +kernel
theorem dX1_fewest_59 : decode cX1_fewest 59 = .ok (.aload_n 0, 1) := by decide +kernel
theorem dX1_fewest_60 : decode cX1_fewest 60 = .ok (.iload_n 3, 1) := by decide +kernel
theorem dX1_fewest_61 : decode cX1_fewest 61 = .ok (.invokevirtual 52, 3) := by decide +kernel
theorem dX1_fewest_64 : decode cX1_fewest 64 = .ok (.iastore, 1) := by decide +kernel
theorem dX1_fewest_65 : decode cX1_fewest 65 = .ok (.aload_n 0, 1) := by decide +kernel
theorem dX1_fewest_66 : decode cX1_fewest 66 = .ok (.getfield 15, 3) := by decide +kernel
theorem dX1_fewest_69 : decode cX1_fewest 69 = .ok (.iload_n 3, 1) := by decide +kernel
theorem dX1_fewest_70 : decode cX1_fewest 70 = .ok (.aload_n 0, 1) := by decide +kernel
theorem dX1_fewest_71 : decode cX1_fewest 71 = .ok (.iload_n 3, 1) := by decide +kernel
theorem dX1_fewest_72 : decode cX1_fewest 72 = .ok (.invokevirtual 56, 3) := by decide +kernel
theorem dX1_fewest_75 : decode cX1_fewest 75 = .ok (.iastore, 1) := by decide +kernel
theorem dX1_fewest_76 : decode cX1_fewest 76 = .ok (.iinc 3 1, 3) := by decide +kernel
theorem dX1_fewest_79 : decode cX1_fewest 79 = .ok (.goto (-31), 3) := by decide +kernel
theorem dX1_fewest_82 : decode cX1_fewest 82 = .ok (.aload_n 0, 1) := by decide +kernel
theorem dX1_fewest_83 : decode cX1_fewest 83 = .ok (.getfield 49, 3) := by decide +kernel
theorem dX1_fewest_86 : decode cX1_fewest 86 = .ok (.invokestatic 59, 3) := by decide +kernel
theorem dX1_fewest_89 : decode cX1_fewest 89 = .ok (.istore_n 3, 1) := by decide +kernel
theorem dX1_fewest_90 : decode cX1_fewest 90 = .ok (.iconst 0, 1) := by decide +kernel
theorem dX1_fewest_91 : decode cX1_fewest 91 = .ok (.istore 4, 2) := by decide +kernel
theorem dX1_fewest_93 : decode cX1_fewest 93 = .ok (.iload 4, 2) := by decide +kernel
theorem dX1_fewest_95 : decode cX1_fewest 95 = .ok (.iload_n 3, 1) := by decide +kernel
theorem dX1_fewest_96 : decode cX1_fewest 96 = .ok (.if_icmp .gt 25, 3) := by decide +kernel
theorem dX1_fewest_99 : decode cX1_fewest 99 = .ok (.aload_n 0, 1) := by decide +kernel
theorem dX1_fewest_100 : decode cX1_fewest 100 = .ok (.bipush 13, 2) := by decide +kernel
theorem dX1_fewest_102 : decode cX1_fewest 102 = .ok (.iload 4, 2) := by decide +kernel
theorem dX1_fewest_104 : decode cX1_fewest 104 = .ok (.iconst 0, 1) := by decide +kernel
theorem dX1_fewest_105 : decode cX1_fewest 105 = .ok (.iconst 0, 1) := by decide +kernel
theorem dX1_fewest_106 : decode cX1_fewest 106 = .ok (.invokevirtual 64, 3) := by decide +kernel
theorem dX1_fewest_109 : decode cX1_fewest 109 = .ok (.ifCond .eq 6, 3) := by decide +kernel
theorem dX1_fewest_112 : decode cX1_fewest 112 = .ok (.iload 4, 2) := by decide +kernel
theorem dX1_fewest_114 : decode cX1_fewest 114 = .ok (.ireturn, 1) := by decide +kernel
theorem dX1_fewest_115 : decode cX1_fewest 115 = .ok (.iinc 4 1, 3) := by decide +kernel
theorem dX1_fewest_118 : decode cX1_fewest 118 = .ok (.goto (-25), 3) := by decide +kernel
theorem dX1_fewest_121 : decode cX1_fewest 121 = .ok (.iconst (-1), 1) := by decide +kernel
theorem dX1_fewest_122 : decode cX1_fewest 122 = .ok (.ireturn, 1) := by decide +kernel
set_option maxRecDepth 100000 in
set_option maxHeartbeats 4000000 in
theorem v_X1_fewest_b93 {l : Launch} {p : Program} {e : Env} {s : State} {mt : MethodId} {args : Array Value} {below : List Frame} {meth : Method} {c : Code} {A : Nat → Prop} {ad0 : Nat → Nat} {G : Gt} {N : Nat} (C : Cx G p s mt args meth c RX1 cX1_fewest 5 (some .int) "fewest" A) (hN : 109 ≤ N) : ∀ (n : Nat) (y3 : Int32) (y4 : Int32) (m : Mem), V G SX oI l p e s mt args below meth c 5 70 A ad0 N N RX N RX 93 [(0, .ref 96), (3, .int y3), (4, .int y4)] [] m (X1_fewest_b93  n y3 y4 m) := by
  intro n
  induction n with
  | zero =>
    intro y3 y4 m
    rw [X1_fewest_b93]
    exact V.nil
  | succ n ih =>
    intro y3 y4 m
    rw [X1_fewest_b93]
    refine V.iload (pc := 93) C dX1_fewest_93 2 rfl ?_
    refine V.iload_n (pc := 95) C dX1_fewest_95 1 rfl ?_
    refine V.icmp_gt (pc := 96) C dX1_fewest_96 121 (by decide) (fun _ => ?_) (fun _ => ?_)
    · refine V.iconst (pc := 121) C dX1_fewest_121 (v := (-1)) (by decide) ?_
      exact V.iret C dX1_fewest_122
    · refine V.aload_n (pc := 99) C dX1_fewest_99 0 rfl ?_
      refine V.bipush (pc := 100) C dX1_fewest_100 (v := 13) (by decide) ?_
      refine V.iload (pc := 102) C dX1_fewest_102 2 rfl ?_
      refine V.iconst (pc := 104) C dX1_fewest_104 (v := 0) (by decide) ?_
      refine V.iconst (pc := 105) C dX1_fewest_105 (v := 0) (by decide) ?_
      refine V.callV (pc := 106) (st := []) C (c_X1_seek_top l hN 13 y4 0 0 m) obI ck_X1_seek ml_RX1_64 rfl rfl sX96 (kX96 hN) rfl rfl (Nat.le_of_ble_eq_true rfl) ⟨by decide, by decide⟩ dX1_fewest_106 (fun r_6 m_7 _ => ?_)
      refine V.if_eq (pc := 109) C dX1_fewest_109 115 (by decide) (fun _ => ?_) (fun _ => ?_)
      · refine V.iinc (pc := 115) C dX1_fewest_115 (v := 1) (L2 := [(4, .int (y4 + 1)), (0, .ref 96), (3, .int y3)]) 2 rfl (by decide) (by decide) rfl ?_
        refine V.goto (pc := 118) C dX1_fewest_118 93 (by decide) ?_
        refine V.wk [1, 2, 0] rfl ?_
        exact ih y3 (y4 + 1) m_7
      · refine V.iload (pc := 112) C dX1_fewest_112 2 rfl ?_
        exact V.iret C dX1_fewest_114
set_option maxRecDepth 100000 in
set_option maxHeartbeats 4000000 in
theorem v_X1_fewest_b48 {l : Launch} {p : Program} {e : Env} {s : State} {mt : MethodId} {args : Array Value} {below : List Frame} {meth : Method} {c : Code} {A : Nat → Prop} {ad0 : Nat → Nat} {G : Gt} {N : Nat} (C : Cx G p s mt args meth c RX1 cX1_fewest 5 (some .int) "fewest" A) (hN : 109 ≤ N) : ∀ (n : Nat) (y3 : Int32) (m : Mem), V G SX oI l p e s mt args below meth c 5 70 A ad0 N N RX N RX 48 [(0, .ref 96), (3, .int y3)] [] m (X1_fewest_b48  n y3 m) := by
  intro n
  induction n with
  | zero =>
    intro y3 m
    rw [X1_fewest_b48]
    exact V.nil
  | succ n ih =>
    intro y3 m
    rw [X1_fewest_b48]
    refine V.iload_n (pc := 48) C dX1_fewest_48 1 rfl ?_
    refine V.bipush (pc := 49) C dX1_fewest_49 (v := 14) (by decide) ?_
    refine V.icmp_ge (pc := 51) C dX1_fewest_51 82 (by decide) (fun _ => ?_) (fun _ => ?_)
    · refine V.aload_n (pc := 82) C dX1_fewest_82 0 rfl ?_
      refine V.geti (pc := 83) C fl_RX1_49 sX96 (kX96 hN) rfl dX1_fewest_83 ?_
      refine V.callS (pc := 86) (st := []) C (c_J6_bitCount_0f7a4 l (gi m 96 3) m) obI ck_J6_bitCount_0f7a4 ml_RX1_59 rfl rfl (Nat.le_of_ble_eq_true rfl) ⟨by decide, by decide⟩ dX1_fewest_86 (fun r_4 m_5 _ => ?_)
      refine V.istore_n (pc := 89) C dX1_fewest_89 (L2 := [(3, .int r_4), (0, .ref 96)]) (by decide) rfl ?_
      refine V.iconst (pc := 90) C dX1_fewest_90 (v := 0) (by decide) ?_
      refine V.istore (pc := 91) C dX1_fewest_91 (L2 := [(4, .int 0), (3, .int r_4), (0, .ref 96)]) (by decide) rfl ?_
      refine V.wk [2, 1, 0] rfl ?_
      exact v_X1_fewest_b93 C hN FU r_4 0 m_5
    · refine V.aload_n (pc := 54) C dX1_fewest_54 0 rfl ?_
      refine V.getr (pc := 55) C fl_RX1_9 sX96 (kX96 hN) rfl rX96_4 dX1_fewest_55 ?_
      refine V.iload_n (pc := 58) C dX1_fewest_58 1 rfl ?_
      refine V.aload_n (pc := 59) C dX1_fewest_59 0 rfl ?_
      refine V.iload_n (pc := 60) C dX1_fewest_60 1 rfl ?_
      refine V.callV (pc := 61) (st := [.int y3, .ref 97]) C (c_X1_effect l hN y3 m) obI ck_X1_effect ml_RX1_52 rfl rfl sX96 (kX96 hN) rfl rfl (Nat.le_of_ble_eq_true rfl) ⟨by decide, by decide⟩ dX1_fewest_61 (fun r_8 m_9 _ => ?_)
      refine V.iast (pc := 64) C sX97 (kX97 hN) dX1_fewest_64 (fun _ => ?_)
      refine V.ltm (fun m_10 => ?_)
      refine V.aload_n (pc := 65) C dX1_fewest_65 0 rfl ?_
      refine V.getr (pc := 66) C fl_RX1_15 sX96 (kX96 hN) rfl rX96_5 dX1_fewest_66 ?_
      refine V.iload_n (pc := 69) C dX1_fewest_69 1 rfl ?_
      refine V.aload_n (pc := 70) C dX1_fewest_70 0 rfl ?_
      refine V.iload_n (pc := 71) C dX1_fewest_71 1 rfl ?_
      refine V.callV (pc := 72) (st := [.int y3, .ref 98]) C (c_X1_findAlike l hN y3 m_10) obI ck_X1_findAlike ml_RX1_56 rfl rfl sX96 (kX96 hN) rfl rfl (Nat.le_of_ble_eq_true rfl) ⟨by decide, by decide⟩ dX1_fewest_72 (fun r_11 m_12 _ => ?_)
      refine V.iast (pc := 75) C sX98 (kX98 hN) dX1_fewest_75 (fun _ => ?_)
      refine V.ltm (fun m_13 => ?_)
      refine V.iinc (pc := 76) C dX1_fewest_76 (v := 1) (L2 := [(3, .int (y3 + 1)), (0, .ref 96)]) 1 rfl (by decide) (by decide) rfl ?_
      refine V.goto (pc := 79) C dX1_fewest_79 48 (by decide) ?_
      refine V.wk [1, 0] rfl ?_
      exact ih (y3 + 1) m_13
set_option maxRecDepth 100000 in
set_option maxHeartbeats 4000000 in
theorem v_X1_fewest {l : Launch} {p : Program} {e : Env} {s : State} {mt : MethodId} {args : Array Value} {below : List Frame} {meth : Method} {c : Code} {A : Nat → Prop} {ad0 : Nat → Nat} {G : Gt} {N : Nat} (C : Cx G p s mt args meth c RX1 cX1_fewest 5 (some .int) "fewest" A) (hN : 109 ≤ N) (x1 : Int32) (x2 : Int32) (m : Mem) : V G SX oI l p e s mt args below meth c 5 70 A ad0 N N RX N RX 0 [(0, .ref 96), (1, .int x1), (2, .int x2)] [] m (X1_fewest  x1 x2 m) := by
  rw [X1_fewest]
  refine V.aload_n (pc := 0) C dX1_fewest_0 0 rfl ?_
  refine V.iload_n (pc := 1) C dX1_fewest_1 1 rfl ?_
  refine V.puti (pc := 2) C fp_RX1_22 sX96 (kX96 hN) rfl dX1_fewest_2 ?_
  refine V.ltm (fun m_1 => ?_)
  refine V.aload_n (pc := 5) C dX1_fewest_5 0 rfl ?_
  refine V.iload_n (pc := 6) C dX1_fewest_6 2 rfl ?_
  refine V.puti (pc := 7) C fp_RX1_26 sX96 (kX96 hN) rfl dX1_fewest_7 ?_
  refine V.ltm (fun m_2 => ?_)
  refine V.aload_n (pc := 10) C dX1_fewest_10 0 rfl ?_
  refine V.iconst (pc := 11) C dX1_fewest_11 (v := 1) (by decide) ?_
  refine V.aload_n (pc := 12) C dX1_fewest_12 0 rfl ?_
  refine V.getr (pc := 13) C fl_RX1_18 sX96 (kX96 hN) rfl rX96_0 dX1_fewest_13 ?_
  refine V.getr (pc := 16) C fl_RX1_29 sX25 (kX25 hN) rfl rX25_0 dX1_fewest_16 ?_
  refine V.geti (pc := 19) C fl_RX1_35 sX2 (kX2 hN) rfl dX1_fewest_19 ?_
  refine V.ishl (pc := 22) C dX1_fewest_22 ?_
  refine V.iconst (pc := 23) C dX1_fewest_23 (v := 1) (by decide) ?_
  refine V.isub (pc := 24) C dX1_fewest_24 ?_
  refine V.aload_n (pc := 25) C dX1_fewest_25 0 rfl ?_
  refine V.getr (pc := 26) C fl_RX1_18 sX96 (kX96 hN) rfl rX96_0 dX1_fewest_26 ?_
  refine V.getr (pc := 29) C fl_RX1_40 sX25 (kX25 hN) rfl rX25_2 dX1_fewest_29 ?_
  refine V.getr (pc := 32) C fl_RX1_44 sX26 (kX26 hN) rfl rX26_3 dX1_fewest_32 ?_
  refine V.aload_n (pc := 35) C dX1_fewest_35 0 rfl ?_
  refine V.geti (pc := 36) C fl_RX1_22 sX96 (kX96 hN) rfl dX1_fewest_36 ?_
  refine V.iald (pc := 39) C sX29 (kX29 hN) dX1_fewest_39 (fun _ => ?_)
  refine V.iconst (pc := 40) C dX1_fewest_40 (v := (-1)) (by decide) ?_
  refine V.ixor (pc := 41) C dX1_fewest_41 ?_
  refine V.iand (pc := 42) C dX1_fewest_42 ?_
  refine V.puti (pc := 43) C fp_RX1_49 sX96 (kX96 hN) rfl dX1_fewest_43 ?_
  refine V.ltm (fun m_3 => ?_)
  refine V.iconst (pc := 46) C dX1_fewest_46 (v := 0) (by decide) ?_
  refine V.istore_n (pc := 47) C dX1_fewest_47 (L2 := [(3, .int 0), (0, .ref 96), (1, .int x1), (2, .int x2)]) (by decide) rfl ?_
  refine V.wk [1, 0] rfl ?_
  exact v_X1_fewest_b48 C hN FU 0 m_3
theorem c_X1_fewest (l : Launch) {N : Nat} (hN : 109 ≤ N) (x1 : Int32) (x2 : Int32) (m : Mem) : Ct l yX1_fewest cX1_fewest 5 (some .int) 70 SX oI N N RX RX [.ref 96, .int x1, .int x2] m (X1_fewest  x1 x2 m) :=
  Ct.of (own := RX1) (nm := "fewest") (by decide) rfl rfl (Nat.le_of_ble_eq_true rfl) (fun _ _ _ _ _ _ _ _ _ _ _ C => v_X1_fewest C hN x1 x2 m)
theorem dX11_fib_0 : decode cX11_fib 0 = .ok (.aload_n 0, 1) := by decide +kernel
theorem dX11_fib_1 : decode cX11_fib 1 = .ok (.getfield 38, 3) := by decide +kernel
theorem dX11_fib_4 : decode cX11_fib 4 = .ok (.iload_n 1, 1) := by decide +kernel
theorem dX11_fib_5 : decode cX11_fib 5 = .ok (.iload_n 2, 1) := by decide +kernel
theorem dX11_fib_6 : decode cX11_fib 6 = .ok (.invokevirtual 163, 3) := by decide +kernel
theorem dX11_fib_9 : decode cX11_fib 9 = .ok (.ifCond .eq 10, 3) := by decide +kernel
theorem dX11_fib_12 : decode cX11_fib 12 = .ok (.iload_n 3, 1) := by decide +kernel
theorem dX11_fib_13 : decode cX11_fib 13 = .ok (.invokestatic 315, 3) := by decide +kernel
theorem dX11_fib_16 : decode cX11_fib 16 = .ok (.ifCond .ne 6, 3) := by decide +kernel
theorem dX11_fib_19 : decode cX11_fib 19 = .ok (.bipush (-2), 2) := by decide +kernel
theorem dX11_fib_21 : decode cX11_fib 21 = .ok (.ireturn, 1) := by decide +kernel
theorem dX11_fib_22 : decode cX11_fib 22 = .ok (.aload_n 0, 1) := by decide +kernel
theorem dX11_fib_23 : decode cX11_fib 23 = .ok (.getfield 73, 3) := by decide +kernel
theorem dX11_fib_26 : decode cX11_fib 26 = .ok (.iload_n 1, 1) := by decide +kernel
theorem dX11_fib_27 : decode cX11_fib 27 = .ok (.iload_n 2, 1) := by decide +kernel
theorem dX11_fib_28 : decode cX11_fib 28 = .ok (.invokevirtual 322, 3) := by decide +kernel
theorem dX11_fib_31 : decode cX11_fib 31 = .ok (.istore 4, 2) := by decide +kernel
theorem dX11_fib_33 : decode cX11_fib 33 = .ok (.iload 4, 2) := by decide +kernel
theorem dX11_fib_35 : decode cX11_fib 35 = .ok (.iconst (-1), 1) := by decide +kernel
theorem dX11_fib_36 : decode cX11_fib 36 = .ok (.if_icmp .eq 7, 3) := by decide +kernel
theorem dX11_fib_39 : decode cX11_fib 39 = .ok (.iload_n 3, 1) := by decide +kernel
theorem dX11_fib_40 : decode cX11_fib 40 = .ok (.ifCond .ne 8, 3) := by decide +kernel
theorem dX11_fib_43 : decode cX11_fib 43 = .ok (.iload 4, 2) := by decide +kernel
theorem dX11_fib_45 : decode cX11_fib 45 = .ok (.goto 10, 3) := by decide +kernel
theorem dX11_fib_48 : decode cX11_fib 48 = .ok (.aload_n 0, 1) := by decide +kernel
theorem dX11_fib_49 : decode cX11_fib 49 = .ok (.getfield 73, 3) := by decide +kernel
theorem dX11_fib_52 : decode cX11_fib 52 = .ok (.getfield 325, 3) := by decide +kernel
theorem dX11_fib_55 : decode cX11_fib 55 = .ok (.ireturn, 1) := by decide +kernel
set_option maxRecDepth 100000 in
set_option maxHeartbeats 4000000 in
theorem v_X11_fib {l : Launch} {p : Program} {e : Env} {s : State} {mt : MethodId} {args : Array Value} {below : List Frame} {meth : Method} {c : Code} {A : Nat → Prop} {ad0 : Nat → Nat} {G : Gt} {N : Nat} (C : Cx G p s mt args meth c RX11 cX11_fib 5 (some .int) "fib" A) (hN : 109 ≤ N) (x1 : Int32) (x2 : Int32) (x3 : Int32) (m : Mem) : V G SX oI l p e s mt args below meth c 5 71 A ad0 N N RX N RX 0 [(0, .ref 0), (1, .int x1), (2, .int x2), (3, .int x3)] [] m (X11_fib  x1 x2 x3 m) := by
  rw [X11_fib]
  refine V.aload_n (pc := 0) C dX11_fib_0 0 rfl ?_
  refine V.getr (pc := 1) C fl_RX11_38 sX0 (kX0 hN) rfl rX0_6 dX11_fib_1 ?_
  refine V.iload_n (pc := 4) C dX11_fib_4 1 rfl ?_
  refine V.iload_n (pc := 5) C dX11_fib_5 2 rfl ?_
  refine V.callV (pc := 6) (st := []) C (c_X10_areTwo l hN 25 (iX25 hN) x1 x2 m) obI ck_X10_areTwo ml_RX11_163 rfl rfl sX25 (kX25 hN) rfl rfl (Nat.le_of_ble_eq_true rfl) ⟨by decide, by decide⟩ dX11_fib_6 (fun r_1 m_2 _ => ?_)
  refine V.if_eq (pc := 9) C dX11_fib_9 19 (by decide) (fun _ => ?_) (fun _ => ?_)
  · refine V.bipush (pc := 19) C dX11_fib_19 (v := (-2)) (by decide) ?_
    exact V.iret C dX11_fib_21
  · refine V.iload_n (pc := 12) C dX11_fib_12 3 rfl ?_
    refine V.callS (pc := 13) (st := []) C (c_X11_isEither l hN x3 m_2) obI ck_X11_isEither ml_RX11_315 rfl rfl (Nat.le_of_ble_eq_true rfl) ⟨by decide, by decide⟩ dX11_fib_13 (fun r_3 m_4 _ => ?_)
    refine V.if_ne (pc := 16) C dX11_fib_16 22 (by decide) (fun _ => ?_) (fun _ => ?_)
    · refine V.aload_n (pc := 22) C dX11_fib_22 0 rfl ?_
      refine V.getr (pc := 23) C fl_RX11_73 sX0 (kX0 hN) rfl rX0_11 dX11_fib_23 ?_
      refine V.iload_n (pc := 26) C dX11_fib_26 1 rfl ?_
      refine V.iload_n (pc := 27) C dX11_fib_27 2 rfl ?_
      refine V.callV (pc := 28) (st := []) C (c_X1_fewest l hN x1 x2 m_4) obI ck_X1_fewest ml_RX11_322 rfl rfl sX96 (kX96 hN) rfl rfl (Nat.le_of_ble_eq_true rfl) ⟨by decide, by decide⟩ dX11_fib_28 (fun r_5 m_6 _ => ?_)
      refine V.istore (pc := 31) C dX11_fib_31 (L2 := [(4, .int r_5), (0, .ref 0), (1, .int x1), (2, .int x2), (3, .int x3)]) (by decide) rfl ?_
      refine V.iload (pc := 33) C dX11_fib_33 0 rfl ?_
      refine V.iconst (pc := 35) C dX11_fib_35 (v := (-1)) (by decide) ?_
      refine V.icmp_eq (pc := 36) C dX11_fib_36 43 (by decide) (fun _ => ?_) (fun _ => ?_)
      · refine V.iload (pc := 43) C dX11_fib_43 0 rfl ?_
        refine V.goto (pc := 45) C dX11_fib_45 55 (by decide) ?_
        exact V.iret C dX11_fib_55
      · refine V.iload_n (pc := 39) C dX11_fib_39 4 rfl ?_
        refine V.if_ne (pc := 40) C dX11_fib_40 48 (by decide) (fun _ => ?_) (fun _ => ?_)
        · refine V.aload_n (pc := 48) C dX11_fib_48 1 rfl ?_
          refine V.getr (pc := 49) C fl_RX11_73 sX0 (kX0 hN) rfl rX0_11 dX11_fib_49 ?_
          refine V.geti (pc := 52) C fl_RX11_325 sX96 (kX96 hN) rfl dX11_fib_52 ?_
          exact V.iret C dX11_fib_55
        · refine V.iload (pc := 43) C dX11_fib_43 0 rfl ?_
          refine V.goto (pc := 45) C dX11_fib_45 55 (by decide) ?_
          exact V.iret C dX11_fib_55
    · refine V.bipush (pc := 19) C dX11_fib_19 (v := (-2)) (by decide) ?_
      exact V.iret C dX11_fib_21
theorem c_X11_fib (l : Launch) {N : Nat} (hN : 109 ≤ N) (x1 : Int32) (x2 : Int32) (x3 : Int32) (m : Mem) : Ct l yX11_fib cX11_fib 5 (some .int) 71 SX oI N N RX RX [.ref 0, .int x1, .int x2, .int x3] m (X11_fib  x1 x2 x3 m) :=
  Ct.of (own := RX11) (nm := "fib") (by decide) rfl rfl (Nat.le_of_ble_eq_true rfl) (fun _ _ _ _ _ _ _ _ _ _ _ C => v_X11_fib C hN x1 x2 x3 m)
theorem dX11_good_0 : decode cX11_good 0 = .ok (.aload_n 0, 1) := by decide +kernel
theorem dX11_good_1 : decode cX11_good 1 = .ok (.getfield 38, 3) := by decide +kernel
theorem dX11_good_4 : decode cX11_good 4 = .ok (.iload_n 1, 1) := by decide +kernel
theorem dX11_good_5 : decode cX11_good 5 = .ok (.iload_n 2, 1) := by decide +kernel
theorem dX11_good_6 : decode cX11_good 6 = .ok (.invokevirtual 163, 3) := by decide +kernel
theorem dX11_good_9 : decode cX11_good 9 = .ok (.ifCond .eq 15, 3) := by decide +kernel
theorem dX11_good_12 : decode cX11_good 12 = .ok (.aload_n 0, 1) := by decide +kernel
theorem dX11_good_13 : decode cX11_good 13 = .ok (.getfield 38, 3) := by decide +kernel
theorem dX11_good_16 : decode cX11_good 16 = .ok (.iload_n 1, 1) := by decide +kernel
theorem dX11_good_17 : decode cX11_good 17 = .ok (.iload_n 2, 1) := by decide +kernel
theorem dX11_good_18 : decode cX11_good 18 = .ok (.invokevirtual 177, 3) := by decide +kernel
theorem dX11_good_21 : decode cX11_good 21 = .ok (.goto 5, 3) := by decide +kernel
theorem dX11_good_24 : decode cX11_good 24 = .ok (.ldc 181, 2) := by decide +kernel
theorem dX11_good_26 : decode cX11_good 26 = .ok (.ireturn, 1) := by decide +kernel
set_option maxRecDepth 100000 in
set_option maxHeartbeats 4000000 in
theorem v_X11_good {l : Launch} {p : Program} {e : Env} {s : State} {mt : MethodId} {args : Array Value} {below : List Frame} {meth : Method} {c : Code} {A : Nat → Prop} {ad0 : Nat → Nat} {G : Gt} {N : Nat} (C : Cx G p s mt args meth c RX11 cX11_good 3 (some .int) "good" A) (hN : 109 ≤ N) (x1 : Int32) (x2 : Int32) (m : Mem) : V G SX oI l p e s mt args below meth c 3 5 A ad0 N N RX N RX 0 [(0, .ref 0), (1, .int x1), (2, .int x2)] [] m (X11_good  x1 x2 m) := by
  rw [X11_good]
  refine V.aload_n (pc := 0) C dX11_good_0 0 rfl ?_
  refine V.getr (pc := 1) C fl_RX11_38 sX0 (kX0 hN) rfl rX0_6 dX11_good_1 ?_
  refine V.iload_n (pc := 4) C dX11_good_4 1 rfl ?_
  refine V.iload_n (pc := 5) C dX11_good_5 2 rfl ?_
  refine V.callV (pc := 6) (st := []) C (c_X10_areTwo l hN 25 (iX25 hN) x1 x2 m) obI ck_X10_areTwo ml_RX11_163 rfl rfl sX25 (kX25 hN) rfl rfl (Nat.le_of_ble_eq_true rfl) ⟨by decide, by decide⟩ dX11_good_6 (fun r_1 m_2 _ => ?_)
  refine V.if_eq (pc := 9) C dX11_good_9 24 (by decide) (fun _ => ?_) (fun _ => ?_)
  · refine V.ldc (pc := 24) C dX11_good_24 (v := (-2000000)) cn_RX11_181 ?_
    exact V.iret C dX11_good_26
  · refine V.aload_n (pc := 12) C dX11_good_12 0 rfl ?_
    refine V.getr (pc := 13) C fl_RX11_38 sX0 (kX0 hN) rfl rX0_6 dX11_good_13 ?_
    refine V.iload_n (pc := 16) C dX11_good_16 1 rfl ?_
    refine V.iload_n (pc := 17) C dX11_good_17 2 rfl ?_
    refine V.callV (pc := 18) (st := []) C (c_X10_goodness l hN 25 (iX25 hN) x1 x2 m_2) obI ck_X10_goodness ml_RX11_177 rfl rfl sX25 (kX25 hN) rfl rfl (Nat.le_of_ble_eq_true rfl) ⟨by decide, by decide⟩ dX11_good_18 (fun r_3 m_4 _ => ?_)
    refine V.goto (pc := 21) C dX11_good_21 26 (by decide) ?_
    exact V.iret C dX11_good_26
theorem c_X11_good (l : Launch) {N : Nat} (hN : 109 ≤ N) (x1 : Int32) (x2 : Int32) (m : Mem) : Ct l yX11_good cX11_good 3 (some .int) 5 SX oI N N RX RX [.ref 0, .int x1, .int x2] m (X11_good  x1 x2 m) :=
  Ct.of (own := RX11) (nm := "good") (by decide) rfl rfl (Nat.le_of_ble_eq_true rfl) (fun _ _ _ _ _ _ _ _ _ _ _ C => v_X11_good C hN x1 x2 m)
theorem dX11_goodIn_0 : decode cX11_goodIn 0 = .ok (.aload_n 0, 1) := by decide +kernel
theorem dX11_goodIn_1 : decode cX11_goodIn 1 = .ok (.getfield 38, 3) := by decide +kernel
theorem dX11_goodIn_4 : decode cX11_goodIn 4 = .ok (.iload_n 1, 1) := by decide +kernel
theorem dX11_goodIn_5 : decode cX11_goodIn 5 = .ok (.iload_n 2, 1) := by decide +kernel
theorem dX11_goodIn_6 : decode cX11_goodIn 6 = .ok (.invokevirtual 163, 3) := by decide +kernel
theorem dX11_goodIn_9 : decode cX11_goodIn 9 = .ok (.ifCond .eq 13, 3) := by decide +kernel
theorem dX11_goodIn_12 : decode cX11_goodIn 12 = .ok (.iload_n 3, 1) := by decide +kernel
theorem dX11_goodIn_13 : decode cX11_goodIn 13 = .ok (.ifCond .lt 9, 3) := by decide +kernel
theorem dX11_goodIn_16 : decode cX11_goodIn 16 = .ok (.iload_n 3, 1) := by decide +kernel
theorem dX11_goodIn_17 : decode cX11_goodIn 17 = .ok (.bipush 60, 2) := by decide +kernel
theorem dX11_goodIn_19 : decode cX11_goodIn 19 = .ok (.if_icmp .le 6, 3) := by decide +kernel
theorem dX11_goodIn_22 : decode cX11_goodIn 22 = .ok (.ldc 181, 2) := by decide +kernel
theorem dX11_goodIn_24 : decode cX11_goodIn 24 = .ok (.ireturn, 1) := by decide +kernel
theorem dX11_goodIn_25 : decode cX11_goodIn 25 = .ok (.aload_n 0, 1) := by decide +kernel
theorem dX11_goodIn_26 : decode cX11_goodIn 26 = .ok (.getfield 42, 3) := by decide +kernel
theorem dX11_goodIn_29 : decode cX11_goodIn 29 = .ok (.getfield 108, 3) := by decide +kernel
theorem dX11_goodIn_32 : decode cX11_goodIn 32 = .ok (.aload_n 0, 1) := by decide +kernel
theorem dX11_goodIn_33 : decode cX11_goodIn 33 = .ok (.getfield 38, 3) := by decide +kernel
theorem dX11_goodIn_36 : decode cX11_goodIn 36 = .ok (.getfield 108, 3) := by decide +kernel
theorem dX11_goodIn_39 : decode cX11_goodIn 39 = .ok (.invokevirtual 111, 3) := by decide +kernel
theorem dX11_goodIn_42 : decode cX11_goodIn 42 = .ok (.iconst 0, 1) := by decide +kernel
theorem dX11_goodIn_43 : decode cX11_goodIn 43 = .ok (.istore 4, 2) := by decide +kernel
theorem dX11_goodIn_45 : decode cX11_goodIn 45 = .ok (.iload 4, 2) := by decide +kernel
theorem dX11_goodIn_47 : decode cX11_goodIn 47 = .ok (.iload_n 3, 1) := by decide +kernel
theorem dX11_goodIn_48 : decode cX11_goodIn 48 = .ok (.if_icmp .ge 18, 3) := by decide +kernel
theorem dX11_goodIn_51 : decode cX11_goodIn 51 = .ok (.aload_n 0, 1) := by decide +kernel
theorem dX11_goodIn_52 : decode cX11_goodIn 52 = .ok (.getfield 42, 3) := by decide +kernel
theorem dX11_goodIn_55 : decode cX11_goodIn 55 = .ok (.iload_n 1, 1) := by decide +kernel
theorem dX11_goodIn_56 : decode cX11_goodIn 56 = .ok (.iload_n 2, 1) := by decide +kernel
theorem dX11_goodIn_57 : decode cX11_goodIn 57 = .ok (.invokevirtual 303, 3) := by decide +kernel
theorem dX11_goodIn_60 : decode cX11_goodIn 60 = .ok (.iinc 4 1, 3) := by decide +kernel
theorem dX11_goodIn_63 : decode cX11_goodIn 63 = .ok (.goto (-18), 3) := by decide +kernel
theorem dX11_goodIn_66 : decode cX11_goodIn 66 = .ok (.aload_n 0, 1) := by decide +kernel
theorem dX11_goodIn_67 : decode cX11_goodIn 67 = .ok (.getfield 42, 3) := by decide +kernel
theorem dX11_goodIn_70 : decode cX11_goodIn 70 = .ok (.iload_n 1, 1) := by decide +kernel
theorem dX11_goodIn_71 : decode cX11_goodIn 71 = .ok (.iload_n 2, 1) := by decide +kernel
theorem dX11_goodIn_72 : decode cX11_goodIn 72 = .ok (.invokevirtual 177, 3) := by decide +kernel
theorem dX11_goodIn_75 : decode cX11_goodIn 75 = .ok (.ireturn, 1) := by decide +kernel
set_option maxRecDepth 100000 in
set_option maxHeartbeats 4000000 in
theorem v_X11_goodIn_b45 {l : Launch} {p : Program} {e : Env} {s : State} {mt : MethodId} {args : Array Value} {below : List Frame} {meth : Method} {c : Code} {A : Nat → Prop} {ad0 : Nat → Nat} {G : Gt} {N : Nat} (C : Cx G p s mt args meth c RX11 cX11_goodIn 5 (some .int) "goodIn" A) (hN : 109 ≤ N) : ∀ (n : Nat) (y1 : Int32) (y2 : Int32) (y3 : Int32) (y4 : Int32) (m : Mem), V G SX oI l p e s mt args below meth c 5 6 A ad0 N N RX N RX 45 [(0, .ref 0), (1, .int y1), (2, .int y2), (3, .int y3), (4, .int y4)] [] m (X11_goodIn_b45  n y1 y2 y3 y4 m) := by
  intro n
  induction n with
  | zero =>
    intro y1 y2 y3 y4 m
    rw [X11_goodIn_b45]
    exact V.nil
  | succ n ih =>
    intro y1 y2 y3 y4 m
    rw [X11_goodIn_b45]
    refine V.iload (pc := 45) C dX11_goodIn_45 4 rfl ?_
    refine V.iload_n (pc := 47) C dX11_goodIn_47 3 rfl ?_
    refine V.icmp_ge (pc := 48) C dX11_goodIn_48 66 (by decide) (fun _ => ?_) (fun _ => ?_)
    · refine V.aload_n (pc := 66) C dX11_goodIn_66 0 rfl ?_
      refine V.getr (pc := 67) C fl_RX11_42 sX0 (kX0 hN) rfl rX0_7 dX11_goodIn_67 ?_
      refine V.iload_n (pc := 70) C dX11_goodIn_70 1 rfl ?_
      refine V.iload_n (pc := 71) C dX11_goodIn_71 2 rfl ?_
      refine V.callV (pc := 72) (st := []) C (c_X10_goodness l hN 32 (iX32 hN) y1 y2 m) obI ck_X10_goodness ml_RX11_177 rfl rfl sX32 (kX32 hN) rfl rfl (Nat.le_of_ble_eq_true rfl) ⟨by decide, by decide⟩ dX11_goodIn_72 (fun r_5 m_6 _ => ?_)
      exact V.iret C dX11_goodIn_75
    · refine V.aload_n (pc := 51) C dX11_goodIn_51 0 rfl ?_
      refine V.getr (pc := 52) C fl_RX11_42 sX0 (kX0 hN) rfl rX0_7 dX11_goodIn_52 ?_
      refine V.iload_n (pc := 55) C dX11_goodIn_55 1 rfl ?_
      refine V.iload_n (pc := 56) C dX11_goodIn_56 2 rfl ?_
      refine V.callV (pc := 57) (st := []) C (c_X10_passYearOfTwo l hN 32 (iX32 hN) y1 y2 m) obV ck_X10_passYearOfTwo ml_RX11_303 rfl rfl sX32 (kX32 hN) rfl rfl (Nat.le_of_ble_eq_true rfl) ⟨by decide, by decide⟩ dX11_goodIn_57 (fun r_7 m_8 _ => ?_)
      refine V.iinc (pc := 60) C dX11_goodIn_60 (v := 1) (L2 := [(4, .int (y4 + 1)), (0, .ref 0), (1, .int y1), (2, .int y2), (3, .int y3)]) 4 rfl (by decide) (by decide) rfl ?_
      refine V.goto (pc := 63) C dX11_goodIn_63 45 (by decide) ?_
      refine V.wk [1, 2, 3, 4, 0] rfl ?_
      exact ih y1 y2 y3 (y4 + 1) m_8
set_option maxRecDepth 100000 in
set_option maxHeartbeats 4000000 in
theorem v_X11_goodIn {l : Launch} {p : Program} {e : Env} {s : State} {mt : MethodId} {args : Array Value} {below : List Frame} {meth : Method} {c : Code} {A : Nat → Prop} {ad0 : Nat → Nat} {G : Gt} {N : Nat} (C : Cx G p s mt args meth c RX11 cX11_goodIn 5 (some .int) "goodIn" A) (hN : 109 ≤ N) (x1 : Int32) (x2 : Int32) (x3 : Int32) (m : Mem) : V G SX oI l p e s mt args below meth c 5 6 A ad0 N N RX N RX 0 [(0, .ref 0), (1, .int x1), (2, .int x2), (3, .int x3)] [] m (X11_goodIn  x1 x2 x3 m) := by
  rw [X11_goodIn]
  refine V.aload_n (pc := 0) C dX11_goodIn_0 0 rfl ?_
  refine V.getr (pc := 1) C fl_RX11_38 sX0 (kX0 hN) rfl rX0_6 dX11_goodIn_1 ?_
  refine V.iload_n (pc := 4) C dX11_goodIn_4 1 rfl ?_
  refine V.iload_n (pc := 5) C dX11_goodIn_5 2 rfl ?_
  refine V.callV (pc := 6) (st := []) C (c_X10_areTwo l hN 25 (iX25 hN) x1 x2 m) obI ck_X10_areTwo ml_RX11_163 rfl rfl sX25 (kX25 hN) rfl rfl (Nat.le_of_ble_eq_true rfl) ⟨by decide, by decide⟩ dX11_goodIn_6 (fun r_1 m_2 _ => ?_)
  refine V.if_eq (pc := 9) C dX11_goodIn_9 22 (by decide) (fun _ => ?_) (fun _ => ?_)
  · refine V.ldc (pc := 22) C dX11_goodIn_22 (v := (-2000000)) cn_RX11_181 ?_
    exact V.iret C dX11_goodIn_24
  · refine V.iload_n (pc := 12) C dX11_goodIn_12 3 rfl ?_
    refine V.if_lt (pc := 13) C dX11_goodIn_13 22 (by decide) (fun _ => ?_) (fun _ => ?_)
    · refine V.ldc (pc := 22) C dX11_goodIn_22 (v := (-2000000)) cn_RX11_181 ?_
      exact V.iret C dX11_goodIn_24
    · refine V.iload_n (pc := 16) C dX11_goodIn_16 3 rfl ?_
      refine V.bipush (pc := 17) C dX11_goodIn_17 (v := 60) (by decide) ?_
      refine V.icmp_le (pc := 19) C dX11_goodIn_19 25 (by decide) (fun _ => ?_) (fun _ => ?_)
      · refine V.aload_n (pc := 25) C dX11_goodIn_25 0 rfl ?_
        refine V.getr (pc := 26) C fl_RX11_42 sX0 (kX0 hN) rfl rX0_7 dX11_goodIn_26 ?_
        refine V.getr (pc := 29) C fl_RX11_108 sX32 (kX32 hN) rfl rX32_2 dX11_goodIn_29 ?_
        refine V.aload_n (pc := 32) C dX11_goodIn_32 0 rfl ?_
        refine V.getr (pc := 33) C fl_RX11_38 sX0 (kX0 hN) rfl rX0_6 dX11_goodIn_33 ?_
        refine V.getr (pc := 36) C fl_RX11_108 sX25 (kX25 hN) rfl rX25_2 dX11_goodIn_36 ?_
        refine V.callV (pc := 39) (st := []) C (c_X5_become l hN 33 (iX33 hN) 26 (iX26 hN) m_2) obV ck_X5_become ml_RX11_111 rfl rfl sX33 (kX33 hN) rfl rfl (Nat.le_of_ble_eq_true rfl) ⟨by decide, by decide⟩ dX11_goodIn_39 (fun r_3 m_4 _ => ?_)
        refine V.iconst (pc := 42) C dX11_goodIn_42 (v := 0) (by decide) ?_
        refine V.istore (pc := 43) C dX11_goodIn_43 (L2 := [(4, .int 0), (0, .ref 0), (1, .int x1), (2, .int x2), (3, .int x3)]) (by decide) rfl ?_
        refine V.wk [1, 2, 3, 4, 0] rfl ?_
        exact v_X11_goodIn_b45 C hN FU x1 x2 x3 0 m_4
      · refine V.ldc (pc := 22) C dX11_goodIn_22 (v := (-2000000)) cn_RX11_181 ?_
        exact V.iret C dX11_goodIn_24
theorem c_X11_goodIn (l : Launch) {N : Nat} (hN : 109 ≤ N) (x1 : Int32) (x2 : Int32) (x3 : Int32) (m : Mem) : Ct l yX11_goodIn cX11_goodIn 5 (some .int) 6 SX oI N N RX RX [.ref 0, .int x1, .int x2, .int x3] m (X11_goodIn  x1 x2 x3 m) :=
  Ct.of (own := RX11) (nm := "goodIn") (by decide) rfl rfl (Nat.le_of_ble_eq_true rfl) (fun _ _ _ _ _ _ _ _ _ _ _ C => v_X11_goodIn C hN x1 x2 x3 m)
theorem dX11_holds_0 : decode cX11_holds 0 = .ok (.aload_n 0, 1) := by decide +kernel
theorem dX11_holds_1 : decode cX11_holds 1 = .ok (.getfield 38, 3) := by decide +kernel
theorem dX11_holds_4 : decode cX11_holds 4 = .ok (.iload_n 1, 1) := by decide +kernel
theorem dX11_holds_5 : decode cX11_holds 5 = .ok (.iload_n 2, 1) := by decide +kernel
theorem dX11_holds_6 : decode cX11_holds 6 = .ok (.invokevirtual 163, 3) := by decide +kernel
theorem dX11_holds_9 : decode cX11_holds 9 = .ok (.ifCond .eq 14, 3) := by decide +kernel
theorem dX11_holds_12 : decode cX11_holds 12 = .ok (.aload_n 0, 1) := by decide +kernel
theorem dX11_holds_13 : decode cX11_holds 13 = .ok (.iload_n 1, 1) := by decide +kernel
theorem dX11_holds_14 : decode cX11_holds 14 = .ok (.iload_n 2, 1) := by decide +kernel
theorem dX11_holds_15 : decode cX11_holds 15 = .ok (.bipush 40, 2) := by decide +kernel
theorem dX11_holds_17 : decode cX11_holds 17 = .ok (.invokevirtual 299, 3) := by decide +kernel
theorem dX11_holds_20 : decode cX11_holds 20 = .ok (.goto 5, 3) := by decide +kernel
theorem dX11_holds_23 : decode cX11_holds 23 = .ok (.bipush (-2), 2) := by decide +kernel
theorem dX11_holds_25 : decode cX11_holds 25 = .ok (.ireturn, 1) := by decide +kernel
set_option maxRecDepth 100000 in
set_option maxHeartbeats 4000000 in
theorem v_X11_holds {l : Launch} {p : Program} {e : Env} {s : State} {mt : MethodId} {args : Array Value} {below : List Frame} {meth : Method} {c : Code} {A : Nat → Prop} {ad0 : Nat → Nat} {G : Gt} {N : Nat} (C : Cx G p s mt args meth c RX11 cX11_holds 3 (some .int) "holds" A) (hN : 109 ≤ N) (x1 : Int32) (x2 : Int32) (m : Mem) : V G SX oI l p e s mt args below meth c 3 7 A ad0 N N RX N RX 0 [(0, .ref 0), (1, .int x1), (2, .int x2)] [] m (X11_holds  x1 x2 m) := by
  rw [X11_holds]
  refine V.aload_n (pc := 0) C dX11_holds_0 0 rfl ?_
  refine V.getr (pc := 1) C fl_RX11_38 sX0 (kX0 hN) rfl rX0_6 dX11_holds_1 ?_
  refine V.iload_n (pc := 4) C dX11_holds_4 1 rfl ?_
  refine V.iload_n (pc := 5) C dX11_holds_5 2 rfl ?_
  refine V.callV (pc := 6) (st := []) C (c_X10_areTwo l hN 25 (iX25 hN) x1 x2 m) obI ck_X10_areTwo ml_RX11_163 rfl rfl sX25 (kX25 hN) rfl rfl (Nat.le_of_ble_eq_true rfl) ⟨by decide, by decide⟩ dX11_holds_6 (fun r_1 m_2 _ => ?_)
  refine V.if_eq (pc := 9) C dX11_holds_9 23 (by decide) (fun _ => ?_) (fun _ => ?_)
  · refine V.bipush (pc := 23) C dX11_holds_23 (v := (-2)) (by decide) ?_
    exact V.iret C dX11_holds_25
  · refine V.aload_n (pc := 12) C dX11_holds_12 0 rfl ?_
    refine V.iload_n (pc := 13) C dX11_holds_13 1 rfl ?_
    refine V.iload_n (pc := 14) C dX11_holds_14 2 rfl ?_
    refine V.bipush (pc := 15) C dX11_holds_15 (v := 40) (by decide) ?_
    refine V.callV (pc := 17) (st := []) C (c_X11_endurance l hN x1 x2 40 m_2) obI ck_X11_endurance ml_RX11_299 rfl rfl sX0 (kX0 hN) rfl rfl (Nat.le_of_ble_eq_true rfl) ⟨by decide, by decide⟩ dX11_holds_17 (fun r_3 m_4 _ => ?_)
    refine V.goto (pc := 20) C dX11_holds_20 25 (by decide) ?_
    exact V.iret C dX11_holds_25
theorem c_X11_holds (l : Launch) {N : Nat} (hN : 109 ≤ N) (x1 : Int32) (x2 : Int32) (m : Mem) : Ct l yX11_holds cX11_holds 3 (some .int) 7 SX oI N N RX RX [.ref 0, .int x1, .int x2] m (X11_holds  x1 x2 m) :=
  Ct.of (own := RX11) (nm := "holds") (by decide) rfl rfl (Nat.le_of_ble_eq_true rfl) (fun _ _ _ _ _ _ _ _ _ _ _ C => v_X11_holds C hN x1 x2 m)
theorem dX11_houses_0 : decode cX11_houses 0 = .ok (.iload_n 1, 1) := by decide +kernel
theorem dX11_houses_1 : decode cX11_houses 1 = .ok (.iconst 1, 1) := by decide +kernel
theorem dX11_houses_2 : decode cX11_houses 2 = .ok (.if_icmp .lt 19, 3) := by decide +kernel
theorem dX11_houses_5 : decode cX11_houses 5 = .ok (.iload_n 1, 1) := by decide +kernel
theorem dX11_houses_6 : decode cX11_houses 6 = .ok (.bipush 8, 2) := by decide +kernel
theorem dX11_houses_8 : decode cX11_houses 8 = .ok (.if_icmp .gt 13, 3) := by decide +kernel
theorem dX11_houses_11 : decode cX11_houses 11 = .ok (.iload_n 2, 1) := by decide +kernel
theorem dX11_houses_12 : decode cX11_houses 12 = .ok (.ifCond .lt 9, 3) := by decide +kernel
theorem dX11_houses_15 : decode cX11_houses 15 = .ok (.iload_n 2, 1) := by decide +kernel
theorem dX11_houses_16 : decode cX11_houses 16 = .ok (.bipush 14, 2) := by decide +kernel
theorem dX11_houses_18 : decode cX11_houses 18 = .ok (.if_icmp .le 6, 3) := by decide +kernel
theorem dX11_houses_21 : decode cX11_houses 21 = .ok (.bipush (-3), 2) := by decide +kernel
theorem dX11_houses_23 : decode cX11_houses 23 = .ok (.ireturn, 1) := by decide +kernel
theorem dX11_houses_24 : decode cX11_houses 24 = .ok (.iconst 0, 1) := by decide +kernel
theorem dX11_houses_25 : decode cX11_houses 25 = .ok (.istore_n 3, 1) := by decide +kernel
theorem dX11_houses_26 : decode cX11_houses 26 = .ok (.aload_n 0, 1) := by decide +kernel
theorem dX11_houses_27 : decode cX11_houses 27 = .ok (.getfield 16, 3) := by decide +kernel
theorem dX11_houses_30 : decode cX11_houses 30 = .ok (.invokevirtual 265, 3) := by decide +kernel
theorem dX11_houses_33 : decode cX11_houses 33 = .ok (.istore 4, 2) := by decide +kernel
theorem dX11_houses_35 : decode cX11_houses 35 = .ok (.iconst 1, 1) := by decide +kernel
theorem dX11_houses_36 : decode cX11_houses 36 = .ok (.istore 5, 2) := by decide +kernel
theorem dX11_houses_38 : decode cX11_houses 38 = .ok (.iload 5, 2) := by decide +kernel
theorem dX11_houses_40 : decode cX11_houses 40 = .ok (.iload 4, 2) := by decide +kernel
theorem dX11_houses_42 : decode cX11_houses 42 = .ok (.if_icmp .gt 31, 3) := by decide +kernel
theorem dX11_houses_45 : decode cX11_houses 45 = .ok (.iload 5, 2) := by decide +kernel
theorem dX11_houses_47 : decode cX11_houses 47 = .ok (.invokestatic 204, 3) := by decide +kernel
theorem dX11_houses_50 : decode cX11_houses 50 = .ok (.iload_n 1, 1) := by decide +kernel
theorem dX11_houses_51 : decode cX11_houses 51 = .ok (.if_icmp .ne 16, 3) := by decide +kernel
theorem dX11_houses_54 : decode cX11_houses 54 = .ok (.aload_n 0, 1) := by decide +kernel
theorem dX11_houses_55 : decode cX11_houses 55 = .ok (.iload 5, 2) := by decide +kernel
theorem dX11_houses_57 : decode cX11_houses 57 = .ok (.iload_n 2, 1) := by decide +kernel
theorem dX11_houses_58 : decode cX11_houses 58 = .ok (.invokevirtual 335, 3) := by decide +kernel
theorem dX11_houses_61 : decode cX11_houses 61 = .ok (.ifCond .eq 6, 3) := by decide +kernel
theorem dX11_houses_64 : decode cX11_houses 64 = .ok (.iinc 3 1, 3) := by decide +kernel
theorem dX11_houses_67 : decode cX11_houses 67 = .ok (.iinc 5 1, 3) := by decide +kernel
theorem dX11_houses_70 : decode cX11_houses 70 = .ok (.goto (-32), 3) := by decide +kernel
theorem dX11_houses_73 : decode cX11_houses 73 = .ok (.iload_n 3, 1) := by decide +kernel
theorem dX11_houses_74 : decode cX11_houses 74 = .ok (.ireturn, 1) := by decide +kernel
set_option maxRecDepth 100000 in
set_option maxHeartbeats 4000000 in
theorem v_X11_houses_b38 {l : Launch} {p : Program} {e : Env} {s : State} {mt : MethodId} {args : Array Value} {below : List Frame} {meth : Method} {c : Code} {A : Nat → Prop} {ad0 : Nat → Nat} {G : Gt} {N : Nat} (C : Cx G p s mt args meth c RX11 cX11_houses 6 (some .int) "houses" A) (hN : 109 ≤ N) : ∀ (n : Nat) (y1 : Int32) (y2 : Int32) (y3 : Int32) (y4 : Int32) (y5 : Int32) (m : Mem), V G SX oI l p e s mt args below meth c 6 3 A ad0 N N RX N RX 38 [(0, .ref 0), (1, .int y1), (2, .int y2), (3, .int y3), (4, .int y4), (5, .int y5)] [] m (X11_houses_b38  n y1 y2 y3 y4 y5 m) := by
  intro n
  induction n with
  | zero =>
    intro y1 y2 y3 y4 y5 m
    rw [X11_houses_b38]
    exact V.nil
  | succ n ih =>
    intro y1 y2 y3 y4 y5 m
    rw [X11_houses_b38]
    refine V.iload (pc := 38) C dX11_houses_38 5 rfl ?_
    refine V.iload (pc := 40) C dX11_houses_40 4 rfl ?_
    refine V.icmp_gt (pc := 42) C dX11_houses_42 73 (by decide) (fun _ => ?_) (fun _ => ?_)
    · refine V.iload_n (pc := 73) C dX11_houses_73 3 rfl ?_
      exact V.iret C dX11_houses_74
    · refine V.iload (pc := 45) C dX11_houses_45 5 rfl ?_
      refine V.callS (pc := 47) (st := []) C (c_J6_bitCount_0f7a4 l y5 m) obI ck_J6_bitCount_0f7a4 ml_RX11_204 rfl rfl (Nat.le_of_ble_eq_true rfl) ⟨by decide, by decide⟩ dX11_houses_47 (fun r_3 m_4 _ => ?_)
      refine V.iload_n (pc := 50) C dX11_houses_50 1 rfl ?_
      refine V.icmp_ne (pc := 51) C dX11_houses_51 67 (by decide) (fun _ => ?_) (fun _ => ?_)
      · refine V.iinc (pc := 67) C dX11_houses_67 (v := 1) (L2 := [(5, .int (y5 + 1)), (0, .ref 0), (1, .int y1), (2, .int y2), (3, .int y3), (4, .int y4)]) 5 rfl (by decide) (by decide) rfl ?_
        refine V.goto (pc := 70) C dX11_houses_70 38 (by decide) ?_
        refine V.wk [1, 2, 3, 4, 5, 0] rfl ?_
        exact ih y1 y2 y3 y4 (y5 + 1) m_4
      · refine V.aload_n (pc := 54) C dX11_houses_54 0 rfl ?_
        refine V.iload (pc := 55) C dX11_houses_55 5 rfl ?_
        refine V.iload_n (pc := 57) C dX11_houses_57 2 rfl ?_
        refine V.callV (pc := 58) (st := []) C (c_X11_isHouse l hN y5 y2 m_4) obI ck_X11_isHouse ml_RX11_335 rfl rfl sX0 (kX0 hN) rfl rfl (Nat.le_of_ble_eq_true rfl) ⟨by decide, by decide⟩ dX11_houses_58 (fun r_5 m_6 _ => ?_)
        refine V.if_eq (pc := 61) C dX11_houses_61 67 (by decide) (fun _ => ?_) (fun _ => ?_)
        · refine V.iinc (pc := 67) C dX11_houses_67 (v := 1) (L2 := [(5, .int (y5 + 1)), (0, .ref 0), (1, .int y1), (2, .int y2), (3, .int y3), (4, .int y4)]) 5 rfl (by decide) (by decide) rfl ?_
          refine V.goto (pc := 70) C dX11_houses_70 38 (by decide) ?_
          refine V.wk [1, 2, 3, 4, 5, 0] rfl ?_
          exact ih y1 y2 y3 y4 (y5 + 1) m_6
        · refine V.iinc (pc := 64) C dX11_houses_64 (v := 1) (L2 := [(3, .int (y3 + 1)), (0, .ref 0), (1, .int y1), (2, .int y2), (4, .int y4), (5, .int y5)]) 3 rfl (by decide) (by decide) rfl ?_
          refine V.iinc (pc := 67) C dX11_houses_67 (v := 1) (L2 := [(5, .int (y5 + 1)), (3, .int (y3 + 1)), (0, .ref 0), (1, .int y1), (2, .int y2), (4, .int y4)]) 5 rfl (by decide) (by decide) rfl ?_
          refine V.goto (pc := 70) C dX11_houses_70 38 (by decide) ?_
          refine V.wk [2, 3, 4, 1, 5, 0] rfl ?_
          exact ih y1 y2 (y3 + 1) y4 (y5 + 1) m_6
set_option maxRecDepth 100000 in
set_option maxHeartbeats 4000000 in
theorem v_X11_houses {l : Launch} {p : Program} {e : Env} {s : State} {mt : MethodId} {args : Array Value} {below : List Frame} {meth : Method} {c : Code} {A : Nat → Prop} {ad0 : Nat → Nat} {G : Gt} {N : Nat} (C : Cx G p s mt args meth c RX11 cX11_houses 6 (some .int) "houses" A) (hN : 109 ≤ N) (x1 : Int32) (x2 : Int32) (m : Mem) : V G SX oI l p e s mt args below meth c 6 3 A ad0 N N RX N RX 0 [(0, .ref 0), (1, .int x1), (2, .int x2)] [] m (X11_houses  x1 x2 m) := by
  rw [X11_houses]
  refine V.iload_n (pc := 0) C dX11_houses_0 1 rfl ?_
  refine V.iconst (pc := 1) C dX11_houses_1 (v := 1) (by decide) ?_
  refine V.icmp_lt (pc := 2) C dX11_houses_2 21 (by decide) (fun _ => ?_) (fun _ => ?_)
  · refine V.bipush (pc := 21) C dX11_houses_21 (v := (-3)) (by decide) ?_
    exact V.iret C dX11_houses_23
  · refine V.iload_n (pc := 5) C dX11_houses_5 1 rfl ?_
    refine V.bipush (pc := 6) C dX11_houses_6 (v := 8) (by decide) ?_
    refine V.icmp_gt (pc := 8) C dX11_houses_8 21 (by decide) (fun _ => ?_) (fun _ => ?_)
    · refine V.bipush (pc := 21) C dX11_houses_21 (v := (-3)) (by decide) ?_
      exact V.iret C dX11_houses_23
    · refine V.iload_n (pc := 11) C dX11_houses_11 2 rfl ?_
      refine V.if_lt (pc := 12) C dX11_houses_12 21 (by decide) (fun _ => ?_) (fun _ => ?_)
      · refine V.bipush (pc := 21) C dX11_houses_21 (v := (-3)) (by decide) ?_
        exact V.iret C dX11_houses_23
      · refine V.iload_n (pc := 15) C dX11_houses_15 2 rfl ?_
        refine V.bipush (pc := 16) C dX11_houses_16 (v := 14) (by decide) ?_
        refine V.icmp_le (pc := 18) C dX11_houses_18 24 (by decide) (fun _ => ?_) (fun _ => ?_)
        · refine V.iconst (pc := 24) C dX11_houses_24 (v := 0) (by decide) ?_
          refine V.istore_n (pc := 25) C dX11_houses_25 (L2 := [(3, .int 0), (0, .ref 0), (1, .int x1), (2, .int x2)]) (by decide) rfl ?_
          refine V.aload_n (pc := 26) C dX11_houses_26 1 rfl ?_
          refine V.getr (pc := 27) C fl_RX11_16 sX0 (kX0 hN) rfl rX0_3 dX11_houses_27 ?_
          refine V.callV (pc := 30) (st := []) C (c_X8_everybody l hN 2 (iX2 hN) m) obI ck_X8_everybody ml_RX11_265 rfl rfl sX2 (kX2 hN) rfl rfl (Nat.le_of_ble_eq_true rfl) ⟨by decide, by decide⟩ dX11_houses_30 (fun r_1 m_2 _ => ?_)
          refine V.istore (pc := 33) C dX11_houses_33 (L2 := [(4, .int r_1), (3, .int 0), (0, .ref 0), (1, .int x1), (2, .int x2)]) (by decide) rfl ?_
          refine V.iconst (pc := 35) C dX11_houses_35 (v := 1) (by decide) ?_
          refine V.istore (pc := 36) C dX11_houses_36 (L2 := [(5, .int 1), (4, .int r_1), (3, .int 0), (0, .ref 0), (1, .int x1), (2, .int x2)]) (by decide) rfl ?_
          refine V.wk [3, 4, 5, 2, 1, 0] rfl ?_
          exact v_X11_houses_b38 C hN FU x1 x2 0 r_1 1 m_2
        · refine V.bipush (pc := 21) C dX11_houses_21 (v := (-3)) (by decide) ?_
          exact V.iret C dX11_houses_23
theorem c_X11_houses (l : Launch) {N : Nat} (hN : 109 ≤ N) (x1 : Int32) (x2 : Int32) (m : Mem) : Ct l yX11_houses cX11_houses 6 (some .int) 3 SX oI N N RX RX [.ref 0, .int x1, .int x2] m (X11_houses  x1 x2 m) :=
  Ct.of (own := RX11) (nm := "houses") (by decide) rfl rfl (Nat.le_of_ble_eq_true rfl) (fun _ _ _ _ _ _ _ _ _ _ _ C => v_X11_houses C hN x1 x2 m)
theorem dX11_isImage_0 : decode cX11_isImage 0 = .ok (.iload_n 0, 1) := by decide +kernel
theorem dX11_isImage_1 : decode cX11_isImage 1 = .ok (.ifCond .lt 12, 3) := by decide +kernel
theorem dX11_isImage_4 : decode cX11_isImage 4 = .ok (.iload_n 0, 1) := by decide +kernel
theorem dX11_isImage_5 : decode cX11_isImage 5 = .ok (.iconst 2, 1) := by decide +kernel
theorem dX11_isImage_6 : decode cX11_isImage 6 = .ok (.if_icmp .ge 7, 3) := by decide +kernel
theorem dX11_isImage_9 : decode cX11_isImage 9 = .ok (.iconst 1, 1) := by decide +kernel
theorem dX11_isImage_10 : decode cX11_isImage 10 = .ok (.goto 4, 3) := by decide +kernel
theorem dX11_isImage_13 : decode cX11_isImage 13 = .ok (.iconst 0, 1) := by decide +kernel
theorem dX11_isImage_14 : decode cX11_isImage 14 = .ok (.ireturn, 1) := by decide +kernel
set_option maxRecDepth 100000 in
set_option maxHeartbeats 4000000 in
theorem v_X11_isImage {l : Launch} {p : Program} {e : Env} {s : State} {mt : MethodId} {args : Array Value} {below : List Frame} {meth : Method} {c : Code} {A : Nat → Prop} {ad0 : Nat → Nat} {G : Gt} {N : Nat} (C : Cx G p s mt args meth c RX11 cX11_isImage 1 (some .boolean) "isImage" A) (hN : 109 ≤ N) (x1 : Int32) (m : Mem) : V G SX oI l p e s mt args below meth c 1 1 A ad0 N N RX N RX 0 [(0, .int x1)] [] m (X11_isImage  x1 m) := by
  rw [X11_isImage]
  refine V.iload_n (pc := 0) C dX11_isImage_0 0 rfl ?_
  refine V.if_lt (pc := 1) C dX11_isImage_1 13 (by decide) (fun _ => ?_) (fun _ => ?_)
  · refine V.iconst (pc := 13) C dX11_isImage_13 (v := 0) (by decide) ?_
    exact V.zret rfl C dX11_isImage_14
  · refine V.iload_n (pc := 4) C dX11_isImage_4 0 rfl ?_
    refine V.iconst (pc := 5) C dX11_isImage_5 (v := 2) (by decide) ?_
    refine V.icmp_ge (pc := 6) C dX11_isImage_6 13 (by decide) (fun _ => ?_) (fun _ => ?_)
    · refine V.iconst (pc := 13) C dX11_isImage_13 (v := 0) (by decide) ?_
      exact V.zret rfl C dX11_isImage_14
    · refine V.iconst (pc := 9) C dX11_isImage_9 (v := 1) (by decide) ?_
      refine V.goto (pc := 10) C dX11_isImage_10 14 (by decide) ?_
      exact V.zret rfl C dX11_isImage_14
theorem c_X11_isImage (l : Launch) {N : Nat} (hN : 109 ≤ N) (x1 : Int32) (m : Mem) : Ct l yX11_isImage cX11_isImage 1 (some .boolean) 1 SX oI N N RX RX [.int x1] m (X11_isImage  x1 m) :=
  Ct.of (own := RX11) (nm := "isImage") (by decide) rfl rfl (Nat.le_of_ble_eq_true rfl) (fun _ _ _ _ _ _ _ _ _ _ _ C => v_X11_isImage C hN x1 m)
theorem dX11_isMatchingQuestion_0 : decode cX11_isMatchingQuestion 0 = .ok (.iload_n 1, 1) := by decide +kernel
theorem dX11_isMatchingQuestion_1 : decode cX11_isMatchingQuestion 1 = .ok (.invokestatic 315, 3) := by decide +kernel
theorem dX11_isMatchingQuestion_4 : decode cX11_isMatchingQuestion 4 = .ok (.ifCond .ne 23, 3) := by decide +kernel
theorem dX11_isMatchingQuestion_7 : decode cX11_isMatchingQuestion 7 = .ok (.iload_n 1, 1) := by decide +kernel
theorem dX11_isMatchingQuestion_8 : decode cX11_isMatchingQuestion 8 = .ok (.bipush 10, 2) := by decide +kernel
theorem dX11_isMatchingQuestion_10 : decode cX11_isMatchingQuestion 10 = .ok (.if_icmp .lt 21, 3) := by decide +kernel
theorem dX11_isMatchingQuestion_13 : decode cX11_isMatchingQuestion 13 = .ok (.aload_n 0, 1) := by decide +kernel
theorem dX11_isMatchingQuestion_14 : decode cX11_isMatchingQuestion 14 = .ok (.getfield 38, 3) := by decide +kernel
theorem dX11_isMatchingQuestion_17 : decode cX11_isMatchingQuestion 17 = .ok (.iload_n 1, 1) := by decide +kernel
theorem dX11_isMatchingQuestion_18 : decode cX11_isMatchingQuestion 18 = .ok (.bipush 10, 2) := by decide +kernel
theorem dX11_isMatchingQuestion_20 : decode cX11_isMatchingQuestion 20 = .ok (.isub, 1) := by decide +kernel
theorem dX11_isMatchingQuestion_21 : decode cX11_isMatchingQuestion 21 = .ok (.invokevirtual 123, 3) := by decide +kernel
theorem dX11_isMatchingQuestion_24 : decode cX11_isMatchingQuestion 24 = .ok (.ifCond .eq 7, 3) := by decide +kernel
theorem dX11_isMatchingQuestion_27 : decode cX11_isMatchingQuestion 27 = .ok (.iconst 1, 1) := by decide +kernel
theorem dX11_isMatchingQuestion_28 : decode cX11_isMatchingQuestion 28 = .ok (.goto 4, 3) := by decide +kernel
theorem dX11_isMatchingQuestion_31 : decode cX11_isMatchingQuestion 31 = .ok (.iconst 0, 1) := by decide +kernel
theorem dX11_isMatchingQuestion_32 : decode cX11_isMatchingQuestion 32 = .ok (.ireturn, 1) := by decide +kernel
set_option maxRecDepth 100000 in
set_option maxHeartbeats 4000000 in
theorem v_X11_isMatchingQuestion {l : Launch} {p : Program} {e : Env} {s : State} {mt : MethodId} {args : Array Value} {below : List Frame} {meth : Method} {c : Code} {A : Nat → Prop} {ad0 : Nat → Nat} {G : Gt} {N : Nat} (C : Cx G p s mt args meth c RX11 cX11_isMatchingQuestion 2 (some .boolean) "isMatchingQuestion" A) (hN : 109 ≤ N) (x1 : Int32) (m : Mem) : V G SX oI l p e s mt args below meth c 2 2 A ad0 N N RX N RX 0 [(0, .ref 0), (1, .int x1)] [] m (X11_isMatchingQuestion  x1 m) := by
  rw [X11_isMatchingQuestion]
  refine V.iload_n (pc := 0) C dX11_isMatchingQuestion_0 1 rfl ?_
  refine V.callS (pc := 1) (st := []) C (c_X11_isEither l hN x1 m) obI ck_X11_isEither ml_RX11_315 rfl rfl (Nat.le_of_ble_eq_true rfl) ⟨by decide, by decide⟩ dX11_isMatchingQuestion_1 (fun r_1 m_2 _ => ?_)
  refine V.if_ne (pc := 4) C dX11_isMatchingQuestion_4 27 (by decide) (fun _ => ?_) (fun _ => ?_)
  · refine V.iconst (pc := 27) C dX11_isMatchingQuestion_27 (v := 1) (by decide) ?_
    refine V.goto (pc := 28) C dX11_isMatchingQuestion_28 32 (by decide) ?_
    exact V.zret rfl C dX11_isMatchingQuestion_32
  · refine V.iload_n (pc := 7) C dX11_isMatchingQuestion_7 1 rfl ?_
    refine V.bipush (pc := 8) C dX11_isMatchingQuestion_8 (v := 10) (by decide) ?_
    refine V.icmp_lt (pc := 10) C dX11_isMatchingQuestion_10 31 (by decide) (fun _ => ?_) (fun _ => ?_)
    · refine V.iconst (pc := 31) C dX11_isMatchingQuestion_31 (v := 0) (by decide) ?_
      exact V.zret rfl C dX11_isMatchingQuestion_32
    · refine V.aload_n (pc := 13) C dX11_isMatchingQuestion_13 0 rfl ?_
      refine V.getr (pc := 14) C fl_RX11_38 sX0 (kX0 hN) rfl rX0_6 dX11_isMatchingQuestion_14 ?_
      refine V.iload_n (pc := 17) C dX11_isMatchingQuestion_17 1 rfl ?_
      refine V.bipush (pc := 18) C dX11_isMatchingQuestion_18 (v := 10) (by decide) ?_
      refine V.isub (pc := 20) C dX11_isMatchingQuestion_20 ?_
      refine V.callV (pc := 21) (st := []) C (c_X10_isPerson l hN 25 (iX25 hN) (x1 - 10) m_2) obI ck_X10_isPerson ml_RX11_123 rfl rfl sX25 (kX25 hN) rfl rfl (Nat.le_of_ble_eq_true rfl) ⟨by decide, by decide⟩ dX11_isMatchingQuestion_21 (fun r_3 m_4 _ => ?_)
      refine V.if_eq (pc := 24) C dX11_isMatchingQuestion_24 31 (by decide) (fun _ => ?_) (fun _ => ?_)
      · refine V.iconst (pc := 31) C dX11_isMatchingQuestion_31 (v := 0) (by decide) ?_
        exact V.zret rfl C dX11_isMatchingQuestion_32
      · refine V.iconst (pc := 27) C dX11_isMatchingQuestion_27 (v := 1) (by decide) ?_
        refine V.goto (pc := 28) C dX11_isMatchingQuestion_28 32 (by decide) ?_
        exact V.zret rfl C dX11_isMatchingQuestion_32
theorem c_X11_isMatchingQuestion (l : Launch) {N : Nat} (hN : 109 ≤ N) (x1 : Int32) (m : Mem) : Ct l yX11_isMatchingQuestion cX11_isMatchingQuestion 2 (some .boolean) 2 SX oI N N RX RX [.ref 0, .int x1] m (X11_isMatchingQuestion  x1 m) :=
  Ct.of (own := RX11) (nm := "isMatchingQuestion") (by decide) rfl rfl (Nat.le_of_ble_eq_true rfl) (fun _ _ _ _ _ _ _ _ _ _ _ C => v_X11_isMatchingQuestion C hN x1 m)
theorem dX11_isTray_0 : decode cX11_isTray 0 = .ok (.iload_n 0, 1) := by decide +kernel
theorem dX11_isTray_1 : decode cX11_isTray 1 = .ok (.ifCond .lt 12, 3) := by decide +kernel
theorem dX11_isTray_4 : decode cX11_isTray 4 = .ok (.iload_n 0, 1) := by decide +kernel
theorem dX11_isTray_5 : decode cX11_isTray 5 = .ok (.iconst 4, 1) := by decide +kernel
theorem dX11_isTray_6 : decode cX11_isTray 6 = .ok (.if_icmp .ge 7, 3) := by decide +kernel
theorem dX11_isTray_9 : decode cX11_isTray 9 = .ok (.iconst 1, 1) := by decide +kernel
theorem dX11_isTray_10 : decode cX11_isTray 10 = .ok (.goto 4, 3) := by decide +kernel
theorem dX11_isTray_13 : decode cX11_isTray 13 = .ok (.iconst 0, 1) := by decide +kernel
theorem dX11_isTray_14 : decode cX11_isTray 14 = .ok (.ireturn, 1) := by decide +kernel
set_option maxRecDepth 100000 in
set_option maxHeartbeats 4000000 in
theorem v_X11_isTray {l : Launch} {p : Program} {e : Env} {s : State} {mt : MethodId} {args : Array Value} {below : List Frame} {meth : Method} {c : Code} {A : Nat → Prop} {ad0 : Nat → Nat} {G : Gt} {N : Nat} (C : Cx G p s mt args meth c RX11 cX11_isTray 1 (some .boolean) "isTray" A) (hN : 109 ≤ N) (x1 : Int32) (m : Mem) : V G SX oI l p e s mt args below meth c 1 1 A ad0 N N RX N RX 0 [(0, .int x1)] [] m (X11_isTray  x1 m) := by
  rw [X11_isTray]
  refine V.iload_n (pc := 0) C dX11_isTray_0 0 rfl ?_
  refine V.if_lt (pc := 1) C dX11_isTray_1 13 (by decide) (fun _ => ?_) (fun _ => ?_)
  · refine V.iconst (pc := 13) C dX11_isTray_13 (v := 0) (by decide) ?_
    exact V.zret rfl C dX11_isTray_14
  · refine V.iload_n (pc := 4) C dX11_isTray_4 0 rfl ?_
    refine V.iconst (pc := 5) C dX11_isTray_5 (v := 4) (by decide) ?_
    refine V.icmp_ge (pc := 6) C dX11_isTray_6 13 (by decide) (fun _ => ?_) (fun _ => ?_)
    · refine V.iconst (pc := 13) C dX11_isTray_13 (v := 0) (by decide) ?_
      exact V.zret rfl C dX11_isTray_14
    · refine V.iconst (pc := 9) C dX11_isTray_9 (v := 1) (by decide) ?_
      refine V.goto (pc := 10) C dX11_isTray_10 14 (by decide) ?_
      exact V.zret rfl C dX11_isTray_14
theorem c_X11_isTray (l : Launch) {N : Nat} (hN : 109 ≤ N) (x1 : Int32) (m : Mem) : Ct l yX11_isTray cX11_isTray 1 (some .boolean) 1 SX oI N N RX RX [.int x1] m (X11_isTray  x1 m) :=
  Ct.of (own := RX11) (nm := "isTray") (by decide) rfl rfl (Nat.le_of_ble_eq_true rfl) (fun _ _ _ _ _ _ _ _ _ _ _ C => v_X11_isTray C hN x1 m)
theorem dX11_rehearse_0 : decode cX11_rehearse 0 = .ok (.aload_n 0, 1) := by decide +kernel
theorem dX11_rehearse_1 : decode cX11_rehearse 1 = .ok (.getfield 42, 3) := by decide +kernel
theorem dX11_rehearse_4 : decode cX11_rehearse 4 = .ok (.getfield 108, 3) := by decide +kernel
theorem dX11_rehearse_7 : decode cX11_rehearse 7 = .ok (.aload_n 0, 1) := by decide +kernel
theorem dX11_rehearse_8 : decode cX11_rehearse 8 = .ok (.getfield 38, 3) := by decide +kernel
theorem dX11_rehearse_11 : decode cX11_rehearse 11 = .ok (.getfield 108, 3) := by decide +kernel
theorem dX11_rehearse_14 : decode cX11_rehearse 14 = .ok (.invokevirtual 111, 3) := by decide +kernel
theorem dX11_rehearse_17 : decode cX11_rehearse 17 = .ok (.aload_n 0, 1) := by decide +kernel
theorem dX11_rehearse_18 : decode cX11_rehearse 18 = .ok (.getfield 42, 3) := by decide +kernel
theorem dX11_rehearse_21 : decode cX11_rehearse 21 = .ok (.iconst 0, 1) := by decide +kernel
theorem dX11_rehearse_22 : decode cX11_rehearse 22 = .ok (.putfield 234, 3) := by decide +kernel
theorem dX11_rehearse_25 : decode cX11_rehearse 25 = .ok (.iconst 0, 1) := by decide +kernel
theorem dX11_rehearse_26 : decode cX11_rehearse 26 = .ok (.istore_n 2, 1) := by decide +kernel
theorem dX11_rehearse_27 : decode cX11_rehearse 27 = .ok (.iload_n 2, 1) := by decide +kernel
theorem dX11_rehearse_28 : decode cX11_rehearse 28 = .ok (.aload_n 1, 1) := by decide +kernel
theorem dX11_rehearse_29 : decode cX11_rehearse 29 = .ok (.getfield 348, 3) := by decide +kernel
theorem dX11_rehearse_32 : decode cX11_rehearse 32 = .ok (.if_icmp .ge 41, 3) := by decide +kernel
theorem dX11_rehearse_35 : decode cX11_rehearse 35 = .ok (.aload_n 0, 1) := by decide +kernel
theorem dX11_rehearse_36 : decode cX11_rehearse 36 = .ok (.getfield 42, 3) := by decide +kernel
theorem dX11_rehearse_39 : decode cX11_rehearse 39 = .ok (.aload_n 0, 1) := by decide +kernel
theorem dX11_rehearse_40 : decode cX11_rehearse 40 = .ok (.getfield 42, 3) := by decide +kernel
theorem dX11_rehearse_43 : decode cX11_rehearse 43 = .ok (.aload_n 1, 1) := by decide +kernel
theorem dX11_rehearse_44 : decode cX11_rehearse 44 = .ok (.getfield 353, 3) := by decide +kernel
theorem dX11_rehearse_47 : decode cX11_rehearse 47 = .ok (.iload_n 2, 1) := by decide +kernel
theorem dX11_rehearse_48 : decode cX11_rehearse 48 = .ok (.laload, 1) := by decide +kernel
theorem dX11_rehearse_49 : decode cX11_rehearse 49 = .ok (.invokevirtual 258, 3) := by decide +kernel
theorem dX11_rehearse_52 : decode cX11_rehearse 52 = .ok (.putfield 234, 3) := by decide +kernel
theorem dX11_rehearse_55 : decode cX11_rehearse 55 = .ok (.aload_n 0, 1) := by decide +kernel
theorem dX11_rehearse_56 : decode cX11_rehearse 56 = .ok (.getfield 42, 3) := by decide +kernel
theorem dX11_rehearse_59 : decode cX11_rehearse 59 = .ok (.getfield 234, 3) := by decide +kernel
theorem dX11_rehearse_62 : decode cX11_rehearse 62 = .ok (.ifCond .eq 5, 3) := by decide +kernel
theorem dX11_rehearse_65 : decode cX11_rehearse 65 = .ok (.iload_n 2, 1) := by decide +kernel
theorem dX11_rehearse_66 : decode cX11_rehearse 66 = .ok (.ireturn, 1) := by decide +kernel
theorem dX11_rehearse_67 : decode cX11_rehearse 67 = .ok (.iinc 2 1, 3) := by decide +kernel
theorem dX11_rehearse_70 : decode cX11_rehearse 70 = .ok (.goto (-43), 3) := by decide +kernel
theorem dX11_rehearse_73 : decode cX11_rehearse 73 = .ok (.aload_n 1, 1) := by decide +kernel
theorem dX11_rehearse_74 : decode cX11_rehearse 74 = .ok (.getfield 348, 3) := by decide +kernel
theorem dX11_rehearse_77 : decode cX11_rehearse 77 = .ok (.ireturn, 1) := by decide +kernel
set_option maxRecDepth 100000 in
set_option maxHeartbeats 4000000 in
theorem v_X11_rehearse_b27 {l : Launch} {p : Program} {e : Env} {s : State} {mt : MethodId} {args : Array Value} {below : List Frame} {meth : Method} {c : Code} {A : Nat → Prop} {ad0 : Nat → Nat} {G : Gt} {N : Nat} (C : Cx G p s mt args meth c RX11 cX11_rehearse 3 (some .int) "rehearse" A) (hN : 109 ≤ N) (b1 : Nat) (hb1 : isTray N b1) : ∀ (n : Nat) (y2 : Int32) (m : Mem), V G SX oI l p e s mt args below meth c 3 7 A ad0 N N RX N RX 27 [(0, .ref 0), (1, .ref b1), (2, .int y2)] [] m (X11_rehearse_b27 b1 n y2 m) := by
  intro n
  induction n with
  | zero =>
    intro y2 m
    rw [X11_rehearse_b27]
    exact V.nil
  | succ n ih =>
    intro y2 m
    rw [X11_rehearse_b27]
    refine V.iload_n (pc := 27) C dX11_rehearse_27 2 rfl ?_
    refine V.aload_n (pc := 28) C dX11_rehearse_28 1 rfl ?_
    refine V.geti (pc := 29) C fl_RX11_348 hb1.s hb1.k rfl dX11_rehearse_29 ?_
    refine V.icmp_ge (pc := 32) C dX11_rehearse_32 73 (by decide) (fun _ => ?_) (fun _ => ?_)
    · refine V.aload_n (pc := 73) C dX11_rehearse_73 1 rfl ?_
      refine V.geti (pc := 74) C fl_RX11_348 hb1.s hb1.k rfl dX11_rehearse_74 ?_
      exact V.iret C dX11_rehearse_77
    · refine V.aload_n (pc := 35) C dX11_rehearse_35 0 rfl ?_
      refine V.getr (pc := 36) C fl_RX11_42 sX0 (kX0 hN) rfl rX0_7 dX11_rehearse_36 ?_
      refine V.aload_n (pc := 39) C dX11_rehearse_39 0 rfl ?_
      refine V.getr (pc := 40) C fl_RX11_42 sX0 (kX0 hN) rfl rX0_7 dX11_rehearse_40 ?_
      refine V.aload_n (pc := 43) C dX11_rehearse_43 1 rfl ?_
      refine V.getr (pc := 44) C fl_RX11_353 hb1.s hb1.k rfl hb1.r3 dX11_rehearse_44 ?_
      refine V.iload_n (pc := 47) C dX11_rehearse_47 2 rfl ?_
      refine V.lald (pc := 48) C hb1.s1 hb1.k1 dX11_rehearse_48 (fun _ => ?_)
      refine V.callV (pc := 49) (st := [.ref 32]) C (c_X10_attempt l hN 32 (iX32 hN) (gl m (b1 + 1) (ix y2)) m) obI ck_X10_attempt ml_RX11_258 rfl rfl sX32 (kX32 hN) rfl rfl (Nat.le_of_ble_eq_true rfl) ⟨by decide, by decide⟩ dX11_rehearse_49 (fun r_4 m_5 _ => ?_)
      refine V.puti (pc := 52) C fp_RX11_234 sX32 (kX32 hN) rfl dX11_rehearse_52 ?_
      refine V.ltm (fun m_6 => ?_)
      refine V.aload_n (pc := 55) C dX11_rehearse_55 0 rfl ?_
      refine V.getr (pc := 56) C fl_RX11_42 sX0 (kX0 hN) rfl rX0_7 dX11_rehearse_56 ?_
      refine V.geti (pc := 59) C fl_RX11_234 sX32 (kX32 hN) rfl dX11_rehearse_59 ?_
      refine V.if_eq (pc := 62) C dX11_rehearse_62 67 (by decide) (fun _ => ?_) (fun _ => ?_)
      · refine V.iinc (pc := 67) C dX11_rehearse_67 (v := 1) (L2 := [(2, .int (y2 + 1)), (0, .ref 0), (1, .ref b1)]) 2 rfl (by decide) (by decide) rfl ?_
        refine V.goto (pc := 70) C dX11_rehearse_70 27 (by decide) ?_
        refine V.wk [1, 2, 0] rfl ?_
        exact ih (y2 + 1) m_6
      · refine V.iload_n (pc := 65) C dX11_rehearse_65 2 rfl ?_
        exact V.iret C dX11_rehearse_66
set_option maxRecDepth 100000 in
set_option maxHeartbeats 4000000 in
theorem v_X11_rehearse {l : Launch} {p : Program} {e : Env} {s : State} {mt : MethodId} {args : Array Value} {below : List Frame} {meth : Method} {c : Code} {A : Nat → Prop} {ad0 : Nat → Nat} {G : Gt} {N : Nat} (C : Cx G p s mt args meth c RX11 cX11_rehearse 3 (some .int) "rehearse" A) (hN : 109 ≤ N) (b1 : Nat) (hb1 : isTray N b1) (m : Mem) : V G SX oI l p e s mt args below meth c 3 7 A ad0 N N RX N RX 0 [(0, .ref 0), (1, .ref b1)] [] m (X11_rehearse b1  m) := by
  rw [X11_rehearse]
  refine V.aload_n (pc := 0) C dX11_rehearse_0 0 rfl ?_
  refine V.getr (pc := 1) C fl_RX11_42 sX0 (kX0 hN) rfl rX0_7 dX11_rehearse_1 ?_
  refine V.getr (pc := 4) C fl_RX11_108 sX32 (kX32 hN) rfl rX32_2 dX11_rehearse_4 ?_
  refine V.aload_n (pc := 7) C dX11_rehearse_7 0 rfl ?_
  refine V.getr (pc := 8) C fl_RX11_38 sX0 (kX0 hN) rfl rX0_6 dX11_rehearse_8 ?_
  refine V.getr (pc := 11) C fl_RX11_108 sX25 (kX25 hN) rfl rX25_2 dX11_rehearse_11 ?_
  refine V.callV (pc := 14) (st := []) C (c_X5_become l hN 33 (iX33 hN) 26 (iX26 hN) m) obV ck_X5_become ml_RX11_111 rfl rfl sX33 (kX33 hN) rfl rfl (Nat.le_of_ble_eq_true rfl) ⟨by decide, by decide⟩ dX11_rehearse_14 (fun r_1 m_2 _ => ?_)
  refine V.aload_n (pc := 17) C dX11_rehearse_17 0 rfl ?_
  refine V.getr (pc := 18) C fl_RX11_42 sX0 (kX0 hN) rfl rX0_7 dX11_rehearse_18 ?_
  refine V.iconst (pc := 21) C dX11_rehearse_21 (v := 0) (by decide) ?_
  refine V.puti (pc := 22) C fp_RX11_234 sX32 (kX32 hN) rfl dX11_rehearse_22 ?_
  refine V.ltm (fun m_3 => ?_)
  refine V.iconst (pc := 25) C dX11_rehearse_25 (v := 0) (by decide) ?_
  refine V.istore_n (pc := 26) C dX11_rehearse_26 (L2 := [(2, .int 0), (0, .ref 0), (1, .ref b1)]) (by decide) rfl ?_
  refine V.wk [1, 2, 0] rfl ?_
  exact v_X11_rehearse_b27 C hN b1 hb1 FU 0 m_3
theorem c_X11_rehearse (l : Launch) {N : Nat} (hN : 109 ≤ N) (b1 : Nat) (hb1 : isTray N b1) (m : Mem) : Ct l yX11_rehearse cX11_rehearse 3 (some .int) 7 SX oI N N RX RX [.ref 0, .ref b1] m (X11_rehearse b1  m) :=
  Ct.of (own := RX11) (nm := "rehearse") (by decide) rfl rfl (Nat.le_of_ble_eq_true rfl) (fun _ _ _ _ _ _ _ _ _ _ _ C => v_X11_rehearse C hN b1 hb1  m)
