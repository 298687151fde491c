theorem fl_RX11_370 : Fl RX11 370 3 0 := ⟨_, okX3, by decide, gtb_in (List.mem_of_getElem? (i := 1268) (by decide +kernel)) rfl⟩
theorem fl_RX11_371 : Fl RX11 371 3 1 := ⟨_, okX3, by decide, gtb_in (List.mem_of_getElem? (i := 1270) (by decide +kernel)) rfl⟩
theorem fl_RX11_86 : Fl RX11 86 11 13 := ⟨_, okX11, by decide, gtb_in (List.mem_of_getElem? (i := 461) (by decide +kernel)) rfl⟩
theorem ml_RX11_366 : Cond.methodLink RX11 366 yX11_isImage ∈ gtb := gtb_in (List.mem_of_getElem? (i := 1255) (by decide +kernel)) rfl
theorem ck_X11_isImage : CkS yX11_isImage cX11_isImage 1 (some .boolean) 1 := ⟨⟨gtb_in (List.mem_of_getElem? (i := 106) (by decide +kernel)) rfl, gtb_in (List.mem_of_getElem? (i := 1257) (by decide +kernel)) rfl, by decide +kernel⟩, gtb_in (List.mem_of_getElem? (i := 1256) (by decide +kernel)) rfl⟩
def X11_restore (N : Nat) (x1 : Int32) (m : Mem) : Option (Int32 × Mem) :=
  bnd (X11_isImage x1 m) fun r_1 m_2 =>
  if r_1 = 0 then
    (some ((-2), m_2))
  else
    (chk (inb x1 2) <|
    if (gi m_2 108 (ix x1)) = 0 then
      (some ((-5), m_2))
    else
      (chk (oki N (gi m_2 108 (ix x1))) <|
      lt (ix (gi m_2 108 (ix x1))) fun b_4 =>
      chk (inb x1 2) <|
      if (gi m_2 108 (ix x1)) = 0 then
        (none)
      else
        (chk (oki N (gi m_2 108 (ix x1))) <|
        lt (ix (gi m_2 108 (ix x1))) fun b_8 =>
        bnd (X8_become 2 (b_8 + 1) m_2) fun _ m_12 =>
        chk (inb x1 2) <|
        if (gi m_12 108 (ix x1)) = 0 then
          (none)
        else
          (chk (oki N (gi m_12 108 (ix x1))) <|
          lt (ix (gi m_12 108 (ix x1))) fun b_14 =>
          bnd (X5_become 26 (b_14 + 8) m_12) fun _ m_18 =>
          bnd (X2_forget  m_18) fun _ m_20 =>
          some (0, m_20)))))
theorem dX11_restore_0 : decode cX11_restore 0 = .ok (.iload_n 1, 1) := by decide +kernel
theorem dX11_restore_1 : decode cX11_restore 1 = .ok (.invokestatic 366, 3) := by decide +kernel
theorem dX11_restore_4 : decode cX11_restore 4 = .ok (.ifCond .ne 6, 3) := by decide +kernel
theorem dX11_restore_7 : decode cX11_restore 7 = .ok (.bipush (-2), 2) := by decide +kernel
theorem dX11_restore_9 : decode cX11_restore 9 = .ok (.ireturn, 1) := by decide +kernel
theorem dX11_restore_10 : decode cX11_restore 10 = .ok (.aload_n 0, 1) := by decide +kernel
theorem dX11_restore_11 : decode cX11_restore 11 = .ok (.getfield 86, 3) := by decide +kernel
theorem dX11_restore_14 : decode cX11_restore 14 = .ok (.iload_n 1, 1) := by decide +kernel
theorem dX11_restore_15 : decode cX11_restore 15 = .ok (.aaload, 1) := by decide +kernel
theorem dX11_restore_16 : decode cX11_restore 16 = .ok (.ifnonnull 6, 3) := by decide +kernel
theorem dX11_restore_19 : decode cX11_restore 19 = .ok (.bipush (-5), 2) := by decide +kernel
theorem dX11_restore_21 : decode cX11_restore 21 = .ok (.ireturn, 1) := by decide +kernel
theorem dX11_restore_22 : decode cX11_restore 22 = .ok (.aload_n 0, 1) := by decide +kernel
theorem dX11_restore_23 : decode cX11_restore 23 = .ok (.getfield 16, 3) := by decide +kernel
theorem dX11_restore_26 : decode cX11_restore 26 = .ok (.aload_n 0, 1) := by decide +kernel
theorem dX11_restore_27 : decode cX11_restore 27 = .ok (.getfield 86, 3) := by decide +kernel
theorem dX11_restore_30 : decode cX11_restore 30 = .ok (.iload_n 1, 1) := by decide +kernel
theorem dX11_restore_31 : decode cX11_restore 31 = .ok (.aaload, 1) := by decide +kernel
theorem dX11_restore_32 : decode cX11_restore 32 = .ok (.getfield 370, 3) := by decide +kernel
theorem dX11_restore_35 : decode cX11_restore 35 = .ok (.invokevirtual 104, 3) := by decide +kernel
theorem dX11_restore_38 : decode cX11_restore 38 = .ok (.aload_n 0, 1) := by decide +kernel
theorem dX11_restore_39 : decode cX11_restore 39 = .ok (.getfield 38, 3) := by decide +kernel
theorem dX11_restore_42 : decode cX11_restore 42 = .ok (.getfield 108, 3) := by decide +kernel
theorem dX11_restore_45 : decode cX11_restore 45 = .ok (.aload_n 0, 1) := by decide +kernel
theorem dX11_restore_46 : decode cX11_restore 46 = .ok (.getfield 86, 3) := by decide +kernel
theorem dX11_restore_49 : decode cX11_restore 49 = .ok (.iload_n 1, 1) := by decide +kernel
theorem dX11_restore_50 : decode cX11_restore 50 = .ok (.aaload, 1) := by decide +kernel
theorem dX11_restore_51 : decode cX11_restore 51 = .ok (.getfield 371, 3) := by decide +kernel
theorem dX11_restore_54 : decode cX11_restore 54 = .ok (.invokevirtual 111, 3) := by decide +kernel
theorem dX11_restore_57 : decode cX11_restore 57 = .ok (.aload_n 0, 1) := by decide +kernel
theorem dX11_restore_58 : decode cX11_restore 58 = .ok (.getfield 57, 3) := by decide +kernel
theorem dX11_restore_61 : decode cX11_restore 61 = .ok (.invokevirtual 114, 3) := by decide +kernel
theorem dX11_restore_64 : decode cX11_restore 64 = .ok (.iconst 0, 1) := by decide +kernel
theorem dX11_restore_65 : decode cX11_restore 65 = .ok (.ireturn, 1) := by decide +kernel
set_option maxRecDepth 100000 in
set_option maxHeartbeats 4000000 in
theorem v_X11_restore {l : Launch} {p : Program} {e : Env} {s : State} {mt : MethodId} {args : Array Value} {below : List Frame} {meth : Method} {c : Code} {A : Nat → Prop} {ad0 : Nat → Nat} {G : Gt}  (C : Cx G p s mt args meth c RX11 cX11_restore 2 (some .int) "restore" A) (N : Nat) (hN : 109 ≤ N) (x1 : Int32) (m : Mem) : V G SX oI l p e s mt args below meth c 2 4 A ad0 N N RX N RX 0 [(0, .ref 0), (1, .int x1)] [] m (X11_restore N x1 m) := by
  rw [X11_restore]
  refine V.iload_n (pc := 0) C dX11_restore_0 1 rfl ?_
  refine V.callS (pc := 1) (st := []) C (c_X11_isImage l hN x1 m) obI ck_X11_isImage ml_RX11_366 rfl rfl (Nat.le_of_ble_eq_true rfl) ⟨by decide, by decide⟩ dX11_restore_1 (fun r_1 m_2 _ => ?_)
  refine V.if_ne (pc := 4) C dX11_restore_4 10 (by decide) (fun _ => ?_) (fun _ => ?_)
  · refine V.aload_n (pc := 10) C dX11_restore_10 0 rfl ?_
    refine V.getr (pc := 11) C fl_RX11_86 sX0 (kX0 hN) rfl rX0_13 dX11_restore_11 ?_
    refine V.iload_n (pc := 14) C dX11_restore_14 1 rfl ?_
    refine V.ck (fun h_6 => ?_)
    refine V.br (fun h_3 => ?_) (fun h_3 => ?_)
    · refine V.aalN (pc := 15) C sX108 (kX108 hN) (by rw [dcr, if_pos h_3]) (inb_in h_6) dX11_restore_15 ?_
      refine V.ifnonnullN (pc := 16) C dX11_restore_16 ?_
      refine V.bipush (pc := 19) C dX11_restore_19 (v := (-5)) (by decide) ?_
      exact V.iret C dX11_restore_21
    · refine V.ck (fun h_5 => ?_)
      refine V.aalR (pc := 15) (b := ix (gi m_2 108 (ix x1))) C sX108 (kX108 hN) (oki_d h_5) (inb_in h_6) dX11_restore_15 ?_
      refine V.ltr (fun b_4 eb_4 => ?_)
      have hb_4 : isImage N b_4 := by rw [eb_4]; exact oki_img h_5
      refine V.ifnonnullR (pc := 16) C dX11_restore_16 22 (by decide) ?_
      refine V.aload_n (pc := 22) C dX11_restore_22 0 rfl ?_
      refine V.getr (pc := 23) C fl_RX11_16 sX0 (kX0 hN) rfl rX0_3 dX11_restore_23 ?_
      refine V.aload_n (pc := 26) C dX11_restore_26 0 rfl ?_
      refine V.getr (pc := 27) C fl_RX11_86 sX0 (kX0 hN) rfl rX0_13 dX11_restore_27 ?_
      refine V.iload_n (pc := 30) C dX11_restore_30 1 rfl ?_
      refine V.ck (fun h_10 => ?_)
      refine V.br (fun h_7 => ?_) (fun h_7 => ?_)
      · exact V.nil
      · refine V.ck (fun h_9 => ?_)
        refine V.aalR (pc := 31) (b := ix (gi m_2 108 (ix x1))) C sX108 (kX108 hN) (oki_d h_9) (inb_in h_10) dX11_restore_31 ?_
        refine V.ltr (fun b_8 eb_8 => ?_)
        have hb_8 : isImage N b_8 := by rw [eb_8]; exact oki_img h_9
        refine V.getr (pc := 32) C fl_RX11_370 hb_8.s hb_8.k rfl hb_8.r0 dX11_restore_32 ?_
        refine V.callV (pc := 35) (st := []) C (c_X8_become l hN 2 (iX2 hN) (b_8 + 1) hb_8.ru m_2) obV ck_X8_become ml_RX11_104 rfl rfl sX2 (kX2 hN) rfl rfl (Nat.le_of_ble_eq_true rfl) ⟨by decide, by decide⟩ dX11_restore_35 (fun r_11 m_12 _ => ?_)
        refine V.aload_n (pc := 38) C dX11_restore_38 0 rfl ?_
        refine V.getr (pc := 39) C fl_RX11_38 sX0 (kX0 hN) rfl rX0_6 dX11_restore_39 ?_
        refine V.getr (pc := 42) C fl_RX11_108 sX25 (kX25 hN) rfl rX25_2 dX11_restore_42 ?_
        refine V.aload_n (pc := 45) C dX11_restore_45 0 rfl ?_
        refine V.getr (pc := 46) C fl_RX11_86 sX0 (kX0 hN) rfl rX0_13 dX11_restore_46 ?_
        refine V.iload_n (pc := 49) C dX11_restore_49 1 rfl ?_
        refine V.ck (fun h_16 => ?_)
        refine V.br (fun h_13 => ?_) (fun h_13 => ?_)
        · exact V.nil
        · refine V.ck (fun h_15 => ?_)
          refine V.aalR (pc := 50) (b := ix (gi m_12 108 (ix x1))) C sX108 (kX108 hN) (oki_d h_15) (inb_in h_16) dX11_restore_50 ?_
          refine V.ltr (fun b_14 eb_14 => ?_)
          have hb_14 : isImage N b_14 := by rw [eb_14]; exact oki_img h_15
          refine V.getr (pc := 51) C fl_RX11_371 hb_14.s hb_14.k rfl hb_14.r1 dX11_restore_51 ?_
          refine V.callV (pc := 54) (st := []) C (c_X5_become l hN 26 (iX26 hN) (b_14 + 8) hb_14.li m_12) obV ck_X5_become ml_RX11_111 rfl rfl sX26 (kX26 hN) rfl rfl (Nat.le_of_ble_eq_true rfl) ⟨by decide, by decide⟩ dX11_restore_54 (fun r_17 m_18 _ => ?_)
          refine V.aload_n (pc := 57) C dX11_restore_57 0 rfl ?_
          refine V.getr (pc := 58) C fl_RX11_57 sX0 (kX0 hN) rfl rX0_9 dX11_restore_58 ?_
          refine V.callV (pc := 61) (st := []) C (c_X2_forget l hN m_18) obV ck_X2_forget ml_RX11_114 rfl rfl sX40 (kX40 hN) rfl rfl (Nat.le_of_ble_eq_true rfl) ⟨by decide, by decide⟩ dX11_restore_61 (fun r_19 m_20 _ => ?_)
          refine V.iconst (pc := 64) C dX11_restore_64 (v := 0) (by decide) ?_
          exact V.iret C dX11_restore_65
  · refine V.bipush (pc := 7) C dX11_restore_7 (v := (-2)) (by decide) ?_
    exact V.iret C dX11_restore_9
theorem c_X11_restore (l : Launch)  (N : Nat) (hN : 109 ≤ N) (x1 : Int32) (m : Mem) : Ct l yX11_restore cX11_restore 2 (some .int) 4 SX oI N N RX RX [.ref 0, .int x1] m (X11_restore N x1 m) :=
  Ct.of (own := RX11) (nm := "restore") (by decide) rfl rfl (Nat.le_of_ble_eq_true rfl) (fun _ _ _ _ _ _ _ _ _ _ _ C => v_X11_restore C N hN x1 m)
def X11_image_b32 (N : Nat) (y1 : Int32) (m : Mem) : Option (Int32 × Mem) :=
  chk (inb y1 2) <|
  if (gi m 108 (ix y1)) = 0 then
    (none)
  else
    (chk (oki N (gi m 108 (ix y1))) <|
    lt (ix (gi m 108 (ix y1))) fun b_8 =>
    bnd (X8_become (b_8 + 1) 2 m) fun _ m_12 =>
    chk (inb y1 2) <|
    if (gi m_12 108 (ix y1)) = 0 then
      (none)
    else
      (chk (oki N (gi m_12 108 (ix y1))) <|
      lt (ix (gi m_12 108 (ix y1))) fun b_14 =>
      bnd (X5_become (b_14 + 8) 26 m_12) fun _ m_18 =>
      some (0, m_18)))
def X11_image (N : Nat) (x1 : Int32) (m : Mem) : Option (Int32 × Mem) :=
  bnd (X11_isImage x1 m) fun r_1 m_2 =>
  if r_1 = 0 then
    (some ((-2), m_2))
  else
    (chk (inb x1 2) <|
    if (gi m_2 108 (ix x1)) = 0 then
      (none)
    else
      (chk (oki N (gi m_2 108 (ix x1))) <|
      lt (ix (gi m_2 108 (ix x1))) fun b_4 =>
      X11_image_b32 N x1 m_2))
theorem dX11_image_0 : decode cX11_image 0 = .ok (.iload_n 1, 1) := by decide +kernel
theorem dX11_image_1 : decode cX11_image 1 = .ok (.invokestatic 366, 3) := by decide +kernel
theorem dX11_image_4 : decode cX11_image 4 = .ok (.ifCond .ne 6, 3) := by decide +kernel
theorem dX11_image_7 : decode cX11_image 7 = .ok (.bipush (-2), 2) := by decide +kernel
theorem dX11_image_9 : decode cX11_image 9 = .ok (.ireturn, 1) := by decide +kernel
theorem dX11_image_10 : decode cX11_image 10 = .ok (.aload_n 0, 1) := by decide +kernel
theorem dX11_image_11 : decode cX11_image 11 = .ok (.getfield 86, 3) := by decide +kernel
theorem dX11_image_14 : decode cX11_image 14 = .ok (.iload_n 1, 1) := by decide +kernel
theorem dX11_image_15 : decode cX11_image 15 = .ok (.aaload, 1) := by decide +kernel
theorem dX11_image_16 : decode cX11_image 16 = .ok (.ifnonnull 16, 3) := by decide +kernel
theorem dX11_image_19 : decode cX11_image 19 = .ok (.aload_n 0, 1) := by decide +kernel
theorem dX11_image_20 : decode cX11_image 20 = .ok (.getfield 86, 3) := by decide +kernel
theorem dX11_image_23 : decode cX11_image 23 = .ok (.iload_n 1, 1) := by decide +kernel
theorem dX11_image_24 : decode cX11_image 24 = .ok (.new 84, 3) := by decide +kernel
theorem dX11_image_27 : decode cX11_image 27 = .ok (.dup, 1) := by decide +kernel
theorem dX11_image_28 : decode cX11_image 28 = .ok (.invokespecial 369, 3) := by decide +kernel
theorem dX11_image_31 : decode cX11_image 31 = .ok (.aastore, 1) := by decide +kernel
theorem dX11_image_32 : decode cX11_image 32 = .ok (.aload_n 0, 1) := by decide +kernel
theorem dX11_image_33 : decode cX11_image 33 = .ok (.getfield 86, 3) := by decide +kernel
theorem dX11_image_36 : decode cX11_image 36 = .ok (.iload_n 1, 1) := by decide +kernel
theorem dX11_image_37 : decode cX11_image 37 = .ok (.aaload, 1) := by decide +kernel
theorem dX11_image_38 : decode cX11_image 38 = .ok (.getfield 370, 3) := by decide +kernel
theorem dX11_image_41 : decode cX11_image 41 = .ok (.aload_n 0, 1) := by decide +kernel
theorem dX11_image_42 : decode cX11_image 42 = .ok (.getfield 16, 3) := by decide +kernel
theorem dX11_image_45 : decode cX11_image 45 = .ok (.invokevirtual 104, 3) := by decide +kernel
theorem dX11_image_48 : decode cX11_image 48 = .ok (.aload_n 0, 1) := by decide +kernel
theorem dX11_image_49 : decode cX11_image 49 = .ok (.getfield 86, 3) := by decide +kernel
theorem dX11_image_52 : decode cX11_image 52 = .ok (.iload_n 1, 1) := by decide +kernel
theorem dX11_image_53 : decode cX11_image 53 = .ok (.aaload, 1) := by decide +kernel
theorem dX11_image_54 : decode cX11_image 54 = .ok (.getfield 371, 3) := by decide +kernel
theorem dX11_image_57 : decode cX11_image 57 = .ok (.aload_n 0, 1) := by decide +kernel
theorem dX11_image_58 : decode cX11_image 58 = .ok (.getfield 38, 3) := by decide +kernel
theorem dX11_image_61 : decode cX11_image 61 = .ok (.getfield 108, 3) := by decide +kernel
theorem dX11_image_64 : decode cX11_image 64 = .ok (.invokevirtual 111, 3) := by decide +kernel
theorem dX11_image_67 : decode cX11_image 67 = .ok (.iconst 0, 1) := by decide +kernel
theorem dX11_image_68 : decode cX11_image 68 = .ok (.ireturn, 1) := by decide +kernel
set_option maxRecDepth 100000 in
set_option maxHeartbeats 4000000 in
theorem v_X11_image_b32 {l : Launch} {p : Program} {e : Env} {s : State} {mt : MethodId} {args : Array Value} {below : List Frame} {meth : Method} {c : Code} {A : Nat → Prop} {ad0 : Nat → Nat} {G : Gt}  (C : Cx G p s mt args meth c RX11 cX11_image 2 (some .int) "image" A) (N : Nat) (hN : 109 ≤ N) (y1 : Int32) (m : Mem) : V G SX oI l p e s mt args below meth c 2 4 A ad0 N N RX N RX 32 [(0, .ref 0), (1, .int y1)] [] m (X11_image_b32 N y1 m) := by
  rw [X11_image_b32]
  refine V.aload_n (pc := 32) C dX11_image_32 0 rfl ?_
  refine V.getr (pc := 33) C fl_RX11_86 sX0 (kX0 hN) rfl rX0_13 dX11_image_33 ?_
  refine V.iload_n (pc := 36) C dX11_image_36 1 rfl ?_
  refine V.ck (fun h_10 => ?_)
  refine V.br (fun h_7 => ?_) (fun h_7 => ?_)
  · exact V.nil
  · refine V.ck (fun h_9 => ?_)
    refine V.aalR (pc := 37) (b := ix (gi m 108 (ix y1))) C sX108 (kX108 hN) (oki_d h_9) (inb_in h_10) dX11_image_37 ?_
    refine V.ltr (fun b_8 eb_8 => ?_)
    have hb_8 : isImage N b_8 := by rw [eb_8]; exact oki_img h_9
    refine V.getr (pc := 38) C fl_RX11_370 hb_8.s hb_8.k rfl hb_8.r0 dX11_image_38 ?_
    refine V.aload_n (pc := 41) C dX11_image_41 0 rfl ?_
    refine V.getr (pc := 42) C fl_RX11_16 sX0 (kX0 hN) rfl rX0_3 dX11_image_42 ?_
    refine V.callV (pc := 45) (st := []) C (c_X8_become l hN (b_8 + 1) hb_8.ru 2 (iX2 hN) m) obV ck_X8_become ml_RX11_104 rfl rfl hb_8.ru.s hb_8.ru.k rfl rfl (Nat.le_of_ble_eq_true rfl) ⟨by decide, by decide⟩ dX11_image_45 (fun r_11 m_12 _ => ?_)
    refine V.aload_n (pc := 48) C dX11_image_48 0 rfl ?_
    refine V.getr (pc := 49) C fl_RX11_86 sX0 (kX0 hN) rfl rX0_13 dX11_image_49 ?_
    refine V.iload_n (pc := 52) C dX11_image_52 1 rfl ?_
    refine V.ck (fun h_16 => ?_)
    refine V.br (fun h_13 => ?_) (fun h_13 => ?_)
    · exact V.nil
    · refine V.ck (fun h_15 => ?_)
      refine V.aalR (pc := 53) (b := ix (gi m_12 108 (ix y1))) C sX108 (kX108 hN) (oki_d h_15) (inb_in h_16) dX11_image_53 ?_
      refine V.ltr (fun b_14 eb_14 => ?_)
      have hb_14 : isImage N b_14 := by rw [eb_14]; exact oki_img h_15
      refine V.getr (pc := 54) C fl_RX11_371 hb_14.s hb_14.k rfl hb_14.r1 dX11_image_54 ?_
      refine V.aload_n (pc := 57) C dX11_image_57 0 rfl ?_
      refine V.getr (pc := 58) C fl_RX11_38 sX0 (kX0 hN) rfl rX0_6 dX11_image_58 ?_
      refine V.getr (pc := 61) C fl_RX11_108 sX25 (kX25 hN) rfl rX25_2 dX11_image_61 ?_
      refine V.callV (pc := 64) (st := []) C (c_X5_become l hN (b_14 + 8) hb_14.li 26 (iX26 hN) m_12) obV ck_X5_become ml_RX11_111 rfl rfl hb_14.li.s hb_14.li.k rfl rfl (Nat.le_of_ble_eq_true rfl) ⟨by decide, by decide⟩ dX11_image_64 (fun r_17 m_18 _ => ?_)
      refine V.iconst (pc := 67) C dX11_image_67 (v := 0) (by decide) ?_
      exact V.iret C dX11_image_68
set_option maxRecDepth 100000 in
set_option maxHeartbeats 4000000 in
theorem v_X11_image {l : Launch} {p : Program} {e : Env} {s : State} {mt : MethodId} {args : Array Value} {below : List Frame} {meth : Method} {c : Code} {A : Nat → Prop} {ad0 : Nat → Nat} {G : Gt}  (C : Cx G p s mt args meth c RX11 cX11_image 2 (some .int) "image" A) (N : Nat) (hN : 109 ≤ N) (x1 : Int32) (m : Mem) : V G SX oI l p e s mt args below meth c 2 4 A ad0 N N RX N RX 0 [(0, .ref 0), (1, .int x1)] [] m (X11_image N x1 m) := by
  rw [X11_image]
  refine V.iload_n (pc := 0) C dX11_image_0 1 rfl ?_
  refine V.callS (pc := 1) (st := []) C (c_X11_isImage l hN x1 m) obI ck_X11_isImage ml_RX11_366 rfl rfl (Nat.le_of_ble_eq_true rfl) ⟨by decide, by decide⟩ dX11_image_1 (fun r_1 m_2 _ => ?_)
  refine V.if_ne (pc := 4) C dX11_image_4 10 (by decide) (fun _ => ?_) (fun _ => ?_)
  · refine V.aload_n (pc := 10) C dX11_image_10 0 rfl ?_
    refine V.getr (pc := 11) C fl_RX11_86 sX0 (kX0 hN) rfl rX0_13 dX11_image_11 ?_
    refine V.iload_n (pc := 14) C dX11_image_14 1 rfl ?_
    refine V.ck (fun h_6 => ?_)
    refine V.br (fun h_3 => ?_) (fun h_3 => ?_)
    · exact V.nil
    · refine V.ck (fun h_5 => ?_)
      refine V.aalR (pc := 15) (b := ix (gi m_2 108 (ix x1))) C sX108 (kX108 hN) (oki_d h_5) (inb_in h_6) dX11_image_15 ?_
      refine V.ltr (fun b_4 eb_4 => ?_)
      have hb_4 : isImage N b_4 := by rw [eb_4]; exact oki_img h_5
      refine V.ifnonnullR (pc := 16) C dX11_image_16 32 (by decide) ?_
      refine V.wk [0, 1] rfl ?_
      exact v_X11_image_b32 C N hN x1 m_2
  · refine V.bipush (pc := 7) C dX11_image_7 (v := (-2)) (by decide) ?_
    exact V.iret C dX11_image_9
theorem c_X11_image (l : Launch)  (N : Nat) (hN : 109 ≤ N) (x1 : Int32) (m : Mem) : Ct l yX11_image cX11_image 2 (some .int) 4 SX oI N N RX RX [.ref 0, .int x1] m (X11_image N x1 m) :=
  Ct.of (own := RX11) (nm := "image") (by decide) rfl rfl (Nat.le_of_ble_eq_true rfl) (fun _ _ _ _ _ _ _ _ _ _ _ C => v_X11_image C N hN x1 m)

theorem isImage_mem {x : Int32} {m m1 : Mem} {r : Int32} (h : X11_isImage x m = some (r, m1)) : m1 = m := by
  rw [X11_isImage] at h
  split at h
  · cases h; rfl
  · split at h <;> (cases h; rfl)
set_option maxRecDepth 100000 in
set_option maxHeartbeats 4000000 in
theorem vq_X11_image_b32 {l : Launch} {p : Program} {e : Env} {s : State} {mt : MethodId} {args : Array Value} {below : List Frame} {meth : Method} {c : Code} {A : Nat → Prop} {ad0 : Nat → Nat} {G : Gt}  (C : Cx G p s mt args meth c RX11 cX11_image 2 (some .int) "image" A) {N0 : Nat} (N : Nat) (hN : 109 ≤ N) (y1 : Int32) (m : Mem) : V G SX oI l p e s mt args below meth c 2 5 A ad0 N0 N RX N RX 32 [(0, .ref 0), (1, .int y1)] [] m (X11_image_b32 N y1 m) := by
  rw [X11_image_b32]
  refine V.aload_n (pc := 32) C dX11_image_32 0 rfl ?_
  refine V.getr (pc := 33) C fl_RX11_86 sX0 (kX0 hN) rfl rX0_13 dX11_image_33 ?_
  refine V.iload_n (pc := 36) C dX11_image_36 1 rfl ?_
  refine V.ck (fun h_10 => ?_)
  refine V.br (fun h_7 => ?_) (fun h_7 => ?_)
  · exact V.nil
  · refine V.ck (fun h_9 => ?_)
    refine V.aalR (pc := 37) (b := ix (gi m 108 (ix y1))) C sX108 (kX108 hN) (oki_d h_9) (inb_in h_10) dX11_image_37 ?_
    refine V.ltr (fun b_8 eb_8 => ?_)
    have hb_8 : isImage N b_8 := by rw [eb_8]; exact oki_img h_9
    refine V.getr (pc := 38) C fl_RX11_370 hb_8.s hb_8.k rfl hb_8.r0 dX11_image_38 ?_
    refine V.aload_n (pc := 41) C dX11_image_41 0 rfl ?_
    refine V.getr (pc := 42) C fl_RX11_16 sX0 (kX0 hN) rfl rX0_3 dX11_image_42 ?_
    refine V.callV (pc := 45) (st := []) C (c_X8_become l hN (b_8 + 1) hb_8.ru 2 (iX2 hN) m) obV ck_X8_become ml_RX11_104 rfl rfl hb_8.ru.s hb_8.ru.k rfl rfl (Nat.le_of_ble_eq_true rfl) ⟨by decide, by decide⟩ dX11_image_45 (fun r_11 m_12 _ => ?_)
    refine V.aload_n (pc := 48) C dX11_image_48 0 rfl ?_
    refine V.getr (pc := 49) C fl_RX11_86 sX0 (kX0 hN) rfl rX0_13 dX11_image_49 ?_
    refine V.iload_n (pc := 52) C dX11_image_52 1 rfl ?_
    refine V.ck (fun h_16 => ?_)
    refine V.br (fun h_13 => ?_) (fun h_13 => ?_)
    · exact V.nil
    · refine V.ck (fun h_15 => ?_)
      refine V.aalR (pc := 53) (b := ix (gi m_12 108 (ix y1))) C sX108 (kX108 hN) (oki_d h_15) (inb_in h_16) dX11_image_53 ?_
      refine V.ltr (fun b_14 eb_14 => ?_)
      have hb_14 : isImage N b_14 := by rw [eb_14]; exact oki_img h_15
      refine V.getr (pc := 54) C fl_RX11_371 hb_14.s hb_14.k rfl hb_14.r1 dX11_image_54 ?_
      refine V.aload_n (pc := 57) C dX11_image_57 0 rfl ?_
      refine V.getr (pc := 58) C fl_RX11_38 sX0 (kX0 hN) rfl rX0_6 dX11_image_58 ?_
      refine V.getr (pc := 61) C fl_RX11_108 sX25 (kX25 hN) rfl rX25_2 dX11_image_61 ?_
      refine V.callV (pc := 64) (st := []) C (c_X5_become l hN (b_14 + 8) hb_14.li 26 (iX26 hN) m_12) obV ck_X5_become ml_RX11_111 rfl rfl hb_14.li.s hb_14.li.k rfl rfl (Nat.le_of_ble_eq_true rfl) ⟨by decide, by decide⟩ dX11_image_64 (fun r_17 m_18 _ => ?_)
      refine V.iconst (pc := 67) C dX11_image_67 (v := 0) (by decide) ?_
      exact V.iret C dX11_image_68
theorem wl_rx3_109 {G : Gt} {m : Mem} (ad : Nat → Nat) : wl G SX ad 123 RX m = wl G SX ad 123 (rX3 (rnw RX 109) 109) m := by
  have hj : ∀ k, k < 123 → ∀ j, j < 16 → RX k j = rX3 (rnw RX 109) 109 k j := by decide +kernel
  refine wl_refs (fun k hk c hs j hj2 => hj k hk j ?_) (fun k hk ty n hs h3 h6 j => ?_) ad
  · have hn : ∀ k, k < 123 → (match SX k with | .inl c => nF c | .inr _ => 0) ≤ 16 := by decide +kernel
    have h2 := hn k hk
    rw [hs] at h2
    exact Nat.lt_of_lt_of_le hj2 h2
  · have h : ∀ k, k < 123 → (match SX k with | .inl _ => 0 | .inr q => q.1) < 4 ∨ 5 < (match SX k with | .inl _ => 0 | .inr q => q.1) ∨ k = 41 ∨ k = 99 := by decide +kernel
    rcases h k hk with q | q | q | q
    · rw [hs] at q
      have q : ty < 4 := q
      omega
    · rw [hs] at q
      have q : 5 < ty := q
      omega
    · subst q
      rfl
    · subst q
      rfl
theorem wl_rx3_123 {G : Gt} {m : Mem} (ad : Nat → Nat) : wl G SX ad 137 RX m = wl G SX ad 137 (rX3 (rnw RX 123) 123) m := by
  have hj : ∀ k, k < 137 → ∀ j, j < 16 → RX k j = rX3 (rnw RX 123) 123 k j := by decide +kernel
  refine wl_refs (fun k hk c hs j hj2 => hj k hk j ?_) (fun k hk ty n hs h3 h6 j => ?_) ad
  · have hn : ∀ k, k < 137 → (match SX k with | .inl c => nF c | .inr _ => 0) ≤ 16 := by decide +kernel
    have h2 := hn k hk
    rw [hs] at h2
    exact Nat.lt_of_lt_of_le hj2 h2
  · have h : ∀ k, k < 137 → (match SX k with | .inl _ => 0 | .inr q => q.1) < 4 ∨ 5 < (match SX k with | .inl _ => 0 | .inr q => q.1) ∨ k = 41 ∨ k = 99 := by decide +kernel
    rcases h k hk with q | q | q | q
    · rw [hs] at q
      have q : ty < 4 := q
      omega
    · rw [hs] at q
      have q : 5 < ty := q
      omega
    · subst q
      rfl
    · subst q
      rfl
theorem imgN {N : Nat} (h : N = 109 ∨ N = 123) : isImage 137 N := by
  rcases h with rfl | rfl
  · exact img0 (by decide)
  · exact img1 (by decide)
def X11_imageN (N : Nat) (x1 : Int32) (m : Mem) : Option (Int32 × Mem) :=
  bnd (X11_isImage x1 m) fun r m1 =>
  if r = 0 then none
  else
    chk (inb x1 2) <|
    chk (decide (gi m1 108 (ix x1) = 0)) <|
    bnd (X3_init N (nw m1 N)) fun _ m2 =>
    lt (si m2 108 (ix x1) (nI N)) fun m3 =>
    X11_image_b32 (N + 14) x1 m3
set_option maxRecDepth 100000 in
set_option maxHeartbeats 4000000 in
theorem v_X11_imageN {l : Launch} {p : Program} {e : Env} {s : State} {mt : MethodId} {args : Array Value} {below : List Frame} {meth : Method} {c : Code} {A : Nat → Prop} {ad0 : Nat → Nat} {G : Gt} (C : Cx G p s mt args meth c RX11 cX11_image 2 (some .int) "image" A) (N : Nat) (hN2 : N = 109 ∨ N = 123) (x1 : Int32) (m : Mem) (hk : NK SX N RX m) : V G SX oI l p e s mt args below meth c 2 5 A ad0 N (N + 14) RX N RX 0 [(0, .ref 0), (1, .int x1)] [] m (X11_imageN N x1 m) := by
  have hN : 109 ≤ N := by omega
  rw [X11_imageN]
  refine V.iload_n (pc := 0) C dX11_image_0 1 rfl ?_
  refine V.callS (pc := 1) (st := []) C (c_X11_isImage l hN x1 m) obI ck_X11_isImage ml_RX11_366 rfl rfl (Nat.le_of_ble_eq_true rfl) ⟨by decide, by decide⟩ dX11_image_1 (fun r m1 e1 => ?_)
  have e1 := isImage_mem e1
  subst e1
  refine V.if_ne (pc := 4) C dX11_image_4 10 (by decide) (fun _ => ?_) (fun _ => ?_)
  · refine V.aload_n (pc := 10) C dX11_image_10 0 rfl ?_
    refine V.getr (pc := 11) C fl_RX11_86 sX0 (kX0 hN) rfl rX0_13 dX11_image_11 ?_
    refine V.iload_n (pc := 14) C dX11_image_14 1 rfl ?_
    refine V.ck (fun hi => ?_)
    refine V.ck (fun h0 => ?_)
    refine V.aalN (pc := 15) C sX108 (kX108 hN) (by rw [dcr, if_pos (of_decide_eq_true h0)]) (inb_in hi) dX11_image_15 ?_
    refine V.ifnonnullN (pc := 16) C dX11_image_16 ?_
    refine V.aload_n (pc := 19) C dX11_image_19 0 rfl ?_
    refine V.getr (pc := 20) C fl_RX11_86 sX0 (kX0 hN) rfl rX0_13 dX11_image_20 ?_
    refine V.iload_n (pc := 23) C dX11_image_23 1 rfl ?_
    refine V.new (pc := 24) (st := [.int x1, .ref 108]) C (RX3, TX3, 2) okX3 nwX3 nc_RX11_84 ni_3 nz_3 (imgN hN2).s hk (List.forall_mem_cons.mpr ⟨okR (by omega), List.forall_mem_cons.mpr ⟨trivial, fun _ h => absurd h List.not_mem_nil⟩⟩) (List.forall_mem_cons.mpr ⟨trivial, List.forall_mem_cons.mpr ⟨okR (by omega), fun _ h => absurd h List.not_mem_nil⟩⟩) dX11_image_24 ?_
    refine V.dup (pc := 27) C dX11_image_27 rfl ?_
    refine V.callI (pc := 28) (st := [.ref N, .int x1, .ref 108]) (N1 := N + 14) (R1 := rX3 (rnw RX N) N) C (ci_X3 l N (imgN hN2) _ _ (NK.new hk)) ck_X3_init rfl in_X3_init (Or.inr (by decide)) (by omega) (List.forall_mem_cons.mpr ⟨okR (by omega), List.forall_mem_cons.mpr ⟨trivial, fun _ h => absurd h List.not_mem_nil⟩⟩) (List.forall_mem_cons.mpr ⟨okR (by omega), List.forall_mem_cons.mpr ⟨trivial, List.forall_mem_cons.mpr ⟨okR (by omega), fun _ h => absurd h List.not_mem_nil⟩⟩⟩) rfl rfl (Nat.le_of_ble_eq_true rfl) ⟨by decide, by decide⟩ dX11_image_28 (fun m2 hf => ?_)
    refine V.aastD (pc := 31) (q := (RX3, TX3, 2)) C sX108 rfl (by omega) (imgN hN2).s (by omega) rfl (by rcases hN2 with rfl | rfl <;> rfl) (inb_in hi) dX11_image_31 ?_
    refine V.ltm (fun m3 => ?_)
    refine V.congR (R2 := RX) (fun ad => ?_) ?_
    · rcases hN2 with rfl | rfl
      · exact wl_rx3_109 ad
      · exact wl_rx3_123 ad
    · refine V.wk [0, 1] rfl ?_
      exact vq_X11_image_b32 C (N + 14) (by omega) x1 m3
  · exact V.nil
theorem c_X11_imageN (l : Launch) (N : Nat) (hN2 : N = 109 ∨ N = 123) (x1 : Int32) (m : Mem) (hk : NK SX N RX m) : Ct l yX11_image cX11_image 2 (some .int) 5 SX oI N (N + 14) RX RX [.ref 0, .int x1] m (X11_imageN N x1 m) :=
  Ct.of (own := RX11) (nm := "image") (by decide) rfl rfl (Nat.le_of_ble_eq_true rfl) (fun _ _ _ _ _ _ _ _ _ _ _ C => v_X11_imageN C N hN2 x1 m hk)
