def Fl (own : String) (idx ci j : Nat) : Prop := ∃ q : vw_C, clOK ci q ∧ j < q.2.2 ∧ Cond.fieldLink own idx (q.2.1 j).1 (q.2.1 j).2.1 (q.2.1 j).2.2.1 ∈ gtb
def Fp (own : String) (idx ci j : Nat) (ty : FieldType) (fin : Bool) : Prop := ∃ q : vw_C, clOK ci q ∧ j < q.2.2 ∧ Cond.fieldLink own idx (q.2.1 j).1 (q.2.1 j).2.1 (q.2.1 j).2.2.1 ∈ gtb ∧ (q.2.1 j).2.2.2 = fin ∧ parseFieldDescriptor (q.2.1 j).2.2.1 = some ty ∧ (q.2.1 j).1 = q.1
theorem nF_ok {ci : Nat} {q : vw_C} (h : clOK ci q) : nF ci = q.2.2 := by
  unfold nF
  rw [h.1]
theorem fv_get {ad : Nat → Nat} {R : Rf} {m : Mem} {a ci j n : Nat} (h : j < n) : ((List.range n).map (fv ad R m a ci))[j]? = some (fv ad R m a ci j) := by
  simp [h]
section VR
variable {α : Type} {G : Gt} {S : Nat → Sh} {ov : α → Option Value} {l : Launch} {p : Program} {e : Env} {s : State} {mt : MethodId} {args : Array Value} {below : List Frame} {meth : Method} {c : Code} {own : String} {cc : ByteArray} {nL fr : Nat} {ret : Option FieldType} {nm : String} {A : Nat → Prop} {ad0 : Nat → Nat} {N0 Nf : Nat} {Rz : Rf} {N : Nat} {R : Rf} {pc : Nat} {L : List (Nat × Value)} {st : List Value} {m : Mem} {t : Option (α × Mem)}
theorem V.getf (C : Cx G p s mt args meth c own cc nL ret nm A) {a ci j idx : Nat} {v : Value} (F : Fl own idx ci j) (hs : S a = .inl ci) (hk : a < N) (hv : ∀ ad : Nat → Nat, fv ad R m a ci j = mv G ad v) (hd : decode cc pc = .ok (.getfield idx, 3)) (k : V G S ov l p e s mt args below meth c nL fr A ad0 N0 Nf Rz N R (pc + 3) L (v :: st) m t) : V G S ov l p e s mt args below meth c nL fr A ad0 N0 Nf Rz N R pc L (.ref a :: st) m t := by
  obtain ⟨⟨qc, qT, qN⟩, h1, h2, h3⟩ := F
  refine V.step (fun ad H locs ls Rm cells slots Q hP hS hL kk => ?_) k
  refine va_get C.1 C.2.1 C.2.2.2.2.1 h1.2.1 C.2.2.2.1 C.2.2.2.2.2.2.2.2.1 hP a (wl_get hk hs) h1.1 j h2 (C.2.2.2.2.1 _ h3) (fun x h => h) (v := mv G ad v) ?_ hd kk
  rw [← hv ad]
  have e := nF_ok h1
  show ((List.range (nF ci)).map (fv ad R m a ci))[j]? = _
  exact fv_get (by rw [e]; exact h2)
theorem V.geti (C : Cx G p s mt args meth c own cc nL ret nm A) {a ci j idx : Nat} (F : Fl own idx ci j) (hs : S a = .inl ci) (hk : a < N) (h0 : fK ci j = 0) (hd : decode cc pc = .ok (.getfield idx, 3)) (k : V G S ov l p e s mt args below meth c nL fr A ad0 N0 Nf Rz N R (pc + 3) L (.int (gi m a j) :: st) m t) : V G S ov l p e s mt args below meth c nL fr A ad0 N0 Nf Rz N R pc L (.ref a :: st) m t :=
  V.getf C F hs hk (fun ad => by simp only [fv, h0, if_true]; rfl) hd k
theorem V.getr (C : Cx G p s mt args meth c own cc nL ret nm A) {a b ci j idx : Nat} (F : Fl own idx ci j) (hs : S a = .inl ci) (hk : a < N) (h0 : fK ci j = 1) (hr : R a j = some b) (hd : decode cc pc = .ok (.getfield idx, 3)) (k : V G S ov l p e s mt args below meth c nL fr A ad0 N0 Nf Rz N R (pc + 3) L (.ref b :: st) m t) : V G S ov l p e s mt args below meth c nL fr A ad0 N0 Nf Rz N R pc L (.ref a :: st) m t :=
  V.getf C F hs hk (fun ad => by simp only [fv, h0, hr]; rfl) hd k
theorem V.getd (C : Cx G p s mt args meth c own cc nL ret nm A) {a b ci j idx : Nat} (F : Fl own idx ci j) (hs : S a = .inl ci) (hk : a < N) (h0 : fK ci j = 2) (hr : dcr (gi m a j) = some b) (hd : decode cc pc = .ok (.getfield idx, 3)) (k : V G S ov l p e s mt args below meth c nL fr A ad0 N0 Nf Rz N R (pc + 3) L (.ref b :: st) m t) : V G S ov l p e s mt args below meth c nL fr A ad0 N0 Nf Rz N R pc L (.ref a :: st) m t :=
  V.getf C F hs hk (fun ad => by simp only [fv, h0, hr]; rfl) hd k
theorem V.puti (C : Cx G p s mt args meth c own cc nL ret nm A) {a ci j idx : Nat} {x : Int32} (F : Fp own idx ci j .int false) (hs : S a = .inl ci) (hk : a < N) (h0 : fK ci j = 0)  (hd : decode cc pc = .ok (.putfield idx, 3)) (k : V G S ov l p e s mt args below meth c nL fr A ad0 N0 Nf Rz N R (pc + 3) L st (si m a j x) t) : V G S ov l p e s mt args below meth c nL fr A ad0 N0 Nf Rz N R pc L (.int x :: .ref a :: st) m t := by
  obtain ⟨⟨qc, qT, qN⟩, h1, h2, h3, h4, h5, h6⟩ := F
  obtain ⟨ty0, hty⟩ := h1.2.2.1
  refine V.gen (fun ad H locs ls Rm cells slots Q hP hD hS hL _ _ kk => ?_) k
  refine va_put C.1 C.2.1 C.2.2.2.2.1 h1.2.1 ty0 hty h1.2.2.2 C.2.2.2.1 C.2.2.2.2.2.2.2.2.1 hP hD hS a (wl_get hk hs) h1.1 j h2 (C.2.2.2.2.1 _ h3) (fun x h => h) h4 h5 rfl rfl (by rw [List.length_map, List.length_range, nF_ok h1]; exact h2) hd (fun H1 locs1 g1 g2 g3 => ?_)
  rw [show mv G ad (Value.int x) = Value.int x from rfl, wl_si_obj hk hs h0] at g1 g2
  exact kk H1 locs1 ls g1 g2 g3 hL
theorem V.putz (C : Cx G p s mt args meth c own cc nL ret nm A) {a ci j idx : Nat} {x : Int32} (F : Fp own idx ci j .boolean false) (hs : S a = .inl ci) (hk : a < N) (h0 : fK ci j = 0) (hz : x = 0 ∨ x = 1) (hd : decode cc pc = .ok (.putfield idx, 3)) (k : V G S ov l p e s mt args below meth c nL fr A ad0 N0 Nf Rz N R (pc + 3) L st (si m a j x) t) : V G S ov l p e s mt args below meth c nL fr A ad0 N0 Nf Rz N R pc L (.int x :: .ref a :: st) m t := by
  obtain ⟨⟨qc, qT, qN⟩, h1, h2, h3, h4, h5, h6⟩ := F
  obtain ⟨ty0, hty⟩ := h1.2.2.1
  refine V.gen (fun ad H locs ls Rm cells slots Q hP hD hS hL _ _ kk => ?_) k
  refine va_put C.1 C.2.1 C.2.2.2.2.1 h1.2.1 ty0 hty h1.2.2.2 C.2.2.2.1 C.2.2.2.2.2.2.2.2.1 hP hD hS a (wl_get hk hs) h1.1 j h2 (C.2.2.2.2.1 _ h3) (fun x h => h) h4 h5 (by rcases hz with rfl | rfl <;> rfl) (by rcases hz with rfl | rfl <;> rfl) (by rw [List.length_map, List.length_range, nF_ok h1]; exact h2) hd (fun H1 locs1 g1 g2 g3 => ?_)
  rw [show mv G ad (Value.int x) = Value.int x from rfl, wl_si_obj hk hs h0] at g1 g2
  exact kk H1 locs1 ls g1 g2 g3 hL
theorem V.putr (C : Cx G p s mt args meth c own cc nL ret nm A) {a b ci j idx : Nat} {ty : FieldType} (F : Fp own idx ci j ty true) (hnm : nm = "<init>") (ho : own = (vwCl.getD ci ("", fun _ => ("", "", "", false), 0)).1) (hs : S a = .inl ci) (hk : a < N) (h0 : fK ci j = 1) (hty : refKind ty = true) (hd : decode cc pc = .ok (.putfield idx, 3)) (k : V G S ov l p e s mt args below meth c nL fr A ad0 N0 Nf Rz N (up2 R a j (some b)) (pc + 3) L st m t) : V G S ov l p e s mt args below meth c nL fr A ad0 N0 Nf Rz N R pc L (.ref b :: .ref a :: st) m t := by
  obtain ⟨⟨qc, qT, qN⟩, h1, h2, h3, h4, h5, h6⟩ := F
  obtain ⟨ty0, hty0⟩ := h1.2.2.1
  have ho2 : own = qc := by rw [ho, List.getD_eq_getElem?_getD, h1.1]; rfl
  refine V.gen (fun ad H locs ls Rm cells slots Q hP hD hS hL _ _ kk => ?_) k
  refine va_putF C.1 C.2.1 C.2.2.2.2.1 h1.2.1 ty0 hty0 h1.2.2.2 C.2.2.2.1 C.2.2.2.2.2.2.2.2.1 hP hD hS a (wl_get hk hs) h1.1 j h2 (C.2.2.2.2.1 _ h3) (fun x h => h) h4 (by rw [C.2.2.2.2.2.2.2.1]; exact hnm) (by rw [h6, ho2]) h5 (by cases ty <;> first | rfl | (exfalso; revert hty; decide)) (by cases ty <;> first | rfl | (exfalso; revert hty; decide)) (by rw [List.length_map, List.length_range, nF_ok h1]; exact h2) hd (fun H1 locs1 g1 g2 g3 => ?_)
  rw [show mv G ad (.ref b) = .ref (ad b) from rfl, wl_sr_obj hk hs h0] at g1 g2
  exact kk H1 locs1 ls g1 g2 g3 hL
theorem V.putd (C : Cx G p s mt args meth c own cc nL ret nm A) {a b ci j idx : Nat} {ty : FieldType} (F : Fp own idx ci j ty false) (hs : S a = .inl ci) (hk : a < N) (h0 : fK ci j = 2) (hty : refKind ty = true) (hb : dcr (nI b) = some b) (hd : decode cc pc = .ok (.putfield idx, 3)) (k : V G S ov l p e s mt args below meth c nL fr A ad0 N0 Nf Rz N R (pc + 3) L st (si m a j (nI b)) t) : V G S ov l p e s mt args below meth c nL fr A ad0 N0 Nf Rz N R pc L (.ref b :: .ref a :: st) m t := by
  obtain ⟨⟨qc, qT, qN⟩, h1, h2, h3, h4, h5, h6⟩ := F
  obtain ⟨ty0, hty0⟩ := h1.2.2.1
  refine V.gen (fun ad H locs ls Rm cells slots Q hP hD hS hL _ _ kk => ?_) k
  refine va_put C.1 C.2.1 C.2.2.2.2.1 h1.2.1 ty0 hty0 h1.2.2.2 C.2.2.2.1 C.2.2.2.2.2.2.2.2.1 hP hD hS a (wl_get hk hs) h1.1 j h2 (C.2.2.2.2.1 _ h3) (fun x h => h) h4 h5 (by cases ty <;> first | rfl | (exfalso; revert hty; decide)) (by cases ty <;> first | rfl | (exfalso; revert hty; decide)) (by rw [List.length_map, List.length_range, nF_ok h1]; exact h2) hd (fun H1 locs1 g1 g2 g3 => ?_)
  rw [show mv G ad (.ref b) = .ref (ad b) from rfl, wl_sd_obj hk hs h0 hb] at g1 g2
  exact kk H1 locs1 ls g1 g2 g3 hL
theorem V.iald (C : Cx G p s mt args meth c own cc nL ret nm A) {a n : Nat} {i : Int32} (hs : S a = .inr (0, n)) (hk : a < N) (hd : decode cc pc = .ok (.iaload, 1)) (k : vp_in i n → V G S ov l p e s mt args below meth c nL fr A ad0 N0 Nf Rz N R (pc + 1) L (.int (gi m a (ix i)) :: st) m t) : V G S ov l p e s mt args below meth c nL fr A ad0 N0 Nf Rz N R pc L (.int i :: .ref a :: st) m (chk (inb i n) t) :=
  V.ck (fun hb1 => have hi := inb_in hb1; V.step (fun ad H locs ls Rm cells slots Q hP hS hL kk => va_iald C.1 C.2.1 C.2.2.2.2.2.2.2.2.1 hP a 0 (wl_get hk hs) rfl hi hd kk) (k hi))
theorem V.bald (C : Cx G p s mt args meth c own cc nL ret nm A) {a n : Nat} {i : Int32} (hs : S a = .inr (1, n)) (hk : a < N) (hd : decode cc pc = .ok (.baload, 1)) (k : vp_in i n → V G S ov l p e s mt args below meth c nL fr A ad0 N0 Nf Rz N R (pc + 1) L (.int (gi m a (ix i)) :: st) m t) : V G S ov l p e s mt args below meth c nL fr A ad0 N0 Nf Rz N R pc L (.int i :: .ref a :: st) m (chk (inb i n) t) :=
  V.ck (fun hb1 => have hi := inb_in hb1; V.step (fun ad H locs ls Rm cells slots Q hP hS hL kk => va_bald C.1 C.2.1 C.2.2.2.2.2.2.2.2.1 hP a 1 (wl_get hk hs) rfl hi hd kk) (k hi))
theorem V.zald (C : Cx G p s mt args meth c own cc nL ret nm A) {a n : Nat} {i : Int32} (hs : S a = .inr (2, n)) (hk : a < N) (hd : decode cc pc = .ok (.baload, 1)) (k : vp_in i n → V G S ov l p e s mt args below meth c nL fr A ad0 N0 Nf Rz N R (pc + 1) L (.int (gi m a (ix i)) :: st) m t) : V G S ov l p e s mt args below meth c nL fr A ad0 N0 Nf Rz N R pc L (.int i :: .ref a :: st) m (chk (inb i n) t) :=
  V.ck (fun hb1 => have hi := inb_in hb1; V.step (fun ad H locs ls Rm cells slots Q hP hS hL kk => va_zald C.1 C.2.1 C.2.2.2.2.2.2.2.2.1 hP a 2 (wl_get hk hs) rfl hi hd kk) (k hi))
theorem V.lald (C : Cx G p s mt args meth c own cc nL ret nm A) {a n : Nat} {i : Int32} (hs : S a = .inr (3, n)) (hk : a < N) (hd : decode cc pc = .ok (.laload, 1)) (k : vp_in i n → V G S ov l p e s mt args below meth c nL fr A ad0 N0 Nf Rz N R (pc + 1) L (.long (gl m a (ix i)) :: st) m t) : V G S ov l p e s mt args below meth c nL fr A ad0 N0 Nf Rz N R pc L (.int i :: .ref a :: st) m (chk (inb i n) t) :=
  V.ck (fun hb1 => have hi := inb_in hb1; V.step (fun ad H locs ls Rm cells slots Q hP hS hL kk => va_lald C.1 C.2.1 C.2.2.2.2.2.2.2.2.1 hP a 3 (wl_get hk hs) rfl hi hd kk) (k hi))
theorem V.alen (C : Cx G p s mt args meth c own cc nL ret nm A) {a ty n : Nat} {v : Int32} (hs : S a = .inr (ty, n)) (hty : ty < 7) (hk : a < N) (hv : Int32.ofNat n = v) (hd : decode cc pc = .ok (.arraylength, 1)) (k : V G S ov l p e s mt args below meth c nL fr A ad0 N0 Nf Rz N R (pc + 1) L (.int v :: st) m t) : V G S ov l p e s mt args below meth c nL fr A ad0 N0 Nf Rz N R pc L (.ref a :: st) m t := by
  obtain ⟨T, hT⟩ : ∃ T, (tyl G)[ty]? = some (G.2.1 ty, T) := by
    match ty, hty with
    | 0, _ => exact ⟨_, rfl⟩
    | 1, _ => exact ⟨_, rfl⟩
    | 2, _ => exact ⟨_, rfl⟩
    | 3, _ => exact ⟨_, rfl⟩
    | 4, _ => exact ⟨_, rfl⟩
    | 5, _ => exact ⟨_, rfl⟩
    | 6, _ => exact ⟨_, rfl⟩
    | n + 7, h => omega
  exact V.step (fun ad H locs ls Rm cells slots Q hP hS hL kk => va_alen C.1 C.2.1 C.2.2.2.2.2.2.2.2.1 hP a ty (wl_get hk hs) hT hv hd kk) k
theorem V.aald (C : Cx G p s mt args meth c own cc nL ret nm A) {a ty n : Nat} {f : Nat → Nat} {i : Int32} (hs : S a = .inr (ty, n)) (hty : ty = 4 ∨ ty = 5) (hk : a < N) (hr : ∀ j, j < n → R a j = some (f j)) (hd : decode cc pc = .ok (.aaload, 1)) (k : vp_in i n → V G S ov l p e s mt args below meth c nL fr A ad0 N0 Nf Rz N R (pc + 1) L (.ref (f (ix i)) :: st) m t) : V G S ov l p e s mt args below meth c nL fr A ad0 N0 Nf Rz N R pc L (.int i :: .ref a :: st) m (chk (inb i n) t) := by
  refine V.ck (fun hb1 => have hi := inb_in hb1; V.step (fun ad H locs ls Rm cells slots Q hP hS hL kk => ?_) (k hi))
  have hlt : i.toNatClampNeg < n := Nat.not_le.mp fun q => hi (Or.inr q)
  have e1 : va_rf ((fun j => (R a j).map ad) i.toNatClampNeg) = .ref (ad (f (ix i))) := by
    show va_rf ((R a i.toNatClampNeg).map ad) = _
    rw [hr _ hlt]
    rfl
  rcases hty with rfl | rfl
  · refine va_aldq C.1 C.2.1 C.2.2.2.2.2.2.2.2.1 hP a 4 (f := fun j => (R a j).map ad) (wl_get hk hs) rfl hi hd ?_
    rw [e1]
    exact kk
  · refine va_aldq C.1 C.2.1 C.2.2.2.2.2.2.2.2.1 hP a 5 (f := fun j => (R a j).map ad) (wl_get hk hs) rfl hi hd ?_
    rw [e1]
    exact kk
theorem V.aaldR (C : Cx G p s mt args meth c own cc nL ret nm A) {a b n : Nat} {i : Int32} (hs : S a = .inr (6, n)) (hk : a < N) (hr : dcr (gi m a (ix i)) = some b) (hd : decode cc pc = .ok (.aaload, 1)) (k : vp_in i n → V G S ov l p e s mt args below meth c nL fr A ad0 N0 Nf Rz N R (pc + 1) L (.ref b :: st) m t) : V G S ov l p e s mt args below meth c nL fr A ad0 N0 Nf Rz N R pc L (.int i :: .ref a :: st) m (chk (inb i n) t) := by
  refine V.ck (fun hb1 => have hi := inb_in hb1; V.step (fun ad H locs ls Rm cells slots Q hP hS hL kk => ?_) (k hi))
  refine va_aldq C.1 C.2.1 C.2.2.2.2.2.2.2.2.1 hP a 6 (f := fun j => (dcr (gi m a j)).map ad) (wl_get hk hs) rfl hi hd ?_
  show W _ _ _ _ _ _ _ _ _ _ _ _ _ _ _ (F0 _ _ _ (va_rf ((dcr (gi m a (ix i))).map ad) :: _))
  rw [hr]
  exact kk
theorem V.aaldN (C : Cx G p s mt args meth c own cc nL ret nm A) {a n : Nat} {i : Int32} (hs : S a = .inr (6, n)) (hk : a < N) (hr : dcr (gi m a (ix i)) = none) (hd : decode cc pc = .ok (.aaload, 1)) (k : vp_in i n → V G S ov l p e s mt args below meth c nL fr A ad0 N0 Nf Rz N R (pc + 1) L (.null :: st) m t) : V G S ov l p e s mt args below meth c nL fr A ad0 N0 Nf Rz N R pc L (.int i :: .ref a :: st) m (chk (inb i n) t) := by
  refine V.ck (fun hb1 => have hi := inb_in hb1; V.step (fun ad H locs ls Rm cells slots Q hP hS hL kk => ?_) (k hi))
  refine va_aldq C.1 C.2.1 C.2.2.2.2.2.2.2.2.1 hP a 6 (f := fun j => (dcr (gi m a j)).map ad) (wl_get hk hs) rfl hi hd ?_
  show W _ _ _ _ _ _ _ _ _ _ _ _ _ _ _ (F0 _ _ _ (va_rf ((dcr (gi m a (ix i))).map ad) :: _))
  rw [hr]
  exact kk
theorem V.iast (C : Cx G p s mt args meth c own cc nL ret nm A) {a n : Nat} {i x : Int32} (hs : S a = .inr (0, n)) (hk : a < N) (hd : decode cc pc = .ok (.iastore, 1)) (k : vp_in i n → V G S ov l p e s mt args below meth c nL fr A ad0 N0 Nf Rz N R (pc + 1) L st (si m a (ix i) x) t) : V G S ov l p e s mt args below meth c nL fr A ad0 N0 Nf Rz N R pc L (.int x :: .int i :: .ref a :: st) m (chk (inb i n) t) := by
  refine V.ck (fun hb1 => have hi := inb_in hb1; V.gen (fun ad H locs ls Rm cells slots Q hP hD hS hL _ _ kk => ?_) (k hi))
  refine va_iast C.1 C.2.1 C.2.2.2.2.2.2.2.2.1 hP hD hS a 0 (f := gi m a) (wl_get hk hs) rfl hi hd (fun H1 locs1 g1 g2 g3 => ?_)
  rw [wl_si_arr hk hs (by decide)] at g1 g2
  exact kk H1 locs1 ls g1 g2 g3 hL
theorem V.bast (C : Cx G p s mt args meth c own cc nL ret nm A) {a n : Nat} {i x : Int32} (hs : S a = .inr (1, n)) (hk : a < N) (hd : decode cc pc = .ok (.bastore, 1)) (k : vp_in i n → V G S ov l p e s mt args below meth c nL fr A ad0 N0 Nf Rz N R (pc + 1) L st (si m a (ix i) (vp_nar .byte x)) t) : V G S ov l p e s mt args below meth c nL fr A ad0 N0 Nf Rz N R pc L (.int x :: .int i :: .ref a :: st) m (chk (inb i n) t) := by
  refine V.ck (fun hb1 => have hi := inb_in hb1; V.gen (fun ad H locs ls Rm cells slots Q hP hD hS hL _ _ kk => ?_) (k hi))
  refine va_bast C.1 C.2.1 C.2.2.2.2.2.2.2.2.1 hP hD hS a 1 (f := gi m a) (wl_get hk hs) rfl hi hd (fun H1 locs1 g1 g2 g3 => ?_)
  rw [wl_si_arr hk hs (by decide)] at g1 g2
  exact kk H1 locs1 ls g1 g2 g3 hL
theorem V.zast (C : Cx G p s mt args meth c own cc nL ret nm A) {a n : Nat} {i x : Int32} (hs : S a = .inr (2, n)) (hk : a < N) (hd : decode cc pc = .ok (.bastore, 1)) (k : vp_in i n → V G S ov l p e s mt args below meth c nL fr A ad0 N0 Nf Rz N R (pc + 1) L st (si m a (ix i) (vp_nar .boolean x)) t) : V G S ov l p e s mt args below meth c nL fr A ad0 N0 Nf Rz N R pc L (.int x :: .int i :: .ref a :: st) m (chk (inb i n) t) := by
  refine V.ck (fun hb1 => have hi := inb_in hb1; V.gen (fun ad H locs ls Rm cells slots Q hP hD hS hL _ _ kk => ?_) (k hi))
  refine va_zast C.1 C.2.1 C.2.2.2.2.2.2.2.2.1 hP hD hS a 2 (f := gi m a) (wl_get hk hs) rfl hi hd (fun H1 locs1 g1 g2 g3 => ?_)
  rw [wl_si_arr hk hs (by decide)] at g1 g2
  exact kk H1 locs1 ls g1 g2 g3 hL
theorem V.last (C : Cx G p s mt args meth c own cc nL ret nm A) {a n : Nat} {i : Int32} {x : Int64} (hs : S a = .inr (3, n)) (hk : a < N) (hd : decode cc pc = .ok (.lastore, 1)) (k : vp_in i n → V G S ov l p e s mt args below meth c nL fr A ad0 N0 Nf Rz N R (pc + 1) L st (sl m a (ix i) x) t) : V G S ov l p e s mt args below meth c nL fr A ad0 N0 Nf Rz N R pc L (.long x :: .int i :: .ref a :: st) m (chk (inb i n) t) := by
  refine V.ck (fun hb1 => have hi := inb_in hb1; V.gen (fun ad H locs ls Rm cells slots Q hP hD hS hL _ _ kk => ?_) (k hi))
  refine va_last C.1 C.2.1 C.2.2.2.2.2.2.2.2.1 hP hD hS a 3 (f := gl m a) (wl_get hk hs) rfl hi hd (fun H1 locs1 g1 g2 g3 => ?_)
  rw [wl_sl_arr hk hs] at g1 g2
  exact kk H1 locs1 ls g1 g2 g3 hL
def Cpk (sp dp n : Int32) (n0 n1 : Nat) : Prop := ¬ sp < 0 ∧ ¬ dp < 0 ∧ ¬ n < 0 ∧ ix sp + ix n ≤ n0 ∧ ix dp + ix n ≤ n1
theorem V.copy (C : Cx G p s mt args meth c own cc nL ret nm A) {a b n0 n1 idx : Nat} {sp dp n : Int32} (hs0 : S a = .inr (0, n0)) (hk0 : a < N) (hs1 : S b = .inr (0, n1)) (hk1 : b < N) (hfr : 2 ≤ fr) (hst : (st.map Value.category).sum ≤ 8) (hl : Cond.methodLink own idx arraycopyName ∈ gtb) (hnat : Cond.native arraycopyName ∈ gtb) (hstat : Cond.static arraycopyName ∈ gtb) (hini : Cond.initialized "java/lang/System" ∈ gtb) (hd : decode cc pc = .ok (.invokestatic idx, 3)) (k : V G S ov l p e s mt args below meth c nL fr A ad0 N0 Nf Rz N R (pc + 3) L st (cpm m a b (ix sp) (ix dp) (ix n)) t) : V G S ov l p e s mt args below meth c nL fr A ad0 N0 Nf Rz N R pc L (.int n :: .int dp :: .ref b :: .int sp :: .ref a :: st) m (chk (decide (¬ sp < 0 ∧ ¬ dp < 0 ∧ ¬ n < 0 ∧ ix sp + ix n ≤ n0 ∧ ix dp + ix n ≤ n1)) t) := by
  refine V.ck (fun hb1 => have hi := of_decide_eq_true hb1; V.gen (fun ad H locs ls Rm cells slots Q hP hD hS hL hf1 hf2 kk => ?_) k)
  obtain ⟨i1, i2, i3, i4, i5⟩ := hi
  refine va_copyi C.1 C.2.1 (by rw [C.2.2.1]; exact hL.1.symm) C.2.2.2.1 (C.2.2.2.2.1 _ hl) (C.2.2.2.2.1 _ hnat) (C.2.2.2.2.1 _ hstat) (C.2.2.2.2.1 _ hini) C.2.2.2.2.2.2.2.2.1 hP hD hS a b 0 0 (f := gi m a) (g := gi m b) (ty := .int) (wl_get hk0 hs0) (wl_get hk1 hs1) rfl rfl rfl i1 i2 i3 i4 i5 (fun _ _ => rfl) (by omega) ?_ hd (fun H1 locs1 g1 g2 g3 => ?_)
  · rw [hf2]
    have e1 : (List.map (fun v => Value.category v) (st.map (mv G ad))).sum = (st.map Value.category).sum := by
      rw [List.map_map]
      congr 1
      apply List.map_congr_left
      intro v _
      exact mv_cat G ad v
    rw [e1]
    have e2 : nativeFrameWords "java/lang/System" "arraycopy" 5 + 11 ≤ 60 := by decide +kernel
    omega
  · rw [wl_cpm hk1 hs1 (by decide)] at g1 g2
    exact kk H1 locs1 ls g1 g2 g3 hL
theorem V.ldcs (C : Cx G p s mt args meth c own cc nL ret nm A) {idx k : Nat} (hk : k < 22) (hr : (own, idx, k) ∈ strR) (hd : decode cc pc = .ok (.ldc idx, 2)) (k1 : V G S ov l p e s mt args below meth c nL fr A ad0 N0 Nf Rz N R (pc + 2) L (.retAddr k :: st) m t) : V G S ov l p e s mt args below meth c nL fr A ad0 N0 Nf Rz N R pc L st m t := by
  refine V.step (fun ad H locs ls Rm cells slots Q hP hS hL kk => ?_) k1
  refine va_ldcS C.1 C.2.1 C.2.2.2.1 (C.2.2.2.2.2.2.2.2.2.2.2.1 _ hr) hd ?_
  rw [List.map_cons, show mv G ad (.retAddr k) = .ref (G.2.2.1 k) from if_pos (by omega)] at kk
  exact kk
theorem V.sval (C : Cx G p s mt args meth c own cc nL ret nm A) {idx k : Nat} (hk : k < 22) (hl : Cond.fieldLink own idx "java/lang/String" "value" "[B" ∈ gtb) (hd : decode cc pc = .ok (.getfield idx, 3)) (k1 : V G S ov l p e s mt args below meth c nL fr A ad0 N0 Nf Rz N R (pc + 3) L (.retAddr (k + 1000) :: st) m t) : V G S ov l p e s mt args below meth c nL fr A ad0 N0 Nf Rz N R pc L (.retAddr k :: st) m t := by
  refine V.step (fun ad H locs ls Rm cells slots Q hP hS hL kk => ?_) k1
  rw [List.map_cons, show mv G ad (.retAddr (k + 1000)) = .ref (G.2.2.2 k) by simp [mv]; intro h; omega] at kk
  rw [List.map_cons, show mv G ad (.retAddr k) = .ref (G.2.2.1 k) from if_pos (by omega)]
  exact vk_getf C.1 C.2.1 (C.2.2.2.2.2.2.2.2.2.2.1.1 k hk).2.2.1 hS C.2.2.2.1 (C.2.2.2.2.1 _ hl) (fun x h => h) hd kk
theorem V.scod (C : Cx G p s mt args meth c own cc nL ret nm A) {idx k : Nat} (hk : k < 22) (hl : Cond.fieldLink own idx "java/lang/String" "coder" "B" ∈ gtb) (hd : decode cc pc = .ok (.getfield idx, 3)) (k1 : V G S ov l p e s mt args below meth c nL fr A ad0 N0 Nf Rz N R (pc + 3) L (.int 0 :: st) m t) : V G S ov l p e s mt args below meth c nL fr A ad0 N0 Nf Rz N R pc L (.retAddr k :: st) m t := by
  refine V.step (fun ad H locs ls Rm cells slots Q hP hS hL kk => ?_) k1
  rw [List.map_cons, show mv G ad (.retAddr k) = .ref (G.2.2.1 k) from if_pos (by omega)]
  exact vk_getf C.1 C.2.1 (C.2.2.2.2.2.2.2.2.2.2.1.1 k hk).2.1 hS C.2.2.2.1 (C.2.2.2.2.1 _ hl) (fun x h => h) hd kk
theorem V.scmp (C : Cx G p s mt args meth c own cc nL ret nm A) {idx : Nat} (hl : Cond.fieldLink own idx "java/lang/String" "COMPACT_STRINGS" "Z" ∈ gtb) (hd : decode cc pc = .ok (.getstatic idx, 3)) (k1 : V G S ov l p e s mt args below meth c nL fr A ad0 N0 Nf Rz N R (pc + 3) L (.int 1 :: st) m t) : V G S ov l p e s mt args below meth c nL fr A ad0 N0 Nf Rz N R pc L st m t :=
  V.step (fun ad H locs ls Rm cells slots Q hP hS hL kk => va_gets C.1 C.2.1 C.2.2.2.2.2.2.2.2.2.2.2.2.1 hS C.2.2.2.1 (C.2.2.2.2.1 _ hl) (fun x h => h) hd kk) k1
theorem V.sfmt (C : Cx G p s mt args meth c own cc nL ret nm A) {idx : Nat} (hl : Cond.fieldLink own idx "jdk/internal/util/Preconditions" "SIOOBE_FORMATTER" "Ljava/util/function/BiFunction;" ∈ gtb) (hd : decode cc pc = .ok (.getstatic idx, 3)) (k1 : ∀ v : Value, v.category = 1 → V G S ov l p e s mt args below meth c nL fr A ad0 N0 Nf Rz N R (pc + 3) L (v :: st) m t) : V G S ov l p e s mt args below meth c nL fr A ad0 N0 Nf Rz N R pc L st m t := by
  rcases C.2.2.2.2.2.2.2.2.2.2.2.2.2.1 with h | h
  · exact V.step (fun ad H locs ls Rm cells slots Q hP hS hL kk => va_gets C.1 C.2.1 h hS C.2.2.2.1 (C.2.2.2.2.1 _ hl) (fun x h => h) hd kk) (k1 .null rfl)
  · exact V.step (fun ad H locs ls Rm cells slots Q hP hS hL kk => va_gets C.1 C.2.1 h hS C.2.2.2.1 (C.2.2.2.2.1 _ hl) (fun x h => h) hd kk) (k1 (.retAddr 999) rfl)
theorem V.slen (C : Cx G p s mt args meth c own cc nL ret nm A) {k : Nat} (hk : k < 22) (hd : decode cc pc = .ok (.arraylength, 1)) (k1 : V G S ov l p e s mt args below meth c nL fr A ad0 N0 Nf Rz N R (pc + 1) L (.int (nI (strL.getD k 0)) :: st) m t) : V G S ov l p e s mt args below meth c nL fr A ad0 N0 Nf Rz N R pc L (.retAddr (k + 1000) :: st) m t := by
  refine V.step (fun ad H locs ls Rm cells slots Q hP hS hL kk => ?_) k1
  rw [List.map_cons, show mv G ad (.retAddr (k + 1000)) = .ref (G.2.2.2 k) by simp [mv]; intro h; omega]
  exact va_tlen C.1 C.2.1 (C.2.2.2.2.2.2.2.2.2.2.1.1 k hk).2.2.2 hS rfl hd kk
theorem V.sbald (C : Cx G p s mt args meth c own cc nL ret nm A) {k : Nat} {i : Int32} (hk : k < 22) (hd : decode cc pc = .ok (.baload, 1)) (k1 : vp_in i (strL.getD k 0) → V G S ov l p e s mt args below meth c nL fr A ad0 N0 Nf Rz N R (pc + 1) L (.int ((strB.getD k []).getD (ix i) 0) :: st) m t) : V G S ov l p e s mt args below meth c nL fr A ad0 N0 Nf Rz N R pc L (.int i :: .retAddr (k + 1000) :: st) m (chk (inb i (strL.getD k 0)) t) := by
  refine V.ck (fun hb1 => have hi := inb_in hb1; V.step (fun ad H locs ls Rm cells slots Q hP hS hL kk => ?_) (k1 hi))
  rw [List.map_cons, List.map_cons, show mv G ad (.retAddr (k + 1000)) = .ref (G.2.2.2 k) by simp [mv]; intro h; omega]
  exact va_tb C.1 C.2.1 (C.2.2.2.2.2.2.2.2.2.2.1.1 k hk).2.2.2 hS hi rfl hd kk
theorem qx_end {ov : α → Option Value} {r : α} {H : Heap} {locs : List Loc} {ad : Nat → Nat} (had : AdOK N0 Nf ad0 ad) (hP : va_P G.1 vwCl (wl G S ad Nf Rz m) H) (hD : va_D A (wl G S ad Nf Rz m)) (hS : va_S A s.heap H locs) (u : State) (hu : u.heap = H) : Qx ov G S ad0 N0 Nf Rz A r m args s (.returned (ov r)) u :=
  ⟨⟨rfl, ad, had, by rw [hu]; exact hP, hD⟩, hS.F hu⟩
theorem V.iret {A : Nat → Prop} {G : Gt} {x : Int32} (C : Cx G p s mt args meth c own cc nL (some .int) nm A) (hd : decode cc pc = .ok (.ireturn, 1)) : V G S oI l p e s mt args below meth c nL fr A ad0 N0 Nf Rz Nf Rz pc L [.int x] m (some (x, m)) := by
  intro r mF ht
  cases ht
  exact ⟨Nat.le_refl _, fun ad H locs ls h0 h1 h2 h3 h4 h5 => W.iret C.1 C.2.1 C.2.2.2.2.2.2.1 (fun u hu _ => qx_end h1 h2 h3 h4 u hu) h4.2.2 hd C.2.2.2.2.2.1⟩
theorem V.zret {A : Nat → Prop} {G : Gt} {x : Int32} {ty : FieldType} (hn : narrow ty (.int x) = .int x) (C : Cx G p s mt args meth c own cc nL (some ty) nm A) (hd : decode cc pc = .ok (.ireturn, 1)) : V G S oI l p e s mt args below meth c nL fr A ad0 N0 Nf Rz Nf Rz pc L [.int x] m (some (x, m)) := by
  intro r mF ht
  cases ht
  exact ⟨Nat.le_refl _, fun ad H locs ls h0 h1 h2 h3 h4 h5 => W.zret C.1 C.2.1 C.2.2.2.2.2.2.1 hn (fun u hu _ => qx_end h1 h2 h3 h4 u hu) h4.2.2 hd C.2.2.2.2.2.1⟩
theorem V.bret {A : Nat → Prop} {G : Gt} {x : Int32} (C : Cx G p s mt args meth c own cc nL (some .boolean) nm A) (hd : decode cc pc = .ok (.ireturn, 1)) : V G S oI l p e s mt args below meth c nL fr A ad0 N0 Nf Rz Nf Rz pc L [.int x] m (chk (decide (x = 0 ∨ x = 1)) (some (x, m))) :=
  V.ck (fun hx => V.zret (by rcases of_decide_eq_true hx with rfl | rfl <;> rfl) C hd)
theorem V.cret {A : Nat → Prop} {G : Gt} {x : Int32} (C : Cx G p s mt args meth c own cc nL (some .char) nm A) (hd : decode cc pc = .ok (.ireturn, 1)) : V G S oI l p e s mt args below meth c nL fr A ad0 N0 Nf Rz Nf Rz pc L [.int x] m (chk (decide (narrow .char (.int x) = .int x)) (some (x, m))) :=
  V.ck (fun hx => V.zret (of_decide_eq_true hx) C hd)
theorem V.lret {A : Nat → Prop} {G : Gt} {x : Int64} (C : Cx G p s mt args meth c own cc nL (some .long) nm A) (hd : decode cc pc = .ok (.lreturn, 1)) : V G S oL l p e s mt args below meth c nL fr A ad0 N0 Nf Rz Nf Rz pc L [.long x] m (some (x, m)) := by
  intro r mF ht
  cases ht
  exact ⟨Nat.le_refl _, fun ad H locs ls h0 h1 h2 h3 h4 h5 => W.lret C.1 C.2.1 C.2.2.2.2.2.2.1 (fun u hu _ => qx_end h1 h2 h3 h4 u hu) h4.2.2 hd C.2.2.2.2.2.1⟩
theorem V.vret {A : Nat → Prop} {G : Gt} (C : Cx G p s mt args meth c own cc nL none nm A) (hd : decode cc pc = .ok (.return_, 1)) : V G S oV l p e s mt args below meth c nL fr A ad0 N0 Nf Rz Nf Rz pc L [] m (some ((), m)) := by
  intro r mF ht
  cases ht
  exact ⟨Nat.le_refl _, fun ad H locs ls h0 h1 h2 h3 h4 h5 => W.vret C.1 C.2.1 C.2.2.2.2.2.2.1 (fun u hu _ => qx_end h1 h2 h3 h4 u hu) h4.2.2 hd C.2.2.2.2.2.1⟩
end VR
