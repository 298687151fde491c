theorem U.sldN {G : Gt} {l : Launch} {p : Program} {e : Env} {s : State} {mt : MethodId} {b : Nat} {below : List Frame} {meth : Method} {c : Code} {Ln : Nat} {xs : Nat → Int32} {N : Nat} {pc : Nat} {L : List (Nat × Value)} {st : List Value} {mx mm : Mem} (C : CU G p s mt meth c b Ln xs) {x : Int32} {j : Nat} (hd : decode code pc = .ok (.iaload, 1)) (hx : x = nI j) (hj : j < Ln) (hLn : Ln ≤ 3072) (k : U G l p e s mt b below meth c N (pc + 1) L (.int (xs j) :: st) mx mm) : U G l p e s mt b below meth c N pc L (.int x :: .retAddr 0 :: st) mx mm := by
  subst hx
  refine U.sld C hd (vp_in_nI hj (by omega)) ?_
  rw [nI_clamp (by omega)]
  exact k
def St_feed (Rel : Nat → Nat → Mem → Mem → Prop) : Prop := ∀ (k N : Nat) (mx mm : Mem), k < 512 → Rel k N mx mm → ∀ (a1 : Int32) (a2 : Int32) (a3 : Int32) (a4 : Int32) (a5 : Int32), ∃ (r : Int32) (mx1 mm1 : Mem), X11_feed a1 a2 a3 a4 a5 mx = some (r, mx1) ∧ X12_feed a1 a2 a3 a4 a5 mm = some (r, mm1) ∧ Rel (k + 1) N mx1 mm1
def St_bureau (Rel : Nat → Nat → Mem → Mem → Prop) : Prop := ∀ (k N : Nat) (mx mm : Mem), k < 512 → Rel k N mx mm → ∀ (a1 : Int32), ∃ (r : Int32) (mx1 mm1 : Mem), X11_bureau a1 mx = some (r, mx1) ∧ X12_bureau a1 mm = some (r, mm1) ∧ Rel (k + 1) N mx1 mm1
def St_fault (Rel : Nat → Nat → Mem → Mem → Prop) : Prop := ∀ (k N : Nat) (mx mm : Mem), k < 512 → Rel k N mx mm → ∀ (a1 : Int32), ∃ (r : Int32) (mx1 mm1 : Mem), X11_fault a1 mx = some (r, mx1) ∧ X12_fault a1 mm = some (r, mm1) ∧ Rel (k + 1) N mx1 mm1
def St_person (Rel : Nat → Nat → Mem → Mem → Prop) : Prop := ∀ (k N : Nat) (mx mm : Mem), k < 512 → Rel k N mx mm → ∀ (a1 : Int32) (a2 : Int32), ∃ (r : Int32) (mx1 mm1 : Mem), X11_person a1 a2 mx = some (r, mx1) ∧ X12_person a1 a2 mm = some (r, mm1) ∧ Rel (k + 1) N mx1 mm1
def St_since (Rel : Nat → Nat → Mem → Mem → Prop) : Prop := ∀ (k N : Nat) (mx mm : Mem), k < 512 → Rel k N mx mm → ∀ (a1 : Int32) (a2 : Int32), ∃ (r : Int32) (mx1 mm1 : Mem), X11_since a1 a2 mx = some (r, mx1) ∧ X12_since a1 a2 mm = some (r, mm1) ∧ Rel (k + 1) N mx1 mm1
def St_thing (Rel : Nat → Nat → Mem → Mem → Prop) : Prop := ∀ (k N : Nat) (mx mm : Mem), k < 512 → Rel k N mx mm → ∀ (a1 : Int32) (a2 : Int32), ∃ (r : Int32) (mx1 mm1 : Mem), X11_thing a1 a2 mx = some (r, mx1) ∧ X12_thing a1 a2 mm = some (r, mm1) ∧ Rel (k + 1) N mx1 mm1
def St_pair (Rel : Nat → Nat → Mem → Mem → Prop) : Prop := ∀ (k N : Nat) (mx mm : Mem), k < 512 → Rel k N mx mm → ∀ (a1 : Int32) (a2 : Int32) (a3 : Int32), ∃ (r : Int32) (mx1 mm1 : Mem), X11_pair a1 a2 a3 mx = some (r, mx1) ∧ X12_pair a1 a2 a3 mm = some (r, mm1) ∧ Rel (k + 1) N mx1 mm1
def St_good (Rel : Nat → Nat → Mem → Mem → Prop) : Prop := ∀ (k N : Nat) (mx mm : Mem), k < 512 → Rel k N mx mm → ∀ (a1 : Int32) (a2 : Int32), ∃ (r : Int32) (mx1 mm1 : Mem), X11_good a1 a2 mx = some (r, mx1) ∧ X12_good a1 a2 mm = some (r, mm1) ∧ Rel (k + 1) N mx1 mm1
def St_may (Rel : Nat → Nat → Mem → Mem → Prop) : Prop := ∀ (k N : Nat) (mx mm : Mem), k < 512 → Rel k N mx mm → ∀ (a1 : Int32) (a2 : Int32), ∃ (r : Int32) (mx1 mm1 : Mem), X11_may a1 a2 mx = some (r, mx1) ∧ X12_may a1 a2 mm = some (r, mm1) ∧ Rel (k + 1) N mx1 mm1
def St_wed (Rel : Nat → Nat → Mem → Mem → Prop) : Prop := ∀ (k N : Nat) (mx mm : Mem), k < 512 → Rel k N mx mm → ∀ (a1 : Int32) (a2 : Int32), ∃ (r : Int32) (mx1 mm1 : Mem), X11_wed a1 a2 mx = some (r, mx1) ∧ X12_wed a1 a2 mm = some (r, mm1) ∧ Rel (k + 1) N mx1 mm1
def St_part (Rel : Nat → Nat → Mem → Mem → Prop) : Prop := ∀ (k N : Nat) (mx mm : Mem), k < 512 → Rel k N mx mm → ∀ (a1 : Int32), ∃ (r : Int32) (mx1 mm1 : Mem), X11_part a1 mx = some (r, mx1) ∧ X12_part a1 mm = some (r, mm1) ∧ Rel (k + 1) N mx1 mm1
def St_takes (Rel : Nat → Nat → Mem → Mem → Prop) : Prop := ∀ (k N : Nat) (mx mm : Mem), k < 512 → Rel k N mx mm → ∀ (a1 : Int32) (a2 : Int32), ∃ (r : Int32) (mx1 mm1 : Mem), X11_takes a1 a2 mx = some (r, mx1) ∧ X12_takes a1 a2 mm = some (r, mm1) ∧ Rel (k + 1) N mx1 mm1
def St_copies (Rel : Nat → Nat → Mem → Mem → Prop) : Prop := ∀ (k N : Nat) (mx mm : Mem), k < 512 → Rel k N mx mm → ∀ (a1 : Int32) (a2 : Int32), ∃ (r : Int32) (mx1 mm1 : Mem), X11_copies a1 a2 mx = some (r, mx1) ∧ X12_copies a1 a2 mm = some (r, mm1) ∧ Rel (k + 1) N mx1 mm1
def St_years (Rel : Nat → Nat → Mem → Mem → Prop) : Prop := ∀ (k N : Nat) (mx mm : Mem), k < 512 → Rel k N mx mm → ∀ (a1 : Int32), ∃ (r : Int32) (mx1 mm1 : Mem), X11_years a1 mx = some (r, mx1) ∧ X12_years a1 mm = some (r, mm1) ∧ Rel (k + 1) N mx1 mm1
def St_undo (Rel : Nat → Nat → Mem → Mem → Prop) : Prop := ∀ (k N : Nat) (mx mm : Mem), k < 512 → Rel k N mx mm → ∀ (a1 : Int32), ∃ (r : Int32) (mx1 mm1 : Mem), X11_undo a1 mx = some (r, mx1) ∧ X12_undo a1 mm = some (r, mm1) ∧ Rel (k + 1) N mx1 mm1
def St_judge (Rel : Nat → Nat → Mem → Mem → Prop) : Prop := ∀ (k N : Nat) (mx mm : Mem), k < 512 → Rel k N mx mm → ∀ (a1 : Int32) (a2 : Int32), ∃ (r : Int32) (mx1 mm1 : Mem), X11_judge a1 a2 mx = some (r, mx1) ∧ X12_judge a1 a2 mm = some (r, mm1) ∧ Rel (k + 1) N mx1 mm1
def St_perform (Rel : Nat → Nat → Mem → Mem → Prop) : Prop := ∀ (k N : Nat) (mx mm : Mem), k < 512 → Rel k N mx mm → ∀ (a1 : Int32), ∃ (r : Int32) (mx1 mm1 : Mem), X11_perform a1 mx = some (r, mx1) ∧ X12_perform a1 mm = some (r, mm1) ∧ Rel (k + 1) N mx1 mm1
def St_season (Rel : Nat → Nat → Mem → Mem → Prop) : Prop := ∀ (k N : Nat) (mx mm : Mem), k < 512 → Rel k N mx mm → ∀ (a1 : Int32) (a2 : Int32), ∃ (r : Int32) (mx1 mm1 : Mem), X11_season a1 a2 mx = some (r, mx1) ∧ X12_season a1 a2 mm = some (r, mm1) ∧ Rel (k + 1) N mx1 mm1
def St_matchings (Rel : Nat → Nat → Mem → Mem → Prop) : Prop := ∀ (k N : Nat) (mx mm : Mem), k < 512 → Rel k N mx mm → ∀ (a1 : Int32), ∃ (r : Int32) (mx1 mm1 : Mem), X11_matchings a1 mx = some (r, mx1) ∧ X12_matchings a1 mm = some (r, mm1) ∧ Rel (k + 1) N mx1 mm1
def St_most (Rel : Nat → Nat → Mem → Mem → Prop) : Prop := ∀ (k N : Nat) (mx mm : Mem), k < 512 → Rel k N mx mm → ∀ (a1 : Int32), ∃ (r : Int32) (mx1 mm1 : Mem), X11_most a1 mx = some (r, mx1) ∧ X12_most a1 mm = some (r, mm1) ∧ Rel (k + 1) N mx1 mm1
def St_stable (Rel : Nat → Nat → Mem → Mem → Prop) : Prop := ∀ (k N : Nat) (mx mm : Mem), k < 512 → Rel k N mx mm → ∀ (a1 : Int32), ∃ (r : Int32) (mx1 mm1 : Mem), X11_stable a1 mx = some (r, mx1) ∧ X12_stable a1 mm = some (r, mm1) ∧ Rel (k + 1) N mx1 mm1
def St_breaks (Rel : Nat → Nat → Mem → Mem → Prop) : Prop := ∀ (k N : Nat) (mx mm : Mem), k < 512 → Rel k N mx mm → ∃ (r : Int32) (mx1 mm1 : Mem), X11_breaks  mx = some (r, mx1) ∧ X12_breaks  mm = some (r, mm1) ∧ Rel (k + 1) N mx1 mm1
def St_matchAll (Rel : Nat → Nat → Mem → Mem → Prop) : Prop := ∀ (k N : Nat) (mx mm : Mem), k < 512 → Rel k N mx mm → ∃ (r : Int32) (mx1 mm1 : Mem), X11_matchAll  mx = some (r, mx1) ∧ X12_matchAll  mm = some (r, mm1) ∧ Rel (k + 1) N mx1 mm1
def St_dearest (Rel : Nat → Nat → Mem → Mem → Prop) : Prop := ∀ (k N : Nat) (mx mm : Mem), k < 512 → Rel k N mx mm → ∀ (a1 : Int32), ∃ (r : Int32) (mx1 mm1 : Mem), X11_dearest a1 mx = some (r, mx1) ∧ X12_dearest a1 mm = some (r, mm1) ∧ Rel (k + 1) N mx1 mm1
def St_holds (Rel : Nat → Nat → Mem → Mem → Prop) : Prop := ∀ (k N : Nat) (mx mm : Mem), k < 512 → Rel k N mx mm → ∀ (a1 : Int32) (a2 : Int32), ∃ (r : Int32) (mx1 mm1 : Mem), X11_holds a1 a2 mx = some (r, mx1) ∧ X12_holds a1 a2 mm = some (r, mm1) ∧ Rel (k + 1) N mx1 mm1
def St_goodIn (Rel : Nat → Nat → Mem → Mem → Prop) : Prop := ∀ (k N : Nat) (mx mm : Mem), k < 512 → Rel k N mx mm → ∀ (a1 : Int32) (a2 : Int32) (a3 : Int32), ∃ (r : Int32) (mx1 mm1 : Mem), X11_goodIn a1 a2 a3 mx = some (r, mx1) ∧ X12_goodIn a1 a2 a3 mm = some (r, mm1) ∧ Rel (k + 1) N mx1 mm1
def St_lasting (Rel : Nat → Nat → Mem → Mem → Prop) : Prop := ∀ (k N : Nat) (mx mm : Mem), k < 512 → Rel k N mx mm → ∀ (a1 : Int32) (a2 : Int32), ∃ (r : Int32) (mx1 mm1 : Mem), X11_lasting a1 a2 mx = some (r, mx1) ∧ X12_lasting a1 a2 mm = some (r, mm1) ∧ Rel (k + 1) N mx1 mm1
def St_later (Rel : Nat → Nat → Mem → Mem → Prop) : Prop := ∀ (k N : Nat) (mx mm : Mem), k < 512 → Rel k N mx mm → ∀ (a1 : Int32) (a2 : Int32), ∃ (r : Int32) (mx1 mm1 : Mem), X11_later a1 a2 mx = some (r, mx1) ∧ X12_later a1 a2 mm = some (r, mm1) ∧ Rel (k + 1) N mx1 mm1
def St_byWhen (Rel : Nat → Nat → Mem → Mem → Prop) : Prop := ∀ (k N : Nat) (mx mm : Mem), k < 512 → Rel k N mx mm → ∀ (a1 : Int32) (a2 : Int32), ∃ (r : Int32) (mx1 mm1 : Mem), X11_byWhen a1 a2 mx = some (r, mx1) ∧ X12_byWhen a1 a2 mm = some (r, mm1) ∧ Rel (k + 1) N mx1 mm1
def St_leftFor (Rel : Nat → Nat → Mem → Mem → Prop) : Prop := ∀ (k N : Nat) (mx mm : Mem), k < 512 → Rel k N mx mm → ∀ (a1 : Int32) (a2 : Int32) (a3 : Int32), ∃ (r : Int32) (mx1 mm1 : Mem), X11_leftFor a1 a2 a3 mx = some (r, mx1) ∧ X12_leftFor a1 a2 a3 mm = some (r, mm1) ∧ Rel (k + 1) N mx1 mm1
def St_fib (Rel : Nat → Nat → Mem → Mem → Prop) : Prop := ∀ (k N : Nat) (mx mm : Mem), k < 512 → Rel k N mx mm → ∀ (a1 : Int32) (a2 : Int32) (a3 : Int32), ∃ (r : Int32) (mx1 mm1 : Mem), X11_fib a1 a2 a3 mx = some (r, mx1) ∧ X12_fib a1 a2 a3 mm = some (r, mm1) ∧ Rel (k + 1) N mx1 mm1
def St_strikes (Rel : Nat → Nat → Mem → Mem → Prop) : Prop := ∀ (k N : Nat) (mx mm : Mem), k < 512 → Rel k N mx mm → ∀ (a1 : Int32) (a2 : Int32) (a3 : Int32), ∃ (r : Int32) (mx1 mm1 : Mem), X11_strikes a1 a2 a3 mx = some (r, mx1) ∧ X12_strikes a1 a2 a3 mm = some (r, mm1) ∧ Rel (k + 1) N mx1 mm1
def St_sharer (Rel : Nat → Nat → Mem → Mem → Prop) : Prop := ∀ (k N : Nat) (mx mm : Mem), k < 512 → Rel k N mx mm → ∀ (a1 : Int32), ∃ (r : Int32) (mx1 mm1 : Mem), X11_sharer a1 mx = some (r, mx1) ∧ X12_sharer a1 mm = some (r, mm1) ∧ Rel (k + 1) N mx1 mm1
def St_pieced (Rel : Nat → Nat → Mem → Mem → Prop) : Prop := ∀ (k N : Nat) (mx mm : Mem), k < 512 → Rel k N mx mm → ∀ (a1 : Int32) (a2 : Int32), ∃ (r : Int32) (mx1 mm1 : Mem), X11_pieced a1 a2 mx = some (r, mx1) ∧ X12_pieced a1 a2 mm = some (r, mm1) ∧ Rel (k + 1) N mx1 mm1
def St_child (Rel : Nat → Nat → Mem → Mem → Prop) : Prop := ∀ (k N : Nat) (mx mm : Mem), k < 512 → Rel k N mx mm → ∀ (a1 : Int32) (a2 : Int32), ∃ (r : Int32) (mx1 mm1 : Mem), X11_child a1 a2 mx = some (r, mx1) ∧ X12_child a1 a2 mm = some (r, mm1) ∧ Rel (k + 1) N mx1 mm1
def St_houses (Rel : Nat → Nat → Mem → Mem → Prop) : Prop := ∀ (k N : Nat) (mx mm : Mem), k < 512 → Rel k N mx mm → ∀ (a1 : Int32) (a2 : Int32), ∃ (r : Int32) (mx1 mm1 : Mem), X11_houses a1 a2 mx = some (r, mx1) ∧ X12_houses a1 a2 mm = some (r, mm1) ∧ Rel (k + 1) N mx1 mm1
def St_biggest (Rel : Nat → Nat → Mem → Mem → Prop) : Prop := ∀ (k N : Nat) (mx mm : Mem), k < 512 → Rel k N mx mm → ∀ (a1 : Int32) (a2 : Int32), ∃ (r : Int32) (mx1 mm1 : Mem), X11_biggest a1 a2 mx = some (r, mx1) ∧ X12_biggest a1 a2 mm = some (r, mm1) ∧ Rel (k + 1) N mx1 mm1
def St_peace (Rel : Nat → Nat → Mem → Mem → Prop) : Prop := ∀ (k N : Nat) (mx mm : Mem), k < 512 → Rel k N mx mm → ∃ (r : Int32) (mx1 mm1 : Mem), X11_peace  mx = some (r, mx1) ∧ X12_peace  mm = some (r, mm1) ∧ Rel (k + 1) N mx1 mm1
def St_angry (Rel : Nat → Nat → Mem → Mem → Prop) : Prop := ∀ (k N : Nat) (mx mm : Mem), k < 512 → Rel k N mx mm → ∃ (r : Int32) (mx1 mm1 : Mem), X11_angry  mx = some (r, mx1) ∧ X12_angry  mm = some (r, mm1) ∧ Rel (k + 1) N mx1 mm1
def St_numbers (Rel : Nat → Nat → Mem → Mem → Prop) : Prop := ∀ (k N : Nat) (mx mm : Mem), k < 512 → Rel k N mx mm → ∀ (a1 : Int32) (a2 : Int32) (a3 : Int32), ∃ (r : Int32) (mx1 mm1 : Mem), X11_numbers a1 a2 a3 mx = some (r, mx1) ∧ X12_numbers a1 a2 a3 mm = some (r, mm1) ∧ Rel (k + 1) N mx1 mm1
def St_write (Rel : Nat → Nat → Mem → Mem → Prop) : Prop := ∀ (k N : Nat) (mx mm : Mem), k < 512 → Rel k N mx mm → ∀ (a1 : Int32) (a2 : Int32) (a3 : Int64), ∃ (r : Int64) (mx1 mm1 : Mem), X11_write a1 a2 a3 mx = some (r, mx1) ∧ X12_write a1 a2 a3 mm = some (r, mm1) ∧ Rel (k + 1) N mx1 mm1
def St_lists (Rel : Nat → Nat → Mem → Mem → Prop) : Prop := ∀ (k N : Nat) (mx mm : Mem), k < 512 → Rel k N mx mm → ∀ (a1 : Int32), ∃ (r : Int32) (mx1 mm1 : Mem), X11_lists a1 mx = some (r, mx1) ∧ X12_lists a1 mm = some (r, mm1) ∧ Rel (k + 1) N mx1 mm1
def St_image (Rel : Nat → Nat → Mem → Mem → Prop) : Prop := ∀ (k N : Nat) (mx mm : Mem), k < 512 → Rel k N mx mm → ∀ a1 : Int32, (∃ (r : Int32) (mx1 mm1 : Mem), X11_image N a1 mx = some (r, mx1) ∧ X12_image a1 mm = some (r, mm1) ∧ Rel (k + 1) N mx1 mm1) ∨ ((N = 109 ∨ N = 123) ∧ NK SX N RX mx ∧ ∃ (r : Int32) (mx1 mm1 : Mem), X11_imageN N a1 mx = some (r, mx1) ∧ X12_image a1 mm = some (r, mm1) ∧ Rel (k + 1) (N + 14) mx1 mm1)
def St_restore (Rel : Nat → Nat → Mem → Mem → Prop) : Prop := ∀ (k N : Nat) (mx mm : Mem), k < 512 → Rel k N mx mm → ∀ (a1 : Int32), ∃ (r : Int32) (mx1 mm1 : Mem), X11_restore N a1 mx = some (r, mx1) ∧ X12_restore a1 mm = some (r, mm1) ∧ Rel (k + 1) N mx1 mm1
def St_count (Rel : Nat → Nat → Mem → Mem → Prop) : Prop := ∀ (k N : Nat) (mx mm : Mem), k < 512 → Rel k N mx mm → ∀ (a1 : Int32), ∃ (r : Int32) (mx1 mm1 : Mem), X11_count a1 mx = some (r, mx1) ∧ X12_count a1 mm = some (r, mm1) ∧ Rel (k + 1) N mx1 mm1
theorem e0 (k : Nat) : nI (6 * k) = nI (6 * k + 0) := rfl
theorem e1 (k : Nat) : nI (6 * k) + 1 = nI (6 * k + 1) := nI_add (6 * k) 1
theorem e2 (k : Nat) : nI (6 * k) + 2 = nI (6 * k + 2) := nI_add (6 * k) 2
theorem e3 (k : Nat) : nI (6 * k) + 3 = nI (6 * k + 3) := nI_add (6 * k) 3
theorem e4 (k : Nat) : nI (6 * k) + 4 = nI (6 * k + 4) := nI_add (6 * k) 4
theorem e5 (k : Nat) : nI (6 * k) + 5 = nI (6 * k + 5) := nI_add (6 * k) 5
theorem lg_self (r : Int64) : lg_cmp r r = 0 := by simp [lg_cmp]
set_option maxRecDepth 100000 in
set_option maxHeartbeats 4000000 in
theorem cs_0 {G : Gt} {l : Launch} {p : Program} {e : Env} {s : State} {mt : MethodId} {b : Nat} {below : List Frame} {meth : Method} {c : Code} {Ln : Nat} {xs : Nat → Int32} (C : CU G p s mt meth c b Ln xs) (hLn : Ln ≤ 3072) {Rel : Nat → Nat → Mem → Mem → Prop} (hs : St_feed Rel) {k N : Nat} {mx mm : Mem} (hk : 6 * k + 6 ≤ Ln) (hN : 109 ≤ N) (hN2 : N ≤ 137) (hR : Rel k N mx mm) (K : ∀ (N1 : Nat) (mx1 mm1 : Mem), Rel (k + 1) N1 mx1 mm1 → U G l p e s mt b below meth c N1 1614 [(3, .int (nI (6 * k))), (2, .retAddr 2), (1, .retAddr 1), (0, .retAddr 0)] [] mx1 mm1) : U G l p e s mt b below meth c N 228 [(3, .int (nI (6 * k))), (2, .retAddr 2), (1, .retAddr 1), (0, .retAddr 0)] [] mx mm := by
  obtain ⟨r, mx1, mm1, h1, h2, h3⟩ := hs k N mx mm (by omega) hR (xs (6 * k + 1)) (xs (6 * k + 2)) (xs (6 * k + 3)) (xs (6 * k + 4)) (xs (6 * k + 5))
  refine U.aload1 (pc := 228) C dL_law_228 2 rfl ?_
  refine U.aload0 (pc := 229) C dL_law_229 3 rfl ?_
  refine U.iload_n (pc := 230) C dL_law_230 0 rfl ?_
  refine U.iconst (pc := 231) C dL_law_231 (v := 1) (by decide) ?_
  refine U.iadd (pc := 232) C dL_law_232 ?_
  refine U.sldN (pc := 233) (j := 6 * k + 1) C dL_law_233 (e1 k) (by omega) hLn ?_
  refine U.aload0 (pc := 234) C dL_law_234 3 rfl ?_
  refine U.iload_n (pc := 235) C dL_law_235 0 rfl ?_
  refine U.iconst (pc := 236) C dL_law_236 (v := 2) (by decide) ?_
  refine U.iadd (pc := 237) C dL_law_237 ?_
  refine U.sldN (pc := 238) (j := 6 * k + 2) C dL_law_238 (e2 k) (by omega) hLn ?_
  refine U.aload0 (pc := 239) C dL_law_239 3 rfl ?_
  refine U.iload_n (pc := 240) C dL_law_240 0 rfl ?_
  refine U.iconst (pc := 241) C dL_law_241 (v := 3) (by decide) ?_
  refine U.iadd (pc := 242) C dL_law_242 ?_
  refine U.sldN (pc := 243) (j := 6 * k + 3) C dL_law_243 (e3 k) (by omega) hLn ?_
  refine U.aload0 (pc := 244) C dL_law_244 3 rfl ?_
  refine U.iload_n (pc := 245) C dL_law_245 0 rfl ?_
  refine U.iconst (pc := 246) C dL_law_246 (v := 4) (by decide) ?_
  refine U.iadd (pc := 247) C dL_law_247 ?_
  refine U.sldN (pc := 248) (j := 6 * k + 4) C dL_law_248 (e4 k) (by omega) hLn ?_
  refine U.aload0 (pc := 249) C dL_law_249 3 rfl ?_
  refine U.iload_n (pc := 250) C dL_law_250 0 rfl ?_
  refine U.iconst (pc := 251) C dL_law_251 (v := 5) (by decide) ?_
  refine U.iadd (pc := 252) C dL_law_252 ?_
  refine U.sldN (pc := 253) (j := 6 * k + 5) C dL_law_253 (e5 k) (by omega) hLn ?_
  refine U.callX (pc := 254) (st := []) (N1 := N) C (c_X11_feed l hN (xs (6 * k + 1)) (xs (6 * k + 2)) (xs (6 * k + 3)) (xs (6 * k + 4)) (xs (6 * k + 5)) mx) h1 (fun _ _ => rfl) (fun _ _ _ _ _ => ⟨rfl, rfl⟩) ck_X11_feed ml_RL_13 rfl (by omega) (by omega) (by omega) (by rw [Nat.sub_self]; exact Nat.zero_le _) rfl rfl (Nat.le_of_ble_eq_true rfl) ⟨by decide, by decide⟩ dL_law_254 ?_
  refine U.aload2 (pc := 257) C dL_law_257 1 rfl ?_
  refine U.aload0 (pc := 258) C dL_law_258 3 rfl ?_
  refine U.iload_n (pc := 259) C dL_law_259 0 rfl ?_
  refine U.iconst (pc := 260) C dL_law_260 (v := 1) (by decide) ?_
  refine U.iadd (pc := 261) C dL_law_261 ?_
  refine U.sldN (pc := 262) (j := 6 * k + 1) C dL_law_262 (e1 k) (by omega) hLn ?_
  refine U.aload0 (pc := 263) C dL_law_263 3 rfl ?_
  refine U.iload_n (pc := 264) C dL_law_264 0 rfl ?_
  refine U.iconst (pc := 265) C dL_law_265 (v := 2) (by decide) ?_
  refine U.iadd (pc := 266) C dL_law_266 ?_
  refine U.sldN (pc := 267) (j := 6 * k + 2) C dL_law_267 (e2 k) (by omega) hLn ?_
  refine U.aload0 (pc := 268) C dL_law_268 3 rfl ?_
  refine U.iload_n (pc := 269) C dL_law_269 0 rfl ?_
  refine U.iconst (pc := 270) C dL_law_270 (v := 3) (by decide) ?_
  refine U.iadd (pc := 271) C dL_law_271 ?_
  refine U.sldN (pc := 272) (j := 6 * k + 3) C dL_law_272 (e3 k) (by omega) hLn ?_
  refine U.aload0 (pc := 273) C dL_law_273 3 rfl ?_
  refine U.iload_n (pc := 274) C dL_law_274 0 rfl ?_
  refine U.iconst (pc := 275) C dL_law_275 (v := 4) (by decide) ?_
  refine U.iadd (pc := 276) C dL_law_276 ?_
  refine U.sldN (pc := 277) (j := 6 * k + 4) C dL_law_277 (e4 k) (by omega) hLn ?_
  refine U.aload0 (pc := 278) C dL_law_278 3 rfl ?_
  refine U.iload_n (pc := 279) C dL_law_279 0 rfl ?_
  refine U.iconst (pc := 280) C dL_law_280 (v := 5) (by decide) ?_
  refine U.iadd (pc := 281) C dL_law_281 ?_
  refine U.sldN (pc := 282) (j := 6 * k + 5) C dL_law_282 (e5 k) (by omega) hLn ?_
  refine U.callM (pc := 283) (st := [.int r]) C (c_X12_feed l (xs (6 * k + 1)) (xs (6 * k + 2)) (xs (6 * k + 3)) (xs (6 * k + 4)) (xs (6 * k + 5)) mm) h2 (fun _ _ => rfl) (fun _ _ _ _ _ => ⟨rfl, rfl⟩) ck_X12_feed ml_RL_17 rfl (by omega) rfl rfl (Nat.le_of_ble_eq_true rfl) ⟨by decide, by decide⟩ dL_law_283 ?_
  refine U.ieqT (pc := 286) C dL_law_286 1614 (by decide) rfl ?_
  exact K _ _ _ h3
set_option maxRecDepth 100000 in
set_option maxHeartbeats 4000000 in
theorem cs_1 {G : Gt} {l : Launch} {p : Program} {e : Env} {s : State} {mt : MethodId} {b : Nat} {below : List Frame} {meth : Method} {c : Code} {Ln : Nat} {xs : Nat → Int32} (C : CU G p s mt meth c b Ln xs) (hLn : Ln ≤ 3072) {Rel : Nat → Nat → Mem → Mem → Prop} (hs : St_bureau Rel) {k N : Nat} {mx mm : Mem} (hk : 6 * k + 6 ≤ Ln) (hN : 109 ≤ N) (hN2 : N ≤ 137) (hR : Rel k N mx mm) (K : ∀ (N1 : Nat) (mx1 mm1 : Mem), Rel (k + 1) N1 mx1 mm1 → U G l p e s mt b below meth c N1 1614 [(3, .int (nI (6 * k))), (2, .retAddr 2), (1, .retAddr 1), (0, .retAddr 0)] [] mx1 mm1) : U G l p e s mt b below meth c N 291 [(3, .int (nI (6 * k))), (2, .retAddr 2), (1, .retAddr 1), (0, .retAddr 0)] [] mx mm := by
  obtain ⟨r, mx1, mm1, h1, h2, h3⟩ := hs k N mx mm (by omega) hR (xs (6 * k + 1))
  refine U.aload1 (pc := 291) C dL_law_291 2 rfl ?_
  refine U.aload0 (pc := 292) C dL_law_292 3 rfl ?_
  refine U.iload_n (pc := 293) C dL_law_293 0 rfl ?_
  refine U.iconst (pc := 294) C dL_law_294 (v := 1) (by decide) ?_
  refine U.iadd (pc := 295) C dL_law_295 ?_
  refine U.sldN (pc := 296) (j := 6 * k + 1) C dL_law_296 (e1 k) (by omega) hLn ?_
  refine U.callX (pc := 297) (st := []) (N1 := N) C (c_X11_bureau l hN (xs (6 * k + 1)) mx) h1 (fun _ _ => rfl) (fun _ _ _ _ _ => ⟨rfl, rfl⟩) ck_X11_bureau ml_RL_18 rfl (by omega) (by omega) (by omega) (by rw [Nat.sub_self]; exact Nat.zero_le _) rfl rfl (Nat.le_of_ble_eq_true rfl) ⟨by decide, by decide⟩ dL_law_297 ?_
  refine U.aload2 (pc := 300) C dL_law_300 1 rfl ?_
  refine U.aload0 (pc := 301) C dL_law_301 3 rfl ?_
  refine U.iload_n (pc := 302) C dL_law_302 0 rfl ?_
  refine U.iconst (pc := 303) C dL_law_303 (v := 1) (by decide) ?_
  refine U.iadd (pc := 304) C dL_law_304 ?_
  refine U.sldN (pc := 305) (j := 6 * k + 1) C dL_law_305 (e1 k) (by omega) hLn ?_
  refine U.callM (pc := 306) (st := [.int r]) C (c_X12_bureau l (xs (6 * k + 1)) mm) h2 (fun _ _ => rfl) (fun _ _ _ _ _ => ⟨rfl, rfl⟩) ck_X12_bureau ml_RL_22 rfl (by omega) rfl rfl (Nat.le_of_ble_eq_true rfl) ⟨by decide, by decide⟩ dL_law_306 ?_
  refine U.ieqT (pc := 309) C dL_law_309 1614 (by decide) rfl ?_
  exact K _ _ _ h3
set_option maxRecDepth 100000 in
set_option maxHeartbeats 4000000 in
theorem cs_2 {G : Gt} {l : Launch} {p : Program} {e : Env} {s : State} {mt : MethodId} {b : Nat} {below : List Frame} {meth : Method} {c : Code} {Ln : Nat} {xs : Nat → Int32} (C : CU G p s mt meth c b Ln xs) (hLn : Ln ≤ 3072) {Rel : Nat → Nat → Mem → Mem → Prop} (hs : St_fault Rel) {k N : Nat} {mx mm : Mem} (hk : 6 * k + 6 ≤ Ln) (hN : 109 ≤ N) (hN2 : N ≤ 137) (hR : Rel k N mx mm) (K : ∀ (N1 : Nat) (mx1 mm1 : Mem), Rel (k + 1) N1 mx1 mm1 → U G l p e s mt b below meth c N1 1614 [(3, .int (nI (6 * k))), (2, .retAddr 2), (1, .retAddr 1), (0, .retAddr 0)] [] mx1 mm1) : U G l p e s mt b below meth c N 314 [(3, .int (nI (6 * k))), (2, .retAddr 2), (1, .retAddr 1), (0, .retAddr 0)] [] mx mm := by
  obtain ⟨r, mx1, mm1, h1, h2, h3⟩ := hs k N mx mm (by omega) hR (xs (6 * k + 1))
  refine U.aload1 (pc := 314) C dL_law_314 2 rfl ?_
  refine U.aload0 (pc := 315) C dL_law_315 3 rfl ?_
  refine U.iload_n (pc := 316) C dL_law_316 0 rfl ?_
  refine U.iconst (pc := 317) C dL_law_317 (v := 1) (by decide) ?_
  refine U.iadd (pc := 318) C dL_law_318 ?_
  refine U.sldN (pc := 319) (j := 6 * k + 1) C dL_law_319 (e1 k) (by omega) hLn ?_
  refine U.callX (pc := 320) (st := []) (N1 := N) C (c_X11_fault l hN (xs (6 * k + 1)) mx) h1 (fun _ _ => rfl) (fun _ _ _ _ _ => ⟨rfl, rfl⟩) ck_X11_fault ml_RL_23 rfl (by omega) (by omega) (by omega) (by rw [Nat.sub_self]; exact Nat.zero_le _) rfl rfl (Nat.le_of_ble_eq_true rfl) ⟨by decide, by decide⟩ dL_law_320 ?_
  refine U.aload2 (pc := 323) C dL_law_323 1 rfl ?_
  refine U.aload0 (pc := 324) C dL_law_324 3 rfl ?_
  refine U.iload_n (pc := 325) C dL_law_325 0 rfl ?_
  refine U.iconst (pc := 326) C dL_law_326 (v := 1) (by decide) ?_
  refine U.iadd (pc := 327) C dL_law_327 ?_
  refine U.sldN (pc := 328) (j := 6 * k + 1) C dL_law_328 (e1 k) (by omega) hLn ?_
  refine U.callM (pc := 329) (st := [.int r]) C (c_X12_fault l (xs (6 * k + 1)) mm) h2 (fun _ _ => rfl) (fun _ _ _ _ _ => ⟨rfl, rfl⟩) ck_X12_fault ml_RL_26 rfl (by omega) rfl rfl (Nat.le_of_ble_eq_true rfl) ⟨by decide, by decide⟩ dL_law_329 ?_
  refine U.ieqT (pc := 332) C dL_law_332 1614 (by decide) rfl ?_
  exact K _ _ _ h3
set_option maxRecDepth 100000 in
set_option maxHeartbeats 4000000 in
theorem cs_3 {G : Gt} {l : Launch} {p : Program} {e : Env} {s : State} {mt : MethodId} {b : Nat} {below : List Frame} {meth : Method} {c : Code} {Ln : Nat} {xs : Nat → Int32} (C : CU G p s mt meth c b Ln xs) (hLn : Ln ≤ 3072) {Rel : Nat → Nat → Mem → Mem → Prop} (hs : St_person Rel) {k N : Nat} {mx mm : Mem} (hk : 6 * k + 6 ≤ Ln) (hN : 109 ≤ N) (hN2 : N ≤ 137) (hR : Rel k N mx mm) (K : ∀ (N1 : Nat) (mx1 mm1 : Mem), Rel (k + 1) N1 mx1 mm1 → U G l p e s mt b below meth c N1 1614 [(3, .int (nI (6 * k))), (2, .retAddr 2), (1, .retAddr 1), (0, .retAddr 0)] [] mx1 mm1) : U G l p e s mt b below meth c N 337 [(3, .int (nI (6 * k))), (2, .retAddr 2), (1, .retAddr 1), (0, .retAddr 0)] [] mx mm := by
  obtain ⟨r, mx1, mm1, h1, h2, h3⟩ := hs k N mx mm (by omega) hR (xs (6 * k + 1)) (xs (6 * k + 2))
  refine U.aload1 (pc := 337) C dL_law_337 2 rfl ?_
  refine U.aload0 (pc := 338) C dL_law_338 3 rfl ?_
  refine U.iload_n (pc := 339) C dL_law_339 0 rfl ?_
  refine U.iconst (pc := 340) C dL_law_340 (v := 1) (by decide) ?_
  refine U.iadd (pc := 341) C dL_law_341 ?_
  refine U.sldN (pc := 342) (j := 6 * k + 1) C dL_law_342 (e1 k) (by omega) hLn ?_
  refine U.aload0 (pc := 343) C dL_law_343 3 rfl ?_
  refine U.iload_n (pc := 344) C dL_law_344 0 rfl ?_
  refine U.iconst (pc := 345) C dL_law_345 (v := 2) (by decide) ?_
  refine U.iadd (pc := 346) C dL_law_346 ?_
  refine U.sldN (pc := 347) (j := 6 * k + 2) C dL_law_347 (e2 k) (by omega) hLn ?_
  refine U.callX (pc := 348) (st := []) (N1 := N) C (c_X11_person l hN (xs (6 * k + 1)) (xs (6 * k + 2)) mx) h1 (fun _ _ => rfl) (fun _ _ _ _ _ => ⟨rfl, rfl⟩) ck_X11_person ml_RL_27 rfl (by omega) (by omega) (by omega) (by rw [Nat.sub_self]; exact Nat.zero_le _) rfl rfl (Nat.le_of_ble_eq_true rfl) ⟨by decide, by decide⟩ dL_law_348 ?_
  refine U.aload2 (pc := 351) C dL_law_351 1 rfl ?_
  refine U.aload0 (pc := 352) C dL_law_352 3 rfl ?_
  refine U.iload_n (pc := 353) C dL_law_353 0 rfl ?_
  refine U.iconst (pc := 354) C dL_law_354 (v := 1) (by decide) ?_
  refine U.iadd (pc := 355) C dL_law_355 ?_
  refine U.sldN (pc := 356) (j := 6 * k + 1) C dL_law_356 (e1 k) (by omega) hLn ?_
  refine U.aload0 (pc := 357) C dL_law_357 3 rfl ?_
  refine U.iload_n (pc := 358) C dL_law_358 0 rfl ?_
  refine U.iconst (pc := 359) C dL_law_359 (v := 2) (by decide) ?_
  refine U.iadd (pc := 360) C dL_law_360 ?_
  refine U.sldN (pc := 361) (j := 6 * k + 2) C dL_law_361 (e2 k) (by omega) hLn ?_
  refine U.callM (pc := 362) (st := [.int r]) C (c_X12_person l (xs (6 * k + 1)) (xs (6 * k + 2)) mm) h2 (fun _ _ => rfl) (fun _ _ _ _ _ => ⟨rfl, rfl⟩) ck_X12_person ml_RL_31 rfl (by omega) rfl rfl (Nat.le_of_ble_eq_true rfl) ⟨by decide, by decide⟩ dL_law_362 ?_
  refine U.ieqT (pc := 365) C dL_law_365 1614 (by decide) rfl ?_
  exact K _ _ _ h3
set_option maxRecDepth 100000 in
set_option maxHeartbeats 4000000 in
theorem cs_4 {G : Gt} {l : Launch} {p : Program} {e : Env} {s : State} {mt : MethodId} {b : Nat} {below : List Frame} {meth : Method} {c : Code} {Ln : Nat} {xs : Nat → Int32} (C : CU G p s mt meth c b Ln xs) (hLn : Ln ≤ 3072) {Rel : Nat → Nat → Mem → Mem → Prop} (hs : St_since Rel) {k N : Nat} {mx mm : Mem} (hk : 6 * k + 6 ≤ Ln) (hN : 109 ≤ N) (hN2 : N ≤ 137) (hR : Rel k N mx mm) (K : ∀ (N1 : Nat) (mx1 mm1 : Mem), Rel (k + 1) N1 mx1 mm1 → U G l p e s mt b below meth c N1 1614 [(3, .int (nI (6 * k))), (2, .retAddr 2), (1, .retAddr 1), (0, .retAddr 0)] [] mx1 mm1) : U G l p e s mt b below meth c N 370 [(3, .int (nI (6 * k))), (2, .retAddr 2), (1, .retAddr 1), (0, .retAddr 0)] [] mx mm := by
  obtain ⟨r, mx1, mm1, h1, h2, h3⟩ := hs k N mx mm (by omega) hR (xs (6 * k + 1)) (xs (6 * k + 2))
  refine U.aload1 (pc := 370) C dL_law_370 2 rfl ?_
  refine U.aload0 (pc := 371) C dL_law_371 3 rfl ?_
  refine U.iload_n (pc := 372) C dL_law_372 0 rfl ?_
  refine U.iconst (pc := 373) C dL_law_373 (v := 1) (by decide) ?_
  refine U.iadd (pc := 374) C dL_law_374 ?_
  refine U.sldN (pc := 375) (j := 6 * k + 1) C dL_law_375 (e1 k) (by omega) hLn ?_
  refine U.aload0 (pc := 376) C dL_law_376 3 rfl ?_
  refine U.iload_n (pc := 377) C dL_law_377 0 rfl ?_
  refine U.iconst (pc := 378) C dL_law_378 (v := 2) (by decide) ?_
  refine U.iadd (pc := 379) C dL_law_379 ?_
  refine U.sldN (pc := 380) (j := 6 * k + 2) C dL_law_380 (e2 k) (by omega) hLn ?_
  refine U.callX (pc := 381) (st := []) (N1 := N) C (c_X11_since l hN (xs (6 * k + 1)) (xs (6 * k + 2)) mx) h1 (fun _ _ => rfl) (fun _ _ _ _ _ => ⟨rfl, rfl⟩) ck_X11_since ml_RL_32 rfl (by omega) (by omega) (by omega) (by rw [Nat.sub_self]; exact Nat.zero_le _) rfl rfl (Nat.le_of_ble_eq_true rfl) ⟨by decide, by decide⟩ dL_law_381 ?_
  refine U.aload2 (pc := 384) C dL_law_384 1 rfl ?_
  refine U.aload0 (pc := 385) C dL_law_385 3 rfl ?_
  refine U.iload_n (pc := 386) C dL_law_386 0 rfl ?_
  refine U.iconst (pc := 387) C dL_law_387 (v := 1) (by decide) ?_
  refine U.iadd (pc := 388) C dL_law_388 ?_
  refine U.sldN (pc := 389) (j := 6 * k + 1) C dL_law_389 (e1 k) (by omega) hLn ?_
  refine U.aload0 (pc := 390) C dL_law_390 3 rfl ?_
  refine U.iload_n (pc := 391) C dL_law_391 0 rfl ?_
  refine U.iconst (pc := 392) C dL_law_392 (v := 2) (by decide) ?_
  refine U.iadd (pc := 393) C dL_law_393 ?_
  refine U.sldN (pc := 394) (j := 6 * k + 2) C dL_law_394 (e2 k) (by omega) hLn ?_
  refine U.callM (pc := 395) (st := [.int r]) C (c_X12_since l (xs (6 * k + 1)) (xs (6 * k + 2)) mm) h2 (fun _ _ => rfl) (fun _ _ _ _ _ => ⟨rfl, rfl⟩) ck_X12_since ml_RL_35 rfl (by omega) rfl rfl (Nat.le_of_ble_eq_true rfl) ⟨by decide, by decide⟩ dL_law_395 ?_
  refine U.ieqT (pc := 398) C dL_law_398 1614 (by decide) rfl ?_
  exact K _ _ _ h3
set_option maxRecDepth 100000 in
set_option maxHeartbeats 4000000 in
theorem cs_5 {G : Gt} {l : Launch} {p : Program} {e : Env} {s : State} {mt : MethodId} {b : Nat} {below : List Frame} {meth : Method} {c : Code} {Ln : Nat} {xs : Nat → Int32} (C : CU G p s mt meth c b Ln xs) (hLn : Ln ≤ 3072) {Rel : Nat → Nat → Mem → Mem → Prop} (hs : St_thing Rel) {k N : Nat} {mx mm : Mem} (hk : 6 * k + 6 ≤ Ln) (hN : 109 ≤ N) (hN2 : N ≤ 137) (hR : Rel k N mx mm) (K : ∀ (N1 : Nat) (mx1 mm1 : Mem), Rel (k + 1) N1 mx1 mm1 → U G l p e s mt b below meth c N1 1614 [(3, .int (nI (6 * k))), (2, .retAddr 2), (1, .retAddr 1), (0, .retAddr 0)] [] mx1 mm1) : U G l p e s mt b below meth c N 403 [(3, .int (nI (6 * k))), (2, .retAddr 2), (1, .retAddr 1), (0, .retAddr 0)] [] mx mm := by
  obtain ⟨r, mx1, mm1, h1, h2, h3⟩ := hs k N mx mm (by omega) hR (xs (6 * k + 1)) (xs (6 * k + 2))
  refine U.aload1 (pc := 403) C dL_law_403 2 rfl ?_
  refine U.aload0 (pc := 404) C dL_law_404 3 rfl ?_
  refine U.iload_n (pc := 405) C dL_law_405 0 rfl ?_
  refine U.iconst (pc := 406) C dL_law_406 (v := 1) (by decide) ?_
  refine U.iadd (pc := 407) C dL_law_407 ?_
  refine U.sldN (pc := 408) (j := 6 * k + 1) C dL_law_408 (e1 k) (by omega) hLn ?_
  refine U.aload0 (pc := 409) C dL_law_409 3 rfl ?_
  refine U.iload_n (pc := 410) C dL_law_410 0 rfl ?_
  refine U.iconst (pc := 411) C dL_law_411 (v := 2) (by decide) ?_
  refine U.iadd (pc := 412) C dL_law_412 ?_
  refine U.sldN (pc := 413) (j := 6 * k + 2) C dL_law_413 (e2 k) (by omega) hLn ?_
  refine U.callX (pc := 414) (st := []) (N1 := N) C (c_X11_thing l hN (xs (6 * k + 1)) (xs (6 * k + 2)) mx) h1 (fun _ _ => rfl) (fun _ _ _ _ _ => ⟨rfl, rfl⟩) ck_X11_thing ml_RL_36 rfl (by omega) (by omega) (by omega) (by rw [Nat.sub_self]; exact Nat.zero_le _) rfl rfl (Nat.le_of_ble_eq_true rfl) ⟨by decide, by decide⟩ dL_law_414 ?_
  refine U.aload2 (pc := 417) C dL_law_417 1 rfl ?_
  refine U.aload0 (pc := 418) C dL_law_418 3 rfl ?_
  refine U.iload_n (pc := 419) C dL_law_419 0 rfl ?_
  refine U.iconst (pc := 420) C dL_law_420 (v := 1) (by decide) ?_
  refine U.iadd (pc := 421) C dL_law_421 ?_
  refine U.sldN (pc := 422) (j := 6 * k + 1) C dL_law_422 (e1 k) (by omega) hLn ?_
  refine U.aload0 (pc := 423) C dL_law_423 3 rfl ?_
  refine U.iload_n (pc := 424) C dL_law_424 0 rfl ?_
  refine U.iconst (pc := 425) C dL_law_425 (v := 2) (by decide) ?_
  refine U.iadd (pc := 426) C dL_law_426 ?_
  refine U.sldN (pc := 427) (j := 6 * k + 2) C dL_law_427 (e2 k) (by omega) hLn ?_
  refine U.callM (pc := 428) (st := [.int r]) C (c_X12_thing l (xs (6 * k + 1)) (xs (6 * k + 2)) mm) h2 (fun _ _ => rfl) (fun _ _ _ _ _ => ⟨rfl, rfl⟩) ck_X12_thing ml_RL_39 rfl (by omega) rfl rfl (Nat.le_of_ble_eq_true rfl) ⟨by decide, by decide⟩ dL_law_428 ?_
  refine U.ieqT (pc := 431) C dL_law_431 1614 (by decide) rfl ?_
  exact K _ _ _ h3
set_option maxRecDepth 100000 in
set_option maxHeartbeats 4000000 in
theorem cs_6 {G : Gt} {l : Launch} {p : Program} {e : Env} {s : State} {mt : MethodId} {b : Nat} {below : List Frame} {meth : Method} {c : Code} {Ln : Nat} {xs : Nat → Int32} (C : CU G p s mt meth c b Ln xs) (hLn : Ln ≤ 3072) {Rel : Nat → Nat → Mem → Mem → Prop} (hs : St_pair Rel) {k N : Nat} {mx mm : Mem} (hk : 6 * k + 6 ≤ Ln) (hN : 109 ≤ N) (hN2 : N ≤ 137) (hR : Rel k N mx mm) (K : ∀ (N1 : Nat) (mx1 mm1 : Mem), Rel (k + 1) N1 mx1 mm1 → U G l p e s mt b below meth c N1 1614 [(3, .int (nI (6 * k))), (2, .retAddr 2), (1, .retAddr 1), (0, .retAddr 0)] [] mx1 mm1) : U G l p e s mt b below meth c N 436 [(3, .int (nI (6 * k))), (2, .retAddr 2), (1, .retAddr 1), (0, .retAddr 0)] [] mx mm := by
  obtain ⟨r, mx1, mm1, h1, h2, h3⟩ := hs k N mx mm (by omega) hR (xs (6 * k + 1)) (xs (6 * k + 2)) (xs (6 * k + 3))
  refine U.aload1 (pc := 436) C dL_law_436 2 rfl ?_
  refine U.aload0 (pc := 437) C dL_law_437 3 rfl ?_
  refine U.iload_n (pc := 438) C dL_law_438 0 rfl ?_
  refine U.iconst (pc := 439) C dL_law_439 (v := 1) (by decide) ?_
  refine U.iadd (pc := 440) C dL_law_440 ?_
  refine U.sldN (pc := 441) (j := 6 * k + 1) C dL_law_441 (e1 k) (by omega) hLn ?_
  refine U.aload0 (pc := 442) C dL_law_442 3 rfl ?_
  refine U.iload_n (pc := 443) C dL_law_443 0 rfl ?_
  refine U.iconst (pc := 444) C dL_law_444 (v := 2) (by decide) ?_
  refine U.iadd (pc := 445) C dL_law_445 ?_
  refine U.sldN (pc := 446) (j := 6 * k + 2) C dL_law_446 (e2 k) (by omega) hLn ?_
  refine U.aload0 (pc := 447) C dL_law_447 3 rfl ?_
  refine U.iload_n (pc := 448) C dL_law_448 0 rfl ?_
  refine U.iconst (pc := 449) C dL_law_449 (v := 3) (by decide) ?_
  refine U.iadd (pc := 450) C dL_law_450 ?_
  refine U.sldN (pc := 451) (j := 6 * k + 3) C dL_law_451 (e3 k) (by omega) hLn ?_
  refine U.callX (pc := 452) (st := []) (N1 := N) C (c_X11_pair l hN (xs (6 * k + 1)) (xs (6 * k + 2)) (xs (6 * k + 3)) mx) h1 (fun _ _ => rfl) (fun _ _ _ _ _ => ⟨rfl, rfl⟩) ck_X11_pair ml_RL_40 rfl (by omega) (by omega) (by omega) (by rw [Nat.sub_self]; exact Nat.zero_le _) rfl rfl (Nat.le_of_ble_eq_true rfl) ⟨by decide, by decide⟩ dL_law_452 ?_
  refine U.aload2 (pc := 455) C dL_law_455 1 rfl ?_
  refine U.aload0 (pc := 456) C dL_law_456 3 rfl ?_
  refine U.iload_n (pc := 457) C dL_law_457 0 rfl ?_
  refine U.iconst (pc := 458) C dL_law_458 (v := 1) (by decide) ?_
  refine U.iadd (pc := 459) C dL_law_459 ?_
  refine U.sldN (pc := 460) (j := 6 * k + 1) C dL_law_460 (e1 k) (by omega) hLn ?_
  refine U.aload0 (pc := 461) C dL_law_461 3 rfl ?_
  refine U.iload_n (pc := 462) C dL_law_462 0 rfl ?_
  refine U.iconst (pc := 463) C dL_law_463 (v := 2) (by decide) ?_
  refine U.iadd (pc := 464) C dL_law_464 ?_
  refine U.sldN (pc := 465) (j := 6 * k + 2) C dL_law_465 (e2 k) (by omega) hLn ?_
  refine U.aload0 (pc := 466) C dL_law_466 3 rfl ?_
  refine U.iload_n (pc := 467) C dL_law_467 0 rfl ?_
  refine U.iconst (pc := 468) C dL_law_468 (v := 3) (by decide) ?_
  refine U.iadd (pc := 469) C dL_law_469 ?_
  refine U.sldN (pc := 470) (j := 6 * k + 3) C dL_law_470 (e3 k) (by omega) hLn ?_
  refine U.callM (pc := 471) (st := [.int r]) C (c_X12_pair l (xs (6 * k + 1)) (xs (6 * k + 2)) (xs (6 * k + 3)) mm) h2 (fun _ _ => rfl) (fun _ _ _ _ _ => ⟨rfl, rfl⟩) ck_X12_pair ml_RL_44 rfl (by omega) rfl rfl (Nat.le_of_ble_eq_true rfl) ⟨by decide, by decide⟩ dL_law_471 ?_
  refine U.ieqT (pc := 474) C dL_law_474 1614 (by decide) rfl ?_
  exact K _ _ _ h3
set_option maxRecDepth 100000 in
set_option maxHeartbeats 4000000 in
theorem cs_7 {G : Gt} {l : Launch} {p : Program} {e : Env} {s : State} {mt : MethodId} {b : Nat} {below : List Frame} {meth : Method} {c : Code} {Ln : Nat} {xs : Nat → Int32} (C : CU G p s mt meth c b Ln xs) (hLn : Ln ≤ 3072) {Rel : Nat → Nat → Mem → Mem → Prop} (hs : St_good Rel) {k N : Nat} {mx mm : Mem} (hk : 6 * k + 6 ≤ Ln) (hN : 109 ≤ N) (hN2 : N ≤ 137) (hR : Rel k N mx mm) (K : ∀ (N1 : Nat) (mx1 mm1 : Mem), Rel (k + 1) N1 mx1 mm1 → U G l p e s mt b below meth c N1 1614 [(3, .int (nI (6 * k))), (2, .retAddr 2), (1, .retAddr 1), (0, .retAddr 0)] [] mx1 mm1) : U G l p e s mt b below meth c N 479 [(3, .int (nI (6 * k))), (2, .retAddr 2), (1, .retAddr 1), (0, .retAddr 0)] [] mx mm := by
  obtain ⟨r, mx1, mm1, h1, h2, h3⟩ := hs k N mx mm (by omega) hR (xs (6 * k + 1)) (xs (6 * k + 2))
  refine U.aload1 (pc := 479) C dL_law_479 2 rfl ?_
  refine U.aload0 (pc := 480) C dL_law_480 3 rfl ?_
  refine U.iload_n (pc := 481) C dL_law_481 0 rfl ?_
  refine U.iconst (pc := 482) C dL_law_482 (v := 1) (by decide) ?_
  refine U.iadd (pc := 483) C dL_law_483 ?_
  refine U.sldN (pc := 484) (j := 6 * k + 1) C dL_law_484 (e1 k) (by omega) hLn ?_
  refine U.aload0 (pc := 485) C dL_law_485 3 rfl ?_
  refine U.iload_n (pc := 486) C dL_law_486 0 rfl ?_
  refine U.iconst (pc := 487) C dL_law_487 (v := 2) (by decide) ?_
  refine U.iadd (pc := 488) C dL_law_488 ?_
  refine U.sldN (pc := 489) (j := 6 * k + 2) C dL_law_489 (e2 k) (by omega) hLn ?_
  refine U.callX (pc := 490) (st := []) (N1 := N) C (c_X11_good l hN (xs (6 * k + 1)) (xs (6 * k + 2)) mx) h1 (fun _ _ => rfl) (fun _ _ _ _ _ => ⟨rfl, rfl⟩) ck_X11_good ml_RL_45 rfl (by omega) (by omega) (by omega) (by rw [Nat.sub_self]; exact Nat.zero_le _) rfl rfl (Nat.le_of_ble_eq_true rfl) ⟨by decide, by decide⟩ dL_law_490 ?_
  refine U.aload2 (pc := 493) C dL_law_493 1 rfl ?_
  refine U.aload0 (pc := 494) C dL_law_494 3 rfl ?_
  refine U.iload_n (pc := 495) C dL_law_495 0 rfl ?_
  refine U.iconst (pc := 496) C dL_law_496 (v := 1) (by decide) ?_
  refine U.iadd (pc := 497) C dL_law_497 ?_
  refine U.sldN (pc := 498) (j := 6 * k + 1) C dL_law_498 (e1 k) (by omega) hLn ?_
  refine U.aload0 (pc := 499) C dL_law_499 3 rfl ?_
  refine U.iload_n (pc := 500) C dL_law_500 0 rfl ?_
  refine U.iconst (pc := 501) C dL_law_501 (v := 2) (by decide) ?_
  refine U.iadd (pc := 502) C dL_law_502 ?_
  refine U.sldN (pc := 503) (j := 6 * k + 2) C dL_law_503 (e2 k) (by omega) hLn ?_
  refine U.callM (pc := 504) (st := [.int r]) C (c_X12_good l (xs (6 * k + 1)) (xs (6 * k + 2)) mm) h2 (fun _ _ => rfl) (fun _ _ _ _ _ => ⟨rfl, rfl⟩) ck_X12_good ml_RL_48 rfl (by omega) rfl rfl (Nat.le_of_ble_eq_true rfl) ⟨by decide, by decide⟩ dL_law_504 ?_
  refine U.ieqT (pc := 507) C dL_law_507 1614 (by decide) rfl ?_
  exact K _ _ _ h3
set_option maxRecDepth 100000 in
set_option maxHeartbeats 4000000 in
theorem cs_8 {G : Gt} {l : Launch} {p : Program} {e : Env} {s : State} {mt : MethodId} {b : Nat} {below : List Frame} {meth : Method} {c : Code} {Ln : Nat} {xs : Nat → Int32} (C : CU G p s mt meth c b Ln xs) (hLn : Ln ≤ 3072) {Rel : Nat → Nat → Mem → Mem → Prop} (hs : St_may Rel) {k N : Nat} {mx mm : Mem} (hk : 6 * k + 6 ≤ Ln) (hN : 109 ≤ N) (hN2 : N ≤ 137) (hR : Rel k N mx mm) (K : ∀ (N1 : Nat) (mx1 mm1 : Mem), Rel (k + 1) N1 mx1 mm1 → U G l p e s mt b below meth c N1 1614 [(3, .int (nI (6 * k))), (2, .retAddr 2), (1, .retAddr 1), (0, .retAddr 0)] [] mx1 mm1) : U G l p e s mt b below meth c N 512 [(3, .int (nI (6 * k))), (2, .retAddr 2), (1, .retAddr 1), (0, .retAddr 0)] [] mx mm := by
  obtain ⟨r, mx1, mm1, h1, h2, h3⟩ := hs k N mx mm (by omega) hR (xs (6 * k + 1)) (xs (6 * k + 2))
  refine U.aload1 (pc := 512) C dL_law_512 2 rfl ?_
  refine U.aload0 (pc := 513) C dL_law_513 3 rfl ?_
  refine U.iload_n (pc := 514) C dL_law_514 0 rfl ?_
  refine U.iconst (pc := 515) C dL_law_515 (v := 1) (by decide) ?_
  refine U.iadd (pc := 516) C dL_law_516 ?_
  refine U.sldN (pc := 517) (j := 6 * k + 1) C dL_law_517 (e1 k) (by omega) hLn ?_
  refine U.aload0 (pc := 518) C dL_law_518 3 rfl ?_
  refine U.iload_n (pc := 519) C dL_law_519 0 rfl ?_
  refine U.iconst (pc := 520) C dL_law_520 (v := 2) (by decide) ?_
  refine U.iadd (pc := 521) C dL_law_521 ?_
  refine U.sldN (pc := 522) (j := 6 * k + 2) C dL_law_522 (e2 k) (by omega) hLn ?_
  refine U.callX (pc := 523) (st := []) (N1 := N) C (c_X11_may l hN (xs (6 * k + 1)) (xs (6 * k + 2)) mx) h1 (fun _ _ => rfl) (fun _ _ _ _ _ => ⟨rfl, rfl⟩) ck_X11_may ml_RL_49 rfl (by omega) (by omega) (by omega) (by rw [Nat.sub_self]; exact Nat.zero_le _) rfl rfl (Nat.le_of_ble_eq_true rfl) ⟨by decide, by decide⟩ dL_law_523 ?_
  refine U.aload2 (pc := 526) C dL_law_526 1 rfl ?_
  refine U.aload0 (pc := 527) C dL_law_527 3 rfl ?_
  refine U.iload_n (pc := 528) C dL_law_528 0 rfl ?_
  refine U.iconst (pc := 529) C dL_law_529 (v := 1) (by decide) ?_
  refine U.iadd (pc := 530) C dL_law_530 ?_
  refine U.sldN (pc := 531) (j := 6 * k + 1) C dL_law_531 (e1 k) (by omega) hLn ?_
  refine U.aload0 (pc := 532) C dL_law_532 3 rfl ?_
  refine U.iload_n (pc := 533) C dL_law_533 0 rfl ?_
  refine U.iconst (pc := 534) C dL_law_534 (v := 2) (by decide) ?_
  refine U.iadd (pc := 535) C dL_law_535 ?_
  refine U.sldN (pc := 536) (j := 6 * k + 2) C dL_law_536 (e2 k) (by omega) hLn ?_
  refine U.callM (pc := 537) (st := [.int r]) C (c_X12_may l (xs (6 * k + 1)) (xs (6 * k + 2)) mm) h2 (fun _ _ => rfl) (fun _ _ _ _ _ => ⟨rfl, rfl⟩) ck_X12_may ml_RL_52 rfl (by omega) rfl rfl (Nat.le_of_ble_eq_true rfl) ⟨by decide, by decide⟩ dL_law_537 ?_
  refine U.ieqT (pc := 540) C dL_law_540 1614 (by decide) rfl ?_
  exact K _ _ _ h3
set_option maxRecDepth 100000 in
set_option maxHeartbeats 4000000 in
theorem cs_9 {G : Gt} {l : Launch} {p : Program} {e : Env} {s : State} {mt : MethodId} {b : Nat} {below : List Frame} {meth : Method} {c : Code} {Ln : Nat} {xs : Nat → Int32} (C : CU G p s mt meth c b Ln xs) (hLn : Ln ≤ 3072) {Rel : Nat → Nat → Mem → Mem → Prop} (hs : St_wed Rel) {k N : Nat} {mx mm : Mem} (hk : 6 * k + 6 ≤ Ln) (hN : 109 ≤ N) (hN2 : N ≤ 137) (hR : Rel k N mx mm) (K : ∀ (N1 : Nat) (mx1 mm1 : Mem), Rel (k + 1) N1 mx1 mm1 → U G l p e s mt b below meth c N1 1614 [(3, .int (nI (6 * k))), (2, .retAddr 2), (1, .retAddr 1), (0, .retAddr 0)] [] mx1 mm1) : U G l p e s mt b below meth c N 545 [(3, .int (nI (6 * k))), (2, .retAddr 2), (1, .retAddr 1), (0, .retAddr 0)] [] mx mm := by
  obtain ⟨r, mx1, mm1, h1, h2, h3⟩ := hs k N mx mm (by omega) hR (xs (6 * k + 1)) (xs (6 * k + 2))
  refine U.aload1 (pc := 545) C dL_law_545 2 rfl ?_
  refine U.aload0 (pc := 546) C dL_law_546 3 rfl ?_
  refine U.iload_n (pc := 547) C dL_law_547 0 rfl ?_
  refine U.iconst (pc := 548) C dL_law_548 (v := 1) (by decide) ?_
  refine U.iadd (pc := 549) C dL_law_549 ?_
  refine U.sldN (pc := 550) (j := 6 * k + 1) C dL_law_550 (e1 k) (by omega) hLn ?_
  refine U.aload0 (pc := 551) C dL_law_551 3 rfl ?_
  refine U.iload_n (pc := 552) C dL_law_552 0 rfl ?_
  refine U.iconst (pc := 553) C dL_law_553 (v := 2) (by decide) ?_
  refine U.iadd (pc := 554) C dL_law_554 ?_
  refine U.sldN (pc := 555) (j := 6 * k + 2) C dL_law_555 (e2 k) (by omega) hLn ?_
  refine U.callX (pc := 556) (st := []) (N1 := N) C (c_X11_wed l hN (xs (6 * k + 1)) (xs (6 * k + 2)) mx) h1 (fun _ _ => rfl) (fun _ _ _ _ _ => ⟨rfl, rfl⟩) ck_X11_wed ml_RL_53 rfl (by omega) (by omega) (by omega) (by rw [Nat.sub_self]; exact Nat.zero_le _) rfl rfl (Nat.le_of_ble_eq_true rfl) ⟨by decide, by decide⟩ dL_law_556 ?_
  refine U.aload2 (pc := 559) C dL_law_559 1 rfl ?_
  refine U.aload0 (pc := 560) C dL_law_560 3 rfl ?_
  refine U.iload_n (pc := 561) C dL_law_561 0 rfl ?_
  refine U.iconst (pc := 562) C dL_law_562 (v := 1) (by decide) ?_
  refine U.iadd (pc := 563) C dL_law_563 ?_
  refine U.sldN (pc := 564) (j := 6 * k + 1) C dL_law_564 (e1 k) (by omega) hLn ?_
  refine U.aload0 (pc := 565) C dL_law_565 3 rfl ?_
  refine U.iload_n (pc := 566) C dL_law_566 0 rfl ?_
  refine U.iconst (pc := 567) C dL_law_567 (v := 2) (by decide) ?_
  refine U.iadd (pc := 568) C dL_law_568 ?_
  refine U.sldN (pc := 569) (j := 6 * k + 2) C dL_law_569 (e2 k) (by omega) hLn ?_
  refine U.callM (pc := 570) (st := [.int r]) C (c_X12_wed l (xs (6 * k + 1)) (xs (6 * k + 2)) mm) h2 (fun _ _ => rfl) (fun _ _ _ _ _ => ⟨rfl, rfl⟩) ck_X12_wed ml_RL_56 rfl (by omega) rfl rfl (Nat.le_of_ble_eq_true rfl) ⟨by decide, by decide⟩ dL_law_570 ?_
  refine U.ieqT (pc := 573) C dL_law_573 1614 (by decide) rfl ?_
  exact K _ _ _ h3
set_option maxRecDepth 100000 in
set_option maxHeartbeats 4000000 in
theorem cs_10 {G : Gt} {l : Launch} {p : Program} {e : Env} {s : State} {mt : MethodId} {b : Nat} {below : List Frame} {meth : Method} {c : Code} {Ln : Nat} {xs : Nat → Int32} (C : CU G p s mt meth c b Ln xs) (hLn : Ln ≤ 3072) {Rel : Nat → Nat → Mem → Mem → Prop} (hs : St_part Rel) {k N : Nat} {mx mm : Mem} (hk : 6 * k + 6 ≤ Ln) (hN : 109 ≤ N) (hN2 : N ≤ 137) (hR : Rel k N mx mm) (K : ∀ (N1 : Nat) (mx1 mm1 : Mem), Rel (k + 1) N1 mx1 mm1 → U G l p e s mt b below meth c N1 1614 [(3, .int (nI (6 * k))), (2, .retAddr 2), (1, .retAddr 1), (0, .retAddr 0)] [] mx1 mm1) : U G l p e s mt b below meth c N 578 [(3, .int (nI (6 * k))), (2, .retAddr 2), (1, .retAddr 1), (0, .retAddr 0)] [] mx mm := by
  obtain ⟨r, mx1, mm1, h1, h2, h3⟩ := hs k N mx mm (by omega) hR (xs (6 * k + 1))
  refine U.aload1 (pc := 578) C dL_law_578 2 rfl ?_
  refine U.aload0 (pc := 579) C dL_law_579 3 rfl ?_
  refine U.iload_n (pc := 580) C dL_law_580 0 rfl ?_
  refine U.iconst (pc := 581) C dL_law_581 (v := 1) (by decide) ?_
  refine U.iadd (pc := 582) C dL_law_582 ?_
  refine U.sldN (pc := 583) (j := 6 * k + 1) C dL_law_583 (e1 k) (by omega) hLn ?_
  refine U.callX (pc := 584) (st := []) (N1 := N) C (c_X11_part l hN (xs (6 * k + 1)) mx) h1 (fun _ _ => rfl) (fun _ _ _ _ _ => ⟨rfl, rfl⟩) ck_X11_part ml_RL_57 rfl (by omega) (by omega) (by omega) (by rw [Nat.sub_self]; exact Nat.zero_le _) rfl rfl (Nat.le_of_ble_eq_true rfl) ⟨by decide, by decide⟩ dL_law_584 ?_
  refine U.aload2 (pc := 587) C dL_law_587 1 rfl ?_
  refine U.aload0 (pc := 588) C dL_law_588 3 rfl ?_
  refine U.iload_n (pc := 589) C dL_law_589 0 rfl ?_
  refine U.iconst (pc := 590) C dL_law_590 (v := 1) (by decide) ?_
  refine U.iadd (pc := 591) C dL_law_591 ?_
  refine U.sldN (pc := 592) (j := 6 * k + 1) C dL_law_592 (e1 k) (by omega) hLn ?_
  refine U.callM (pc := 593) (st := [.int r]) C (c_X12_part l (xs (6 * k + 1)) mm) h2 (fun _ _ => rfl) (fun _ _ _ _ _ => ⟨rfl, rfl⟩) ck_X12_part ml_RL_60 rfl (by omega) rfl rfl (Nat.le_of_ble_eq_true rfl) ⟨by decide, by decide⟩ dL_law_593 ?_
  refine U.ieqT (pc := 596) C dL_law_596 1614 (by decide) rfl ?_
  exact K _ _ _ h3
set_option maxRecDepth 100000 in
set_option maxHeartbeats 4000000 in
theorem cs_11 {G : Gt} {l : Launch} {p : Program} {e : Env} {s : State} {mt : MethodId} {b : Nat} {below : List Frame} {meth : Method} {c : Code} {Ln : Nat} {xs : Nat → Int32} (C : CU G p s mt meth c b Ln xs) (hLn : Ln ≤ 3072) {Rel : Nat → Nat → Mem → Mem → Prop} (hs : St_takes Rel) {k N : Nat} {mx mm : Mem} (hk : 6 * k + 6 ≤ Ln) (hN : 109 ≤ N) (hN2 : N ≤ 137) (hR : Rel k N mx mm) (K : ∀ (N1 : Nat) (mx1 mm1 : Mem), Rel (k + 1) N1 mx1 mm1 → U G l p e s mt b below meth c N1 1614 [(3, .int (nI (6 * k))), (2, .retAddr 2), (1, .retAddr 1), (0, .retAddr 0)] [] mx1 mm1) : U G l p e s mt b below meth c N 601 [(3, .int (nI (6 * k))), (2, .retAddr 2), (1, .retAddr 1), (0, .retAddr 0)] [] mx mm := by
  obtain ⟨r, mx1, mm1, h1, h2, h3⟩ := hs k N mx mm (by omega) hR (xs (6 * k + 1)) (xs (6 * k + 2))
  refine U.aload1 (pc := 601) C dL_law_601 2 rfl ?_
  refine U.aload0 (pc := 602) C dL_law_602 3 rfl ?_
  refine U.iload_n (pc := 603) C dL_law_603 0 rfl ?_
  refine U.iconst (pc := 604) C dL_law_604 (v := 1) (by decide) ?_
  refine U.iadd (pc := 605) C dL_law_605 ?_
  refine U.sldN (pc := 606) (j := 6 * k + 1) C dL_law_606 (e1 k) (by omega) hLn ?_
  refine U.aload0 (pc := 607) C dL_law_607 3 rfl ?_
  refine U.iload_n (pc := 608) C dL_law_608 0 rfl ?_
  refine U.iconst (pc := 609) C dL_law_609 (v := 2) (by decide) ?_
  refine U.iadd (pc := 610) C dL_law_610 ?_
  refine U.sldN (pc := 611) (j := 6 * k + 2) C dL_law_611 (e2 k) (by omega) hLn ?_
  refine U.callX (pc := 612) (st := []) (N1 := N) C (c_X11_takes l hN (xs (6 * k + 1)) (xs (6 * k + 2)) mx) h1 (fun _ _ => rfl) (fun _ _ _ _ _ => ⟨rfl, rfl⟩) ck_X11_takes ml_RL_61 rfl (by omega) (by omega) (by omega) (by rw [Nat.sub_self]; exact Nat.zero_le _) rfl rfl (Nat.le_of_ble_eq_true rfl) ⟨by decide, by decide⟩ dL_law_612 ?_
  refine U.aload2 (pc := 615) C dL_law_615 1 rfl ?_
  refine U.aload0 (pc := 616) C dL_law_616 3 rfl ?_
  refine U.iload_n (pc := 617) C dL_law_617 0 rfl ?_
  refine U.iconst (pc := 618) C dL_law_618 (v := 1) (by decide) ?_
  refine U.iadd (pc := 619) C dL_law_619 ?_
  refine U.sldN (pc := 620) (j := 6 * k + 1) C dL_law_620 (e1 k) (by omega) hLn ?_
  refine U.aload0 (pc := 621) C dL_law_621 3 rfl ?_
  refine U.iload_n (pc := 622) C dL_law_622 0 rfl ?_
  refine U.iconst (pc := 623) C dL_law_623 (v := 2) (by decide) ?_
  refine U.iadd (pc := 624) C dL_law_624 ?_
  refine U.sldN (pc := 625) (j := 6 * k + 2) C dL_law_625 (e2 k) (by omega) hLn ?_
  refine U.callM (pc := 626) (st := [.int r]) C (c_X12_takes l (xs (6 * k + 1)) (xs (6 * k + 2)) mm) h2 (fun _ _ => rfl) (fun _ _ _ _ _ => ⟨rfl, rfl⟩) ck_X12_takes ml_RL_64 rfl (by omega) rfl rfl (Nat.le_of_ble_eq_true rfl) ⟨by decide, by decide⟩ dL_law_626 ?_
  refine U.ieqT (pc := 629) C dL_law_629 1614 (by decide) rfl ?_
  exact K _ _ _ h3
set_option maxRecDepth 100000 in
set_option maxHeartbeats 4000000 in
theorem cs_12 {G : Gt} {l : Launch} {p : Program} {e : Env} {s : State} {mt : MethodId} {b : Nat} {below : List Frame} {meth : Method} {c : Code} {Ln : Nat} {xs : Nat → Int32} (C : CU G p s mt meth c b Ln xs) (hLn : Ln ≤ 3072) {Rel : Nat → Nat → Mem → Mem → Prop} (hs : St_copies Rel) {k N : Nat} {mx mm : Mem} (hk : 6 * k + 6 ≤ Ln) (hN : 109 ≤ N) (hN2 : N ≤ 137) (hR : Rel k N mx mm) (K : ∀ (N1 : Nat) (mx1 mm1 : Mem), Rel (k + 1) N1 mx1 mm1 → U G l p e s mt b below meth c N1 1614 [(3, .int (nI (6 * k))), (2, .retAddr 2), (1, .retAddr 1), (0, .retAddr 0)] [] mx1 mm1) : U G l p e s mt b below meth c N 634 [(3, .int (nI (6 * k))), (2, .retAddr 2), (1, .retAddr 1), (0, .retAddr 0)] [] mx mm := by
  obtain ⟨r, mx1, mm1, h1, h2, h3⟩ := hs k N mx mm (by omega) hR (xs (6 * k + 1)) (xs (6 * k + 2))
  refine U.aload1 (pc := 634) C dL_law_634 2 rfl ?_
  refine U.aload0 (pc := 635) C dL_law_635 3 rfl ?_
  refine U.iload_n (pc := 636) C dL_law_636 0 rfl ?_
  refine U.iconst (pc := 637) C dL_law_637 (v := 1) (by decide) ?_
  refine U.iadd (pc := 638) C dL_law_638 ?_
  refine U.sldN (pc := 639) (j := 6 * k + 1) C dL_law_639 (e1 k) (by omega) hLn ?_
  refine U.aload0 (pc := 640) C dL_law_640 3 rfl ?_
  refine U.iload_n (pc := 641) C dL_law_641 0 rfl ?_
  refine U.iconst (pc := 642) C dL_law_642 (v := 2) (by decide) ?_
  refine U.iadd (pc := 643) C dL_law_643 ?_
  refine U.sldN (pc := 644) (j := 6 * k + 2) C dL_law_644 (e2 k) (by omega) hLn ?_
  refine U.callX (pc := 645) (st := []) (N1 := N) C (c_X11_copies l hN (xs (6 * k + 1)) (xs (6 * k + 2)) mx) h1 (fun _ _ => rfl) (fun _ _ _ _ _ => ⟨rfl, rfl⟩) ck_X11_copies ml_RL_65 rfl (by omega) (by omega) (by omega) (by rw [Nat.sub_self]; exact Nat.zero_le _) rfl rfl (Nat.le_of_ble_eq_true rfl) ⟨by decide, by decide⟩ dL_law_645 ?_
  refine U.aload2 (pc := 648) C dL_law_648 1 rfl ?_
  refine U.aload0 (pc := 649) C dL_law_649 3 rfl ?_
  refine U.iload_n (pc := 650) C dL_law_650 0 rfl ?_
  refine U.iconst (pc := 651) C dL_law_651 (v := 1) (by decide) ?_
  refine U.iadd (pc := 652) C dL_law_652 ?_
  refine U.sldN (pc := 653) (j := 6 * k + 1) C dL_law_653 (e1 k) (by omega) hLn ?_
  refine U.aload0 (pc := 654) C dL_law_654 3 rfl ?_
  refine U.iload_n (pc := 655) C dL_law_655 0 rfl ?_
  refine U.iconst (pc := 656) C dL_law_656 (v := 2) (by decide) ?_
  refine U.iadd (pc := 657) C dL_law_657 ?_
  refine U.sldN (pc := 658) (j := 6 * k + 2) C dL_law_658 (e2 k) (by omega) hLn ?_
  refine U.callM (pc := 659) (st := [.int r]) C (c_X12_copies l (xs (6 * k + 1)) (xs (6 * k + 2)) mm) h2 (fun _ _ => rfl) (fun _ _ _ _ _ => ⟨rfl, rfl⟩) ck_X12_copies ml_RL_68 rfl (by omega) rfl rfl (Nat.le_of_ble_eq_true rfl) ⟨by decide, by decide⟩ dL_law_659 ?_
  refine U.ieqT (pc := 662) C dL_law_662 1614 (by decide) rfl ?_
  exact K _ _ _ h3
set_option maxRecDepth 100000 in
set_option maxHeartbeats 4000000 in
theorem cs_13 {G : Gt} {l : Launch} {p : Program} {e : Env} {s : State} {mt : MethodId} {b : Nat} {below : List Frame} {meth : Method} {c : Code} {Ln : Nat} {xs : Nat → Int32} (C : CU G p s mt meth c b Ln xs) (hLn : Ln ≤ 3072) {Rel : Nat → Nat → Mem → Mem → Prop} (hs : St_years Rel) {k N : Nat} {mx mm : Mem} (hk : 6 * k + 6 ≤ Ln) (hN : 109 ≤ N) (hN2 : N ≤ 137) (hR : Rel k N mx mm) (K : ∀ (N1 : Nat) (mx1 mm1 : Mem), Rel (k + 1) N1 mx1 mm1 → U G l p e s mt b below meth c N1 1614 [(3, .int (nI (6 * k))), (2, .retAddr 2), (1, .retAddr 1), (0, .retAddr 0)] [] mx1 mm1) : U G l p e s mt b below meth c N 667 [(3, .int (nI (6 * k))), (2, .retAddr 2), (1, .retAddr 1), (0, .retAddr 0)] [] mx mm := by
  obtain ⟨r, mx1, mm1, h1, h2, h3⟩ := hs k N mx mm (by omega) hR (xs (6 * k + 1))
  refine U.aload1 (pc := 667) C dL_law_667 2 rfl ?_
  refine U.aload0 (pc := 668) C dL_law_668 3 rfl ?_
  refine U.iload_n (pc := 669) C dL_law_669 0 rfl ?_
  refine U.iconst (pc := 670) C dL_law_670 (v := 1) (by decide) ?_
  refine U.iadd (pc := 671) C dL_law_671 ?_
  refine U.sldN (pc := 672) (j := 6 * k + 1) C dL_law_672 (e1 k) (by omega) hLn ?_
  refine U.callX (pc := 673) (st := []) (N1 := N) C (c_X11_years l hN (xs (6 * k + 1)) mx) h1 (fun _ _ => rfl) (fun _ _ _ _ _ => ⟨rfl, rfl⟩) ck_X11_years ml_RL_69 rfl (by omega) (by omega) (by omega) (by rw [Nat.sub_self]; exact Nat.zero_le _) rfl rfl (Nat.le_of_ble_eq_true rfl) ⟨by decide, by decide⟩ dL_law_673 ?_
  refine U.aload2 (pc := 676) C dL_law_676 1 rfl ?_
  refine U.aload0 (pc := 677) C dL_law_677 3 rfl ?_
  refine U.iload_n (pc := 678) C dL_law_678 0 rfl ?_
  refine U.iconst (pc := 679) C dL_law_679 (v := 1) (by decide) ?_
  refine U.iadd (pc := 680) C dL_law_680 ?_
  refine U.sldN (pc := 681) (j := 6 * k + 1) C dL_law_681 (e1 k) (by omega) hLn ?_
  refine U.callM (pc := 682) (st := [.int r]) C (c_X12_years l (xs (6 * k + 1)) mm) h2 (fun _ _ => rfl) (fun _ _ _ _ _ => ⟨rfl, rfl⟩) ck_X12_years ml_RL_72 rfl (by omega) rfl rfl (Nat.le_of_ble_eq_true rfl) ⟨by decide, by decide⟩ dL_law_682 ?_
  refine U.ieqT (pc := 685) C dL_law_685 1614 (by decide) rfl ?_
  exact K _ _ _ h3
set_option maxRecDepth 100000 in
set_option maxHeartbeats 4000000 in
theorem cs_14 {G : Gt} {l : Launch} {p : Program} {e : Env} {s : State} {mt : MethodId} {b : Nat} {below : List Frame} {meth : Method} {c : Code} {Ln : Nat} {xs : Nat → Int32} (C : CU G p s mt meth c b Ln xs) (hLn : Ln ≤ 3072) {Rel : Nat → Nat → Mem → Mem → Prop} (hs : St_undo Rel) {k N : Nat} {mx mm : Mem} (hk : 6 * k + 6 ≤ Ln) (hN : 109 ≤ N) (hN2 : N ≤ 137) (hR : Rel k N mx mm) (K : ∀ (N1 : Nat) (mx1 mm1 : Mem), Rel (k + 1) N1 mx1 mm1 → U G l p e s mt b below meth c N1 1614 [(3, .int (nI (6 * k))), (2, .retAddr 2), (1, .retAddr 1), (0, .retAddr 0)] [] mx1 mm1) : U G l p e s mt b below meth c N 690 [(3, .int (nI (6 * k))), (2, .retAddr 2), (1, .retAddr 1), (0, .retAddr 0)] [] mx mm := by
  obtain ⟨r, mx1, mm1, h1, h2, h3⟩ := hs k N mx mm (by omega) hR (xs (6 * k + 1))
  refine U.aload1 (pc := 690) C dL_law_690 2 rfl ?_
  refine U.aload0 (pc := 691) C dL_law_691 3 rfl ?_
  refine U.iload_n (pc := 692) C dL_law_692 0 rfl ?_
  refine U.iconst (pc := 693) C dL_law_693 (v := 1) (by decide) ?_
  refine U.iadd (pc := 694) C dL_law_694 ?_
  refine U.sldN (pc := 695) (j := 6 * k + 1) C dL_law_695 (e1 k) (by omega) hLn ?_
  refine U.callX (pc := 696) (st := []) (N1 := N) C (c_X11_undo l hN (xs (6 * k + 1)) mx) h1 (fun _ _ => rfl) (fun _ _ _ _ _ => ⟨rfl, rfl⟩) ck_X11_undo ml_RL_73 rfl (by omega) (by omega) (by omega) (by rw [Nat.sub_self]; exact Nat.zero_le _) rfl rfl (Nat.le_of_ble_eq_true rfl) ⟨by decide, by decide⟩ dL_law_696 ?_
  refine U.aload2 (pc := 699) C dL_law_699 1 rfl ?_
  refine U.aload0 (pc := 700) C dL_law_700 3 rfl ?_
  refine U.iload_n (pc := 701) C dL_law_701 0 rfl ?_
  refine U.iconst (pc := 702) C dL_law_702 (v := 1) (by decide) ?_
  refine U.iadd (pc := 703) C dL_law_703 ?_
  refine U.sldN (pc := 704) (j := 6 * k + 1) C dL_law_704 (e1 k) (by omega) hLn ?_
  refine U.callM (pc := 705) (st := [.int r]) C (c_X12_undo l (xs (6 * k + 1)) mm) h2 (fun _ _ => rfl) (fun _ _ _ _ _ => ⟨rfl, rfl⟩) ck_X12_undo ml_RL_76 rfl (by omega) rfl rfl (Nat.le_of_ble_eq_true rfl) ⟨by decide, by decide⟩ dL_law_705 ?_
  refine U.ieqT (pc := 708) C dL_law_708 1614 (by decide) rfl ?_
  exact K _ _ _ h3
set_option maxRecDepth 100000 in
set_option maxHeartbeats 4000000 in
theorem cs_15 {G : Gt} {l : Launch} {p : Program} {e : Env} {s : State} {mt : MethodId} {b : Nat} {below : List Frame} {meth : Method} {c : Code} {Ln : Nat} {xs : Nat → Int32} (C : CU G p s mt meth c b Ln xs) (hLn : Ln ≤ 3072) {Rel : Nat → Nat → Mem → Mem → Prop} (hs : St_judge Rel) {k N : Nat} {mx mm : Mem} (hk : 6 * k + 6 ≤ Ln) (hN : 109 ≤ N) (hN2 : N ≤ 137) (hR : Rel k N mx mm) (K : ∀ (N1 : Nat) (mx1 mm1 : Mem), Rel (k + 1) N1 mx1 mm1 → U G l p e s mt b below meth c N1 1614 [(3, .int (nI (6 * k))), (2, .retAddr 2), (1, .retAddr 1), (0, .retAddr 0)] [] mx1 mm1) : U G l p e s mt b below meth c N 713 [(3, .int (nI (6 * k))), (2, .retAddr 2), (1, .retAddr 1), (0, .retAddr 0)] [] mx mm := by
  obtain ⟨r, mx1, mm1, h1, h2, h3⟩ := hs k N mx mm (by omega) hR (xs (6 * k + 1)) (xs (6 * k + 2))
  refine U.aload1 (pc := 713) C dL_law_713 2 rfl ?_
  refine U.aload0 (pc := 714) C dL_law_714 3 rfl ?_
  refine U.iload_n (pc := 715) C dL_law_715 0 rfl ?_
  refine U.iconst (pc := 716) C dL_law_716 (v := 1) (by decide) ?_
  refine U.iadd (pc := 717) C dL_law_717 ?_
  refine U.sldN (pc := 718) (j := 6 * k + 1) C dL_law_718 (e1 k) (by omega) hLn ?_
  refine U.aload0 (pc := 719) C dL_law_719 3 rfl ?_
  refine U.iload_n (pc := 720) C dL_law_720 0 rfl ?_
  refine U.iconst (pc := 721) C dL_law_721 (v := 2) (by decide) ?_
  refine U.iadd (pc := 722) C dL_law_722 ?_
  refine U.sldN (pc := 723) (j := 6 * k + 2) C dL_law_723 (e2 k) (by omega) hLn ?_
  refine U.callX (pc := 724) (st := []) (N1 := N) C (c_X11_judge l hN (xs (6 * k + 1)) (xs (6 * k + 2)) mx) h1 (fun _ _ => rfl) (fun _ _ _ _ _ => ⟨rfl, rfl⟩) ck_X11_judge ml_RL_77 rfl (by omega) (by omega) (by omega) (by rw [Nat.sub_self]; exact Nat.zero_le _) rfl rfl (Nat.le_of_ble_eq_true rfl) ⟨by decide, by decide⟩ dL_law_724 ?_
  refine U.aload2 (pc := 727) C dL_law_727 1 rfl ?_
  refine U.aload0 (pc := 728) C dL_law_728 3 rfl ?_
  refine U.iload_n (pc := 729) C dL_law_729 0 rfl ?_
  refine U.iconst (pc := 730) C dL_law_730 (v := 1) (by decide) ?_
  refine U.iadd (pc := 731) C dL_law_731 ?_
  refine U.sldN (pc := 732) (j := 6 * k + 1) C dL_law_732 (e1 k) (by omega) hLn ?_
  refine U.aload0 (pc := 733) C dL_law_733 3 rfl ?_
  refine U.iload_n (pc := 734) C dL_law_734 0 rfl ?_
  refine U.iconst (pc := 735) C dL_law_735 (v := 2) (by decide) ?_
  refine U.iadd (pc := 736) C dL_law_736 ?_
  refine U.sldN (pc := 737) (j := 6 * k + 2) C dL_law_737 (e2 k) (by omega) hLn ?_
  refine U.callM (pc := 738) (st := [.int r]) C (c_X12_judge l (xs (6 * k + 1)) (xs (6 * k + 2)) mm) h2 (fun _ _ => rfl) (fun _ _ _ _ _ => ⟨rfl, rfl⟩) ck_X12_judge ml_RL_80 rfl (by omega) rfl rfl (Nat.le_of_ble_eq_true rfl) ⟨by decide, by decide⟩ dL_law_738 ?_
  refine U.ieqT (pc := 741) C dL_law_741 1614 (by decide) rfl ?_
  exact K _ _ _ h3
set_option maxRecDepth 100000 in
set_option maxHeartbeats 4000000 in
theorem cs_16 {G : Gt} {l : Launch} {p : Program} {e : Env} {s : State} {mt : MethodId} {b : Nat} {below : List Frame} {meth : Method} {c : Code} {Ln : Nat} {xs : Nat → Int32} (C : CU G p s mt meth c b Ln xs) (hLn : Ln ≤ 3072) {Rel : Nat → Nat → Mem → Mem → Prop} (hs : St_perform Rel) {k N : Nat} {mx mm : Mem} (hk : 6 * k + 6 ≤ Ln) (hN : 109 ≤ N) (hN2 : N ≤ 137) (hR : Rel k N mx mm) (K : ∀ (N1 : Nat) (mx1 mm1 : Mem), Rel (k + 1) N1 mx1 mm1 → U G l p e s mt b below meth c N1 1614 [(3, .int (nI (6 * k))), (2, .retAddr 2), (1, .retAddr 1), (0, .retAddr 0)] [] mx1 mm1) : U G l p e s mt b below meth c N 746 [(3, .int (nI (6 * k))), (2, .retAddr 2), (1, .retAddr 1), (0, .retAddr 0)] [] mx mm := by
  obtain ⟨r, mx1, mm1, h1, h2, h3⟩ := hs k N mx mm (by omega) hR (xs (6 * k + 1))
  refine U.aload1 (pc := 746) C dL_law_746 2 rfl ?_
  refine U.aload0 (pc := 747) C dL_law_747 3 rfl ?_
  refine U.iload_n (pc := 748) C dL_law_748 0 rfl ?_
  refine U.iconst (pc := 749) C dL_law_749 (v := 1) (by decide) ?_
  refine U.iadd (pc := 750) C dL_law_750 ?_
  refine U.sldN (pc := 751) (j := 6 * k + 1) C dL_law_751 (e1 k) (by omega) hLn ?_
  refine U.callX (pc := 752) (st := []) (N1 := N) C (c_X11_perform l hN (xs (6 * k + 1)) mx) h1 (fun _ _ => rfl) (fun _ _ _ _ _ => ⟨rfl, rfl⟩) ck_X11_perform ml_RL_81 rfl (by omega) (by omega) (by omega) (by rw [Nat.sub_self]; exact Nat.zero_le _) rfl rfl (Nat.le_of_ble_eq_true rfl) ⟨by decide, by decide⟩ dL_law_752 ?_
  refine U.aload2 (pc := 755) C dL_law_755 1 rfl ?_
  refine U.aload0 (pc := 756) C dL_law_756 3 rfl ?_
  refine U.iload_n (pc := 757) C dL_law_757 0 rfl ?_
  refine U.iconst (pc := 758) C dL_law_758 (v := 1) (by decide) ?_
  refine U.iadd (pc := 759) C dL_law_759 ?_
  refine U.sldN (pc := 760) (j := 6 * k + 1) C dL_law_760 (e1 k) (by omega) hLn ?_
  refine U.callM (pc := 761) (st := [.int r]) C (c_X12_perform l (xs (6 * k + 1)) mm) h2 (fun _ _ => rfl) (fun _ _ _ _ _ => ⟨rfl, rfl⟩) ck_X12_perform ml_RL_84 rfl (by omega) rfl rfl (Nat.le_of_ble_eq_true rfl) ⟨by decide, by decide⟩ dL_law_761 ?_
  refine U.ieqT (pc := 764) C dL_law_764 1614 (by decide) rfl ?_
  exact K _ _ _ h3
set_option maxRecDepth 100000 in
set_option maxHeartbeats 4000000 in
theorem cs_17 {G : Gt} {l : Launch} {p : Program} {e : Env} {s : State} {mt : MethodId} {b : Nat} {below : List Frame} {meth : Method} {c : Code} {Ln : Nat} {xs : Nat → Int32} (C : CU G p s mt meth c b Ln xs) (hLn : Ln ≤ 3072) {Rel : Nat → Nat → Mem → Mem → Prop} (hs : St_season Rel) {k N : Nat} {mx mm : Mem} (hk : 6 * k + 6 ≤ Ln) (hN : 109 ≤ N) (hN2 : N ≤ 137) (hR : Rel k N mx mm) (K : ∀ (N1 : Nat) (mx1 mm1 : Mem), Rel (k + 1) N1 mx1 mm1 → U G l p e s mt b below meth c N1 1614 [(3, .int (nI (6 * k))), (2, .retAddr 2), (1, .retAddr 1), (0, .retAddr 0)] [] mx1 mm1) : U G l p e s mt b below meth c N 769 [(3, .int (nI (6 * k))), (2, .retAddr 2), (1, .retAddr 1), (0, .retAddr 0)] [] mx mm := by
  obtain ⟨r, mx1, mm1, h1, h2, h3⟩ := hs k N mx mm (by omega) hR (xs (6 * k + 1)) (xs (6 * k + 2))
  refine U.aload1 (pc := 769) C dL_law_769 2 rfl ?_
  refine U.aload0 (pc := 770) C dL_law_770 3 rfl ?_
  refine U.iload_n (pc := 771) C dL_law_771 0 rfl ?_
  refine U.iconst (pc := 772) C dL_law_772 (v := 1) (by decide) ?_
  refine U.iadd (pc := 773) C dL_law_773 ?_
  refine U.sldN (pc := 774) (j := 6 * k + 1) C dL_law_774 (e1 k) (by omega) hLn ?_
  refine U.aload0 (pc := 775) C dL_law_775 3 rfl ?_
  refine U.iload_n (pc := 776) C dL_law_776 0 rfl ?_
  refine U.iconst (pc := 777) C dL_law_777 (v := 2) (by decide) ?_
  refine U.iadd (pc := 778) C dL_law_778 ?_
  refine U.sldN (pc := 779) (j := 6 * k + 2) C dL_law_779 (e2 k) (by omega) hLn ?_
  refine U.callX (pc := 780) (st := []) (N1 := N) C (c_X11_season l hN (xs (6 * k + 1)) (xs (6 * k + 2)) mx) h1 (fun _ _ => rfl) (fun _ _ _ _ _ => ⟨rfl, rfl⟩) ck_X11_season ml_RL_85 rfl (by omega) (by omega) (by omega) (by rw [Nat.sub_self]; exact Nat.zero_le _) rfl rfl (Nat.le_of_ble_eq_true rfl) ⟨by decide, by decide⟩ dL_law_780 ?_
  refine U.aload2 (pc := 783) C dL_law_783 1 rfl ?_
  refine U.aload0 (pc := 784) C dL_law_784 3 rfl ?_
  refine U.iload_n (pc := 785) C dL_law_785 0 rfl ?_
  refine U.iconst (pc := 786) C dL_law_786 (v := 1) (by decide) ?_
  refine U.iadd (pc := 787) C dL_law_787 ?_
  refine U.sldN (pc := 788) (j := 6 * k + 1) C dL_law_788 (e1 k) (by omega) hLn ?_
  refine U.aload0 (pc := 789) C dL_law_789 3 rfl ?_
  refine U.iload_n (pc := 790) C dL_law_790 0 rfl ?_
  refine U.iconst (pc := 791) C dL_law_791 (v := 2) (by decide) ?_
  refine U.iadd (pc := 792) C dL_law_792 ?_
  refine U.sldN (pc := 793) (j := 6 * k + 2) C dL_law_793 (e2 k) (by omega) hLn ?_
  refine U.callM (pc := 794) (st := [.int r]) C (c_X12_season l (xs (6 * k + 1)) (xs (6 * k + 2)) mm) h2 (fun _ _ => rfl) (fun _ _ _ _ _ => ⟨rfl, rfl⟩) ck_X12_season ml_RL_88 rfl (by omega) rfl rfl (Nat.le_of_ble_eq_true rfl) ⟨by decide, by decide⟩ dL_law_794 ?_
  refine U.ieqT (pc := 797) C dL_law_797 1614 (by decide) rfl ?_
  exact K _ _ _ h3
set_option maxRecDepth 100000 in
set_option maxHeartbeats 4000000 in
theorem cs_18 {G : Gt} {l : Launch} {p : Program} {e : Env} {s : State} {mt : MethodId} {b : Nat} {below : List Frame} {meth : Method} {c : Code} {Ln : Nat} {xs : Nat → Int32} (C : CU G p s mt meth c b Ln xs) (hLn : Ln ≤ 3072) {Rel : Nat → Nat → Mem → Mem → Prop} (hs : St_matchings Rel) {k N : Nat} {mx mm : Mem} (hk : 6 * k + 6 ≤ Ln) (hN : 109 ≤ N) (hN2 : N ≤ 137) (hR : Rel k N mx mm) (K : ∀ (N1 : Nat) (mx1 mm1 : Mem), Rel (k + 1) N1 mx1 mm1 → U G l p e s mt b below meth c N1 1614 [(3, .int (nI (6 * k))), (2, .retAddr 2), (1, .retAddr 1), (0, .retAddr 0)] [] mx1 mm1) : U G l p e s mt b below meth c N 802 [(3, .int (nI (6 * k))), (2, .retAddr 2), (1, .retAddr 1), (0, .retAddr 0)] [] mx mm := by
  obtain ⟨r, mx1, mm1, h1, h2, h3⟩ := hs k N mx mm (by omega) hR (xs (6 * k + 1))
  refine U.aload1 (pc := 802) C dL_law_802 2 rfl ?_
  refine U.aload0 (pc := 803) C dL_law_803 3 rfl ?_
  refine U.iload_n (pc := 804) C dL_law_804 0 rfl ?_
  refine U.iconst (pc := 805) C dL_law_805 (v := 1) (by decide) ?_
  refine U.iadd (pc := 806) C dL_law_806 ?_
  refine U.sldN (pc := 807) (j := 6 * k + 1) C dL_law_807 (e1 k) (by omega) hLn ?_
  refine U.callX (pc := 808) (st := []) (N1 := N) C (c_X11_matchings l hN (xs (6 * k + 1)) mx) h1 (fun _ _ => rfl) (fun _ _ _ _ _ => ⟨rfl, rfl⟩) ck_X11_matchings ml_RL_89 rfl (by omega) (by omega) (by omega) (by rw [Nat.sub_self]; exact Nat.zero_le _) rfl rfl (Nat.le_of_ble_eq_true rfl) ⟨by decide, by decide⟩ dL_law_808 ?_
  refine U.aload2 (pc := 811) C dL_law_811 1 rfl ?_
  refine U.aload0 (pc := 812) C dL_law_812 3 rfl ?_
  refine U.iload_n (pc := 813) C dL_law_813 0 rfl ?_
  refine U.iconst (pc := 814) C dL_law_814 (v := 1) (by decide) ?_
  refine U.iadd (pc := 815) C dL_law_815 ?_
  refine U.sldN (pc := 816) (j := 6 * k + 1) C dL_law_816 (e1 k) (by omega) hLn ?_
  refine U.callM (pc := 817) (st := [.int r]) C (c_X12_matchings l (xs (6 * k + 1)) mm) h2 (fun _ _ => rfl) (fun _ _ _ _ _ => ⟨rfl, rfl⟩) ck_X12_matchings ml_RL_92 rfl (by omega) rfl rfl (Nat.le_of_ble_eq_true rfl) ⟨by decide, by decide⟩ dL_law_817 ?_
  refine U.ieqT (pc := 820) C dL_law_820 1614 (by decide) rfl ?_
  exact K _ _ _ h3
set_option maxRecDepth 100000 in
set_option maxHeartbeats 4000000 in
theorem cs_19 {G : Gt} {l : Launch} {p : Program} {e : Env} {s : State} {mt : MethodId} {b : Nat} {below : List Frame} {meth : Method} {c : Code} {Ln : Nat} {xs : Nat → Int32} (C : CU G p s mt meth c b Ln xs) (hLn : Ln ≤ 3072) {Rel : Nat → Nat → Mem → Mem → Prop} (hs : St_most Rel) {k N : Nat} {mx mm : Mem} (hk : 6 * k + 6 ≤ Ln) (hN : 109 ≤ N) (hN2 : N ≤ 137) (hR : Rel k N mx mm) (K : ∀ (N1 : Nat) (mx1 mm1 : Mem), Rel (k + 1) N1 mx1 mm1 → U G l p e s mt b below meth c N1 1614 [(3, .int (nI (6 * k))), (2, .retAddr 2), (1, .retAddr 1), (0, .retAddr 0)] [] mx1 mm1) : U G l p e s mt b below meth c N 825 [(3, .int (nI (6 * k))), (2, .retAddr 2), (1, .retAddr 1), (0, .retAddr 0)] [] mx mm := by
  obtain ⟨r, mx1, mm1, h1, h2, h3⟩ := hs k N mx mm (by omega) hR (xs (6 * k + 1))
  refine U.aload1 (pc := 825) C dL_law_825 2 rfl ?_
  refine U.aload0 (pc := 826) C dL_law_826 3 rfl ?_
  refine U.iload_n (pc := 827) C dL_law_827 0 rfl ?_
  refine U.iconst (pc := 828) C dL_law_828 (v := 1) (by decide) ?_
  refine U.iadd (pc := 829) C dL_law_829 ?_
  refine U.sldN (pc := 830) (j := 6 * k + 1) C dL_law_830 (e1 k) (by omega) hLn ?_
  refine U.callX (pc := 831) (st := []) (N1 := N) C (c_X11_most l hN (xs (6 * k + 1)) mx) h1 (fun _ _ => rfl) (fun _ _ _ _ _ => ⟨rfl, rfl⟩) ck_X11_most ml_RL_93 rfl (by omega) (by omega) (by omega) (by rw [Nat.sub_self]; exact Nat.zero_le _) rfl rfl (Nat.le_of_ble_eq_true rfl) ⟨by decide, by decide⟩ dL_law_831 ?_
  refine U.aload2 (pc := 834) C dL_law_834 1 rfl ?_
  refine U.aload0 (pc := 835) C dL_law_835 3 rfl ?_
  refine U.iload_n (pc := 836) C dL_law_836 0 rfl ?_
  refine U.iconst (pc := 837) C dL_law_837 (v := 1) (by decide) ?_
  refine U.iadd (pc := 838) C dL_law_838 ?_
  refine U.sldN (pc := 839) (j := 6 * k + 1) C dL_law_839 (e1 k) (by omega) hLn ?_
  refine U.callM (pc := 840) (st := [.int r]) C (c_X12_most l (xs (6 * k + 1)) mm) h2 (fun _ _ => rfl) (fun _ _ _ _ _ => ⟨rfl, rfl⟩) ck_X12_most ml_RL_96 rfl (by omega) rfl rfl (Nat.le_of_ble_eq_true rfl) ⟨by decide, by decide⟩ dL_law_840 ?_
  refine U.ieqT (pc := 843) C dL_law_843 1614 (by decide) rfl ?_
  exact K _ _ _ h3
set_option maxRecDepth 100000 in
set_option maxHeartbeats 4000000 in
theorem cs_20 {G : Gt} {l : Launch} {p : Program} {e : Env} {s : State} {mt : MethodId} {b : Nat} {below : List Frame} {meth : Method} {c : Code} {Ln : Nat} {xs : Nat → Int32} (C : CU G p s mt meth c b Ln xs) (hLn : Ln ≤ 3072) {Rel : Nat → Nat → Mem → Mem → Prop} (hs : St_stable Rel) {k N : Nat} {mx mm : Mem} (hk : 6 * k + 6 ≤ Ln) (hN : 109 ≤ N) (hN2 : N ≤ 137) (hR : Rel k N mx mm) (K : ∀ (N1 : Nat) (mx1 mm1 : Mem), Rel (k + 1) N1 mx1 mm1 → U G l p e s mt b below meth c N1 1614 [(3, .int (nI (6 * k))), (2, .retAddr 2), (1, .retAddr 1), (0, .retAddr 0)] [] mx1 mm1) : U G l p e s mt b below meth c N 848 [(3, .int (nI (6 * k))), (2, .retAddr 2), (1, .retAddr 1), (0, .retAddr 0)] [] mx mm := by
  obtain ⟨r, mx1, mm1, h1, h2, h3⟩ := hs k N mx mm (by omega) hR (xs (6 * k + 1))
  refine U.aload1 (pc := 848) C dL_law_848 2 rfl ?_
  refine U.aload0 (pc := 849) C dL_law_849 3 rfl ?_
  refine U.iload_n (pc := 850) C dL_law_850 0 rfl ?_
  refine U.iconst (pc := 851) C dL_law_851 (v := 1) (by decide) ?_
  refine U.iadd (pc := 852) C dL_law_852 ?_
  refine U.sldN (pc := 853) (j := 6 * k + 1) C dL_law_853 (e1 k) (by omega) hLn ?_
  refine U.callX (pc := 854) (st := []) (N1 := N) C (c_X11_stable l hN (xs (6 * k + 1)) mx) h1 (fun _ _ => rfl) (fun _ _ _ _ _ => ⟨rfl, rfl⟩) ck_X11_stable ml_RL_97 rfl (by omega) (by omega) (by omega) (by rw [Nat.sub_self]; exact Nat.zero_le _) rfl rfl (Nat.le_of_ble_eq_true rfl) ⟨by decide, by decide⟩ dL_law_854 ?_
  refine U.aload2 (pc := 857) C dL_law_857 1 rfl ?_
  refine U.aload0 (pc := 858) C dL_law_858 3 rfl ?_
  refine U.iload_n (pc := 859) C dL_law_859 0 rfl ?_
  refine U.iconst (pc := 860) C dL_law_860 (v := 1) (by decide) ?_
  refine U.iadd (pc := 861) C dL_law_861 ?_
  refine U.sldN (pc := 862) (j := 6 * k + 1) C dL_law_862 (e1 k) (by omega) hLn ?_
  refine U.callM (pc := 863) (st := [.int r]) C (c_X12_stable l (xs (6 * k + 1)) mm) h2 (fun _ _ => rfl) (fun _ _ _ _ _ => ⟨rfl, rfl⟩) ck_X12_stable ml_RL_100 rfl (by omega) rfl rfl (Nat.le_of_ble_eq_true rfl) ⟨by decide, by decide⟩ dL_law_863 ?_
  refine U.ieqT (pc := 866) C dL_law_866 1614 (by decide) rfl ?_
  exact K _ _ _ h3
set_option maxRecDepth 100000 in
set_option maxHeartbeats 4000000 in
theorem cs_21 {G : Gt} {l : Launch} {p : Program} {e : Env} {s : State} {mt : MethodId} {b : Nat} {below : List Frame} {meth : Method} {c : Code} {Ln : Nat} {xs : Nat → Int32} (C : CU G p s mt meth c b Ln xs) (hLn : Ln ≤ 3072) {Rel : Nat → Nat → Mem → Mem → Prop} (hs : St_breaks Rel) {k N : Nat} {mx mm : Mem} (hk : 6 * k + 6 ≤ Ln) (hN : 109 ≤ N) (hN2 : N ≤ 137) (hR : Rel k N mx mm) (K : ∀ (N1 : Nat) (mx1 mm1 : Mem), Rel (k + 1) N1 mx1 mm1 → U G l p e s mt b below meth c N1 1614 [(3, .int (nI (6 * k))), (2, .retAddr 2), (1, .retAddr 1), (0, .retAddr 0)] [] mx1 mm1) : U G l p e s mt b below meth c N 871 [(3, .int (nI (6 * k))), (2, .retAddr 2), (1, .retAddr 1), (0, .retAddr 0)] [] mx mm := by
  obtain ⟨r, mx1, mm1, h1, h2, h3⟩ := hs k N mx mm (by omega) hR 
  refine U.aload1 (pc := 871) C dL_law_871 2 rfl ?_
  refine U.callX (pc := 872) (st := []) (N1 := N) C (c_X11_breaks l hN  mx) h1 (fun _ _ => rfl) (fun _ _ _ _ _ => ⟨rfl, rfl⟩) ck_X11_breaks ml_RL_101 rfl (by omega) (by omega) (by omega) (by rw [Nat.sub_self]; exact Nat.zero_le _) rfl rfl (Nat.le_of_ble_eq_true rfl) ⟨by decide, by decide⟩ dL_law_872 ?_
  refine U.aload2 (pc := 875) C dL_law_875 1 rfl ?_
  refine U.callM (pc := 876) (st := [.int r]) C (c_X12_breaks l  mm) h2 (fun _ _ => rfl) (fun _ _ _ _ _ => ⟨rfl, rfl⟩) ck_X12_breaks ml_RL_105 rfl (by omega) rfl rfl (Nat.le_of_ble_eq_true rfl) ⟨by decide, by decide⟩ dL_law_876 ?_
  refine U.ieqT (pc := 879) C dL_law_879 1614 (by decide) rfl ?_
  exact K _ _ _ h3
set_option maxRecDepth 100000 in
set_option maxHeartbeats 4000000 in
theorem cs_22 {G : Gt} {l : Launch} {p : Program} {e : Env} {s : State} {mt : MethodId} {b : Nat} {below : List Frame} {meth : Method} {c : Code} {Ln : Nat} {xs : Nat → Int32} (C : CU G p s mt meth c b Ln xs) (hLn : Ln ≤ 3072) {Rel : Nat → Nat → Mem → Mem → Prop} (hs : St_matchAll Rel) {k N : Nat} {mx mm : Mem} (hk : 6 * k + 6 ≤ Ln) (hN : 109 ≤ N) (hN2 : N ≤ 137) (hR : Rel k N mx mm) (K : ∀ (N1 : Nat) (mx1 mm1 : Mem), Rel (k + 1) N1 mx1 mm1 → U G l p e s mt b below meth c N1 1614 [(3, .int (nI (6 * k))), (2, .retAddr 2), (1, .retAddr 1), (0, .retAddr 0)] [] mx1 mm1) : U G l p e s mt b below meth c N 884 [(3, .int (nI (6 * k))), (2, .retAddr 2), (1, .retAddr 1), (0, .retAddr 0)] [] mx mm := by
  obtain ⟨r, mx1, mm1, h1, h2, h3⟩ := hs k N mx mm (by omega) hR 
  refine U.aload1 (pc := 884) C dL_law_884 2 rfl ?_
  refine U.callX (pc := 885) (st := []) (N1 := N) C (c_X11_matchAll l hN  mx) h1 (fun _ _ => rfl) (fun _ _ _ _ _ => ⟨rfl, rfl⟩) ck_X11_matchAll ml_RL_106 rfl (by omega) (by omega) (by omega) (by rw [Nat.sub_self]; exact Nat.zero_le _) rfl rfl (Nat.le_of_ble_eq_true rfl) ⟨by decide, by decide⟩ dL_law_885 ?_
  refine U.aload2 (pc := 888) C dL_law_888 1 rfl ?_
  refine U.callM (pc := 889) (st := [.int r]) C (c_X12_matchAll l  mm) h2 (fun _ _ => rfl) (fun _ _ _ _ _ => ⟨rfl, rfl⟩) ck_X12_matchAll ml_RL_109 rfl (by omega) rfl rfl (Nat.le_of_ble_eq_true rfl) ⟨by decide, by decide⟩ dL_law_889 ?_
  refine U.ieqT (pc := 892) C dL_law_892 1614 (by decide) rfl ?_
  exact K _ _ _ h3
set_option maxRecDepth 100000 in
set_option maxHeartbeats 4000000 in
theorem cs_23 {G : Gt} {l : Launch} {p : Program} {e : Env} {s : State} {mt : MethodId} {b : Nat} {below : List Frame} {meth : Method} {c : Code} {Ln : Nat} {xs : Nat → Int32} (C : CU G p s mt meth c b Ln xs) (hLn : Ln ≤ 3072) {Rel : Nat → Nat → Mem → Mem → Prop} (hs : St_dearest Rel) {k N : Nat} {mx mm : Mem} (hk : 6 * k + 6 ≤ Ln) (hN : 109 ≤ N) (hN2 : N ≤ 137) (hR : Rel k N mx mm) (K : ∀ (N1 : Nat) (mx1 mm1 : Mem), Rel (k + 1) N1 mx1 mm1 → U G l p e s mt b below meth c N1 1614 [(3, .int (nI (6 * k))), (2, .retAddr 2), (1, .retAddr 1), (0, .retAddr 0)] [] mx1 mm1) : U G l p e s mt b below meth c N 897 [(3, .int (nI (6 * k))), (2, .retAddr 2), (1, .retAddr 1), (0, .retAddr 0)] [] mx mm := by
  obtain ⟨r, mx1, mm1, h1, h2, h3⟩ := hs k N mx mm (by omega) hR (xs (6 * k + 1))
  refine U.aload1 (pc := 897) C dL_law_897 2 rfl ?_
  refine U.aload0 (pc := 898) C dL_law_898 3 rfl ?_
  refine U.iload_n (pc := 899) C dL_law_899 0 rfl ?_
  refine U.iconst (pc := 900) C dL_law_900 (v := 1) (by decide) ?_
  refine U.iadd (pc := 901) C dL_law_901 ?_
  refine U.sldN (pc := 902) (j := 6 * k + 1) C dL_law_902 (e1 k) (by omega) hLn ?_
  refine U.callX (pc := 903) (st := []) (N1 := N) C (c_X11_dearest l hN (xs (6 * k + 1)) mx) h1 (fun _ _ => rfl) (fun _ _ _ _ _ => ⟨rfl, rfl⟩) ck_X11_dearest ml_RL_110 rfl (by omega) (by omega) (by omega) (by rw [Nat.sub_self]; exact Nat.zero_le _) rfl rfl (Nat.le_of_ble_eq_true rfl) ⟨by decide, by decide⟩ dL_law_903 ?_
  refine U.aload2 (pc := 906) C dL_law_906 1 rfl ?_
  refine U.aload0 (pc := 907) C dL_law_907 3 rfl ?_
  refine U.iload_n (pc := 908) C dL_law_908 0 rfl ?_
  refine U.iconst (pc := 909) C dL_law_909 (v := 1) (by decide) ?_
  refine U.iadd (pc := 910) C dL_law_910 ?_
  refine U.sldN (pc := 911) (j := 6 * k + 1) C dL_law_911 (e1 k) (by omega) hLn ?_
  refine U.callM (pc := 912) (st := [.int r]) C (c_X12_dearest l (xs (6 * k + 1)) mm) h2 (fun _ _ => rfl) (fun _ _ _ _ _ => ⟨rfl, rfl⟩) ck_X12_dearest ml_RL_113 rfl (by omega) rfl rfl (Nat.le_of_ble_eq_true rfl) ⟨by decide, by decide⟩ dL_law_912 ?_
  refine U.ieqT (pc := 915) C dL_law_915 1614 (by decide) rfl ?_
  exact K _ _ _ h3
set_option maxRecDepth 100000 in
set_option maxHeartbeats 4000000 in
theorem cs_24 {G : Gt} {l : Launch} {p : Program} {e : Env} {s : State} {mt : MethodId} {b : Nat} {below : List Frame} {meth : Method} {c : Code} {Ln : Nat} {xs : Nat → Int32} (C : CU G p s mt meth c b Ln xs) (hLn : Ln ≤ 3072) {Rel : Nat → Nat → Mem → Mem → Prop} (hs : St_holds Rel) {k N : Nat} {mx mm : Mem} (hk : 6 * k + 6 ≤ Ln) (hN : 109 ≤ N) (hN2 : N ≤ 137) (hR : Rel k N mx mm) (K : ∀ (N1 : Nat) (mx1 mm1 : Mem), Rel (k + 1) N1 mx1 mm1 → U G l p e s mt b below meth c N1 1614 [(3, .int (nI (6 * k))), (2, .retAddr 2), (1, .retAddr 1), (0, .retAddr 0)] [] mx1 mm1) : U G l p e s mt b below meth c N 920 [(3, .int (nI (6 * k))), (2, .retAddr 2), (1, .retAddr 1), (0, .retAddr 0)] [] mx mm := by
  obtain ⟨r, mx1, mm1, h1, h2, h3⟩ := hs k N mx mm (by omega) hR (xs (6 * k + 1)) (xs (6 * k + 2))
  refine U.aload1 (pc := 920) C dL_law_920 2 rfl ?_
  refine U.aload0 (pc := 921) C dL_law_921 3 rfl ?_
  refine U.iload_n (pc := 922) C dL_law_922 0 rfl ?_
  refine U.iconst (pc := 923) C dL_law_923 (v := 1) (by decide) ?_
  refine U.iadd (pc := 924) C dL_law_924 ?_
  refine U.sldN (pc := 925) (j := 6 * k + 1) C dL_law_925 (e1 k) (by omega) hLn ?_
  refine U.aload0 (pc := 926) C dL_law_926 3 rfl ?_
  refine U.iload_n (pc := 927) C dL_law_927 0 rfl ?_
  refine U.iconst (pc := 928) C dL_law_928 (v := 2) (by decide) ?_
  refine U.iadd (pc := 929) C dL_law_929 ?_
  refine U.sldN (pc := 930) (j := 6 * k + 2) C dL_law_930 (e2 k) (by omega) hLn ?_
  refine U.callX (pc := 931) (st := []) (N1 := N) C (c_X11_holds l hN (xs (6 * k + 1)) (xs (6 * k + 2)) mx) h1 (fun _ _ => rfl) (fun _ _ _ _ _ => ⟨rfl, rfl⟩) ck_X11_holds ml_RL_114 rfl (by omega) (by omega) (by omega) (by rw [Nat.sub_self]; exact Nat.zero_le _) rfl rfl (Nat.le_of_ble_eq_true rfl) ⟨by decide, by decide⟩ dL_law_931 ?_
  refine U.aload2 (pc := 934) C dL_law_934 1 rfl ?_
  refine U.aload0 (pc := 935) C dL_law_935 3 rfl ?_
  refine U.iload_n (pc := 936) C dL_law_936 0 rfl ?_
  refine U.iconst (pc := 937) C dL_law_937 (v := 1) (by decide) ?_
  refine U.iadd (pc := 938) C dL_law_938 ?_
  refine U.sldN (pc := 939) (j := 6 * k + 1) C dL_law_939 (e1 k) (by omega) hLn ?_
  refine U.aload0 (pc := 940) C dL_law_940 3 rfl ?_
  refine U.iload_n (pc := 941) C dL_law_941 0 rfl ?_
  refine U.iconst (pc := 942) C dL_law_942 (v := 2) (by decide) ?_
  refine U.iadd (pc := 943) C dL_law_943 ?_
  refine U.sldN (pc := 944) (j := 6 * k + 2) C dL_law_944 (e2 k) (by omega) hLn ?_
  refine U.callM (pc := 945) (st := [.int r]) C (c_X12_holds l (xs (6 * k + 1)) (xs (6 * k + 2)) mm) h2 (fun _ _ => rfl) (fun _ _ _ _ _ => ⟨rfl, rfl⟩) ck_X12_holds ml_RL_117 rfl (by omega) rfl rfl (Nat.le_of_ble_eq_true rfl) ⟨by decide, by decide⟩ dL_law_945 ?_
  refine U.ieqT (pc := 948) C dL_law_948 1614 (by decide) rfl ?_
  exact K _ _ _ h3
set_option maxRecDepth 100000 in
set_option maxHeartbeats 4000000 in
theorem cs_25 {G : Gt} {l : Launch} {p : Program} {e : Env} {s : State} {mt : MethodId} {b : Nat} {below : List Frame} {meth : Method} {c : Code} {Ln : Nat} {xs : Nat → Int32} (C : CU G p s mt meth c b Ln xs) (hLn : Ln ≤ 3072) {Rel : Nat → Nat → Mem → Mem → Prop} (hs : St_goodIn Rel) {k N : Nat} {mx mm : Mem} (hk : 6 * k + 6 ≤ Ln) (hN : 109 ≤ N) (hN2 : N ≤ 137) (hR : Rel k N mx mm) (K : ∀ (N1 : Nat) (mx1 mm1 : Mem), Rel (k + 1) N1 mx1 mm1 → U G l p e s mt b below meth c N1 1614 [(3, .int (nI (6 * k))), (2, .retAddr 2), (1, .retAddr 1), (0, .retAddr 0)] [] mx1 mm1) : U G l p e s mt b below meth c N 953 [(3, .int (nI (6 * k))), (2, .retAddr 2), (1, .retAddr 1), (0, .retAddr 0)] [] mx mm := by
  obtain ⟨r, mx1, mm1, h1, h2, h3⟩ := hs k N mx mm (by omega) hR (xs (6 * k + 1)) (xs (6 * k + 2)) (xs (6 * k + 3))
  refine U.aload1 (pc := 953) C dL_law_953 2 rfl ?_
  refine U.aload0 (pc := 954) C dL_law_954 3 rfl ?_
  refine U.iload_n (pc := 955) C dL_law_955 0 rfl ?_
  refine U.iconst (pc := 956) C dL_law_956 (v := 1) (by decide) ?_
  refine U.iadd (pc := 957) C dL_law_957 ?_
  refine U.sldN (pc := 958) (j := 6 * k + 1) C dL_law_958 (e1 k) (by omega) hLn ?_
  refine U.aload0 (pc := 959) C dL_law_959 3 rfl ?_
  refine U.iload_n (pc := 960) C dL_law_960 0 rfl ?_
  refine U.iconst (pc := 961) C dL_law_961 (v := 2) (by decide) ?_
  refine U.iadd (pc := 962) C dL_law_962 ?_
  refine U.sldN (pc := 963) (j := 6 * k + 2) C dL_law_963 (e2 k) (by omega) hLn ?_
  refine U.aload0 (pc := 964) C dL_law_964 3 rfl ?_
  refine U.iload_n (pc := 965) C dL_law_965 0 rfl ?_
  refine U.iconst (pc := 966) C dL_law_966 (v := 3) (by decide) ?_
  refine U.iadd (pc := 967) C dL_law_967 ?_
  refine U.sldN (pc := 968) (j := 6 * k + 3) C dL_law_968 (e3 k) (by omega) hLn ?_
  refine U.callX (pc := 969) (st := []) (N1 := N) C (c_X11_goodIn l hN (xs (6 * k + 1)) (xs (6 * k + 2)) (xs (6 * k + 3)) mx) h1 (fun _ _ => rfl) (fun _ _ _ _ _ => ⟨rfl, rfl⟩) ck_X11_goodIn ml_RL_118 rfl (by omega) (by omega) (by omega) (by rw [Nat.sub_self]; exact Nat.zero_le _) rfl rfl (Nat.le_of_ble_eq_true rfl) ⟨by decide, by decide⟩ dL_law_969 ?_
  refine U.aload2 (pc := 972) C dL_law_972 1 rfl ?_
  refine U.aload0 (pc := 973) C dL_law_973 3 rfl ?_
  refine U.iload_n (pc := 974) C dL_law_974 0 rfl ?_
  refine U.iconst (pc := 975) C dL_law_975 (v := 1) (by decide) ?_
  refine U.iadd (pc := 976) C dL_law_976 ?_
  refine U.sldN (pc := 977) (j := 6 * k + 1) C dL_law_977 (e1 k) (by omega) hLn ?_
  refine U.aload0 (pc := 978) C dL_law_978 3 rfl ?_
  refine U.iload_n (pc := 979) C dL_law_979 0 rfl ?_
  refine U.iconst (pc := 980) C dL_law_980 (v := 2) (by decide) ?_
  refine U.iadd (pc := 981) C dL_law_981 ?_
  refine U.sldN (pc := 982) (j := 6 * k + 2) C dL_law_982 (e2 k) (by omega) hLn ?_
  refine U.aload0 (pc := 983) C dL_law_983 3 rfl ?_
  refine U.iload_n (pc := 984) C dL_law_984 0 rfl ?_
  refine U.iconst (pc := 985) C dL_law_985 (v := 3) (by decide) ?_
  refine U.iadd (pc := 986) C dL_law_986 ?_
  refine U.sldN (pc := 987) (j := 6 * k + 3) C dL_law_987 (e3 k) (by omega) hLn ?_
  refine U.callM (pc := 988) (st := [.int r]) C (c_X12_goodIn l (xs (6 * k + 1)) (xs (6 * k + 2)) (xs (6 * k + 3)) mm) h2 (fun _ _ => rfl) (fun _ _ _ _ _ => ⟨rfl, rfl⟩) ck_X12_goodIn ml_RL_121 rfl (by omega) rfl rfl (Nat.le_of_ble_eq_true rfl) ⟨by decide, by decide⟩ dL_law_988 ?_
  refine U.ieqT (pc := 991) C dL_law_991 1614 (by decide) rfl ?_
  exact K _ _ _ h3
set_option maxRecDepth 100000 in
set_option maxHeartbeats 4000000 in
theorem cs_26 {G : Gt} {l : Launch} {p : Program} {e : Env} {s : State} {mt : MethodId} {b : Nat} {below : List Frame} {meth : Method} {c : Code} {Ln : Nat} {xs : Nat → Int32} (C : CU G p s mt meth c b Ln xs) (hLn : Ln ≤ 3072) {Rel : Nat → Nat → Mem → Mem → Prop} (hs : St_lasting Rel) {k N : Nat} {mx mm : Mem} (hk : 6 * k + 6 ≤ Ln) (hN : 109 ≤ N) (hN2 : N ≤ 137) (hR : Rel k N mx mm) (K : ∀ (N1 : Nat) (mx1 mm1 : Mem), Rel (k + 1) N1 mx1 mm1 → U G l p e s mt b below meth c N1 1614 [(3, .int (nI (6 * k))), (2, .retAddr 2), (1, .retAddr 1), (0, .retAddr 0)] [] mx1 mm1) : U G l p e s mt b below meth c N 996 [(3, .int (nI (6 * k))), (2, .retAddr 2), (1, .retAddr 1), (0, .retAddr 0)] [] mx mm := by
  obtain ⟨r, mx1, mm1, h1, h2, h3⟩ := hs k N mx mm (by omega) hR (xs (6 * k + 1)) (xs (6 * k + 2))
  refine U.aload1 (pc := 996) C dL_law_996 2 rfl ?_
  refine U.aload0 (pc := 997) C dL_law_997 3 rfl ?_
  refine U.iload_n (pc := 998) C dL_law_998 0 rfl ?_
  refine U.iconst (pc := 999) C dL_law_999 (v := 1) (by decide) ?_
  refine U.iadd (pc := 1000) C dL_law_1000 ?_
  refine U.sldN (pc := 1001) (j := 6 * k + 1) C dL_law_1001 (e1 k) (by omega) hLn ?_
  refine U.aload0 (pc := 1002) C dL_law_1002 3 rfl ?_
  refine U.iload_n (pc := 1003) C dL_law_1003 0 rfl ?_
  refine U.iconst (pc := 1004) C dL_law_1004 (v := 2) (by decide) ?_
  refine U.iadd (pc := 1005) C dL_law_1005 ?_
  refine U.sldN (pc := 1006) (j := 6 * k + 2) C dL_law_1006 (e2 k) (by omega) hLn ?_
  refine U.callX (pc := 1007) (st := []) (N1 := N) C (c_X11_lasting l hN (xs (6 * k + 1)) (xs (6 * k + 2)) mx) h1 (fun _ _ => rfl) (fun _ _ _ _ _ => ⟨rfl, rfl⟩) ck_X11_lasting ml_RL_122 rfl (by omega) (by omega) (by omega) (by rw [Nat.sub_self]; exact Nat.zero_le _) rfl rfl (Nat.le_of_ble_eq_true rfl) ⟨by decide, by decide⟩ dL_law_1007 ?_
  refine U.aload2 (pc := 1010) C dL_law_1010 1 rfl ?_
  refine U.aload0 (pc := 1011) C dL_law_1011 3 rfl ?_
  refine U.iload_n (pc := 1012) C dL_law_1012 0 rfl ?_
  refine U.iconst (pc := 1013) C dL_law_1013 (v := 1) (by decide) ?_
  refine U.iadd (pc := 1014) C dL_law_1014 ?_
  refine U.sldN (pc := 1015) (j := 6 * k + 1) C dL_law_1015 (e1 k) (by omega) hLn ?_
  refine U.aload0 (pc := 1016) C dL_law_1016 3 rfl ?_
  refine U.iload_n (pc := 1017) C dL_law_1017 0 rfl ?_
  refine U.iconst (pc := 1018) C dL_law_1018 (v := 2) (by decide) ?_
  refine U.iadd (pc := 1019) C dL_law_1019 ?_
  refine U.sldN (pc := 1020) (j := 6 * k + 2) C dL_law_1020 (e2 k) (by omega) hLn ?_
  refine U.callM (pc := 1021) (st := [.int r]) C (c_X12_lasting l (xs (6 * k + 1)) (xs (6 * k + 2)) mm) h2 (fun _ _ => rfl) (fun _ _ _ _ _ => ⟨rfl, rfl⟩) ck_X12_lasting ml_RL_125 rfl (by omega) rfl rfl (Nat.le_of_ble_eq_true rfl) ⟨by decide, by decide⟩ dL_law_1021 ?_
  refine U.ieqT (pc := 1024) C dL_law_1024 1614 (by decide) rfl ?_
  exact K _ _ _ h3
set_option maxRecDepth 100000 in
set_option maxHeartbeats 4000000 in
theorem cs_27 {G : Gt} {l : Launch} {p : Program} {e : Env} {s : State} {mt : MethodId} {b : Nat} {below : List Frame} {meth : Method} {c : Code} {Ln : Nat} {xs : Nat → Int32} (C : CU G p s mt meth c b Ln xs) (hLn : Ln ≤ 3072) {Rel : Nat → Nat → Mem → Mem → Prop} (hs : St_later Rel) {k N : Nat} {mx mm : Mem} (hk : 6 * k + 6 ≤ Ln) (hN : 109 ≤ N) (hN2 : N ≤ 137) (hR : Rel k N mx mm) (K : ∀ (N1 : Nat) (mx1 mm1 : Mem), Rel (k + 1) N1 mx1 mm1 → U G l p e s mt b below meth c N1 1614 [(3, .int (nI (6 * k))), (2, .retAddr 2), (1, .retAddr 1), (0, .retAddr 0)] [] mx1 mm1) : U G l p e s mt b below meth c N 1029 [(3, .int (nI (6 * k))), (2, .retAddr 2), (1, .retAddr 1), (0, .retAddr 0)] [] mx mm := by
  obtain ⟨r, mx1, mm1, h1, h2, h3⟩ := hs k N mx mm (by omega) hR (xs (6 * k + 1)) (xs (6 * k + 2))
  refine U.aload1 (pc := 1029) C dL_law_1029 2 rfl ?_
  refine U.aload0 (pc := 1030) C dL_law_1030 3 rfl ?_
  refine U.iload_n (pc := 1031) C dL_law_1031 0 rfl ?_
  refine U.iconst (pc := 1032) C dL_law_1032 (v := 1) (by decide) ?_
  refine U.iadd (pc := 1033) C dL_law_1033 ?_
  refine U.sldN (pc := 1034) (j := 6 * k + 1) C dL_law_1034 (e1 k) (by omega) hLn ?_
  refine U.aload0 (pc := 1035) C dL_law_1035 3 rfl ?_
  refine U.iload_n (pc := 1036) C dL_law_1036 0 rfl ?_
  refine U.iconst (pc := 1037) C dL_law_1037 (v := 2) (by decide) ?_
  refine U.iadd (pc := 1038) C dL_law_1038 ?_
  refine U.sldN (pc := 1039) (j := 6 * k + 2) C dL_law_1039 (e2 k) (by omega) hLn ?_
  refine U.callX (pc := 1040) (st := []) (N1 := N) C (c_X11_later l hN (xs (6 * k + 1)) (xs (6 * k + 2)) mx) h1 (fun _ _ => rfl) (fun _ _ _ _ _ => ⟨rfl, rfl⟩) ck_X11_later ml_RL_126 rfl (by omega) (by omega) (by omega) (by rw [Nat.sub_self]; exact Nat.zero_le _) rfl rfl (Nat.le_of_ble_eq_true rfl) ⟨by decide, by decide⟩ dL_law_1040 ?_
  refine U.aload2 (pc := 1043) C dL_law_1043 1 rfl ?_
  refine U.aload0 (pc := 1044) C dL_law_1044 3 rfl ?_
  refine U.iload_n (pc := 1045) C dL_law_1045 0 rfl ?_
  refine U.iconst (pc := 1046) C dL_law_1046 (v := 1) (by decide) ?_
  refine U.iadd (pc := 1047) C dL_law_1047 ?_
  refine U.sldN (pc := 1048) (j := 6 * k + 1) C dL_law_1048 (e1 k) (by omega) hLn ?_
  refine U.aload0 (pc := 1049) C dL_law_1049 3 rfl ?_
  refine U.iload_n (pc := 1050) C dL_law_1050 0 rfl ?_
  refine U.iconst (pc := 1051) C dL_law_1051 (v := 2) (by decide) ?_
  refine U.iadd (pc := 1052) C dL_law_1052 ?_
  refine U.sldN (pc := 1053) (j := 6 * k + 2) C dL_law_1053 (e2 k) (by omega) hLn ?_
  refine U.callM (pc := 1054) (st := [.int r]) C (c_X12_later l (xs (6 * k + 1)) (xs (6 * k + 2)) mm) h2 (fun _ _ => rfl) (fun _ _ _ _ _ => ⟨rfl, rfl⟩) ck_X12_later ml_RL_129 rfl (by omega) rfl rfl (Nat.le_of_ble_eq_true rfl) ⟨by decide, by decide⟩ dL_law_1054 ?_
  refine U.ieqT (pc := 1057) C dL_law_1057 1614 (by decide) rfl ?_
  exact K _ _ _ h3
set_option maxRecDepth 100000 in
set_option maxHeartbeats 4000000 in
theorem cs_28 {G : Gt} {l : Launch} {p : Program} {e : Env} {s : State} {mt : MethodId} {b : Nat} {below : List Frame} {meth : Method} {c : Code} {Ln : Nat} {xs : Nat → Int32} (C : CU G p s mt meth c b Ln xs) (hLn : Ln ≤ 3072) {Rel : Nat → Nat → Mem → Mem → Prop} (hs : St_byWhen Rel) {k N : Nat} {mx mm : Mem} (hk : 6 * k + 6 ≤ Ln) (hN : 109 ≤ N) (hN2 : N ≤ 137) (hR : Rel k N mx mm) (K : ∀ (N1 : Nat) (mx1 mm1 : Mem), Rel (k + 1) N1 mx1 mm1 → U G l p e s mt b below meth c N1 1614 [(3, .int (nI (6 * k))), (2, .retAddr 2), (1, .retAddr 1), (0, .retAddr 0)] [] mx1 mm1) : U G l p e s mt b below meth c N 1062 [(3, .int (nI (6 * k))), (2, .retAddr 2), (1, .retAddr 1), (0, .retAddr 0)] [] mx mm := by
  obtain ⟨r, mx1, mm1, h1, h2, h3⟩ := hs k N mx mm (by omega) hR (xs (6 * k + 1)) (xs (6 * k + 2))
  refine U.aload1 (pc := 1062) C dL_law_1062 2 rfl ?_
  refine U.aload0 (pc := 1063) C dL_law_1063 3 rfl ?_
  refine U.iload_n (pc := 1064) C dL_law_1064 0 rfl ?_
  refine U.iconst (pc := 1065) C dL_law_1065 (v := 1) (by decide) ?_
  refine U.iadd (pc := 1066) C dL_law_1066 ?_
  refine U.sldN (pc := 1067) (j := 6 * k + 1) C dL_law_1067 (e1 k) (by omega) hLn ?_
  refine U.aload0 (pc := 1068) C dL_law_1068 3 rfl ?_
  refine U.iload_n (pc := 1069) C dL_law_1069 0 rfl ?_
  refine U.iconst (pc := 1070) C dL_law_1070 (v := 2) (by decide) ?_
  refine U.iadd (pc := 1071) C dL_law_1071 ?_
  refine U.sldN (pc := 1072) (j := 6 * k + 2) C dL_law_1072 (e2 k) (by omega) hLn ?_
  refine U.callX (pc := 1073) (st := []) (N1 := N) C (c_X11_byWhen l hN (xs (6 * k + 1)) (xs (6 * k + 2)) mx) h1 (fun _ _ => rfl) (fun _ _ _ _ _ => ⟨rfl, rfl⟩) ck_X11_byWhen ml_RL_130 rfl (by omega) (by omega) (by omega) (by rw [Nat.sub_self]; exact Nat.zero_le _) rfl rfl (Nat.le_of_ble_eq_true rfl) ⟨by decide, by decide⟩ dL_law_1073 ?_
  refine U.aload2 (pc := 1076) C dL_law_1076 1 rfl ?_
  refine U.aload0 (pc := 1077) C dL_law_1077 3 rfl ?_
  refine U.iload_n (pc := 1078) C dL_law_1078 0 rfl ?_
  refine U.iconst (pc := 1079) C dL_law_1079 (v := 1) (by decide) ?_
  refine U.iadd (pc := 1080) C dL_law_1080 ?_
  refine U.sldN (pc := 1081) (j := 6 * k + 1) C dL_law_1081 (e1 k) (by omega) hLn ?_
  refine U.aload0 (pc := 1082) C dL_law_1082 3 rfl ?_
  refine U.iload_n (pc := 1083) C dL_law_1083 0 rfl ?_
  refine U.iconst (pc := 1084) C dL_law_1084 (v := 2) (by decide) ?_
  refine U.iadd (pc := 1085) C dL_law_1085 ?_
  refine U.sldN (pc := 1086) (j := 6 * k + 2) C dL_law_1086 (e2 k) (by omega) hLn ?_
  refine U.callM (pc := 1087) (st := [.int r]) C (c_X12_byWhen l (xs (6 * k + 1)) (xs (6 * k + 2)) mm) h2 (fun _ _ => rfl) (fun _ _ _ _ _ => ⟨rfl, rfl⟩) ck_X12_byWhen ml_RL_133 rfl (by omega) rfl rfl (Nat.le_of_ble_eq_true rfl) ⟨by decide, by decide⟩ dL_law_1087 ?_
  refine U.ieqT (pc := 1090) C dL_law_1090 1614 (by decide) rfl ?_
  exact K _ _ _ h3
set_option maxRecDepth 100000 in
set_option maxHeartbeats 4000000 in
theorem cs_29 {G : Gt} {l : Launch} {p : Program} {e : Env} {s : State} {mt : MethodId} {b : Nat} {below : List Frame} {meth : Method} {c : Code} {Ln : Nat} {xs : Nat → Int32} (C : CU G p s mt meth c b Ln xs) (hLn : Ln ≤ 3072) {Rel : Nat → Nat → Mem → Mem → Prop} (hs : St_leftFor Rel) {k N : Nat} {mx mm : Mem} (hk : 6 * k + 6 ≤ Ln) (hN : 109 ≤ N) (hN2 : N ≤ 137) (hR : Rel k N mx mm) (K : ∀ (N1 : Nat) (mx1 mm1 : Mem), Rel (k + 1) N1 mx1 mm1 → U G l p e s mt b below meth c N1 1614 [(3, .int (nI (6 * k))), (2, .retAddr 2), (1, .retAddr 1), (0, .retAddr 0)] [] mx1 mm1) : U G l p e s mt b below meth c N 1095 [(3, .int (nI (6 * k))), (2, .retAddr 2), (1, .retAddr 1), (0, .retAddr 0)] [] mx mm := by
  obtain ⟨r, mx1, mm1, h1, h2, h3⟩ := hs k N mx mm (by omega) hR (xs (6 * k + 1)) (xs (6 * k + 2)) (xs (6 * k + 3))
  refine U.aload1 (pc := 1095) C dL_law_1095 2 rfl ?_
  refine U.aload0 (pc := 1096) C dL_law_1096 3 rfl ?_
  refine U.iload_n (pc := 1097) C dL_law_1097 0 rfl ?_
  refine U.iconst (pc := 1098) C dL_law_1098 (v := 1) (by decide) ?_
  refine U.iadd (pc := 1099) C dL_law_1099 ?_
  refine U.sldN (pc := 1100) (j := 6 * k + 1) C dL_law_1100 (e1 k) (by omega) hLn ?_
  refine U.aload0 (pc := 1101) C dL_law_1101 3 rfl ?_
  refine U.iload_n (pc := 1102) C dL_law_1102 0 rfl ?_
  refine U.iconst (pc := 1103) C dL_law_1103 (v := 2) (by decide) ?_
  refine U.iadd (pc := 1104) C dL_law_1104 ?_
  refine U.sldN (pc := 1105) (j := 6 * k + 2) C dL_law_1105 (e2 k) (by omega) hLn ?_
  refine U.aload0 (pc := 1106) C dL_law_1106 3 rfl ?_
  refine U.iload_n (pc := 1107) C dL_law_1107 0 rfl ?_
  refine U.iconst (pc := 1108) C dL_law_1108 (v := 3) (by decide) ?_
  refine U.iadd (pc := 1109) C dL_law_1109 ?_
  refine U.sldN (pc := 1110) (j := 6 * k + 3) C dL_law_1110 (e3 k) (by omega) hLn ?_
  refine U.callX (pc := 1111) (st := []) (N1 := N) C (c_X11_leftFor l hN (xs (6 * k + 1)) (xs (6 * k + 2)) (xs (6 * k + 3)) mx) h1 (fun _ _ => rfl) (fun _ _ _ _ _ => ⟨rfl, rfl⟩) ck_X11_leftFor ml_RL_134 rfl (by omega) (by omega) (by omega) (by rw [Nat.sub_self]; exact Nat.zero_le _) rfl rfl (Nat.le_of_ble_eq_true rfl) ⟨by decide, by decide⟩ dL_law_1111 ?_
  refine U.aload2 (pc := 1114) C dL_law_1114 1 rfl ?_
  refine U.aload0 (pc := 1115) C dL_law_1115 3 rfl ?_
  refine U.iload_n (pc := 1116) C dL_law_1116 0 rfl ?_
  refine U.iconst (pc := 1117) C dL_law_1117 (v := 1) (by decide) ?_
  refine U.iadd (pc := 1118) C dL_law_1118 ?_
  refine U.sldN (pc := 1119) (j := 6 * k + 1) C dL_law_1119 (e1 k) (by omega) hLn ?_
  refine U.aload0 (pc := 1120) C dL_law_1120 3 rfl ?_
  refine U.iload_n (pc := 1121) C dL_law_1121 0 rfl ?_
  refine U.iconst (pc := 1122) C dL_law_1122 (v := 2) (by decide) ?_
  refine U.iadd (pc := 1123) C dL_law_1123 ?_
  refine U.sldN (pc := 1124) (j := 6 * k + 2) C dL_law_1124 (e2 k) (by omega) hLn ?_
  refine U.aload0 (pc := 1125) C dL_law_1125 3 rfl ?_
  refine U.iload_n (pc := 1126) C dL_law_1126 0 rfl ?_
  refine U.iconst (pc := 1127) C dL_law_1127 (v := 3) (by decide) ?_
  refine U.iadd (pc := 1128) C dL_law_1128 ?_
  refine U.sldN (pc := 1129) (j := 6 * k + 3) C dL_law_1129 (e3 k) (by omega) hLn ?_
  refine U.callM (pc := 1130) (st := [.int r]) C (c_X12_leftFor l (xs (6 * k + 1)) (xs (6 * k + 2)) (xs (6 * k + 3)) mm) h2 (fun _ _ => rfl) (fun _ _ _ _ _ => ⟨rfl, rfl⟩) ck_X12_leftFor ml_RL_137 rfl (by omega) rfl rfl (Nat.le_of_ble_eq_true rfl) ⟨by decide, by decide⟩ dL_law_1130 ?_
  refine U.ieqT (pc := 1133) C dL_law_1133 1614 (by decide) rfl ?_
  exact K _ _ _ h3
set_option maxRecDepth 100000 in
set_option maxHeartbeats 4000000 in
theorem cs_30 {G : Gt} {l : Launch} {p : Program} {e : Env} {s : State} {mt : MethodId} {b : Nat} {below : List Frame} {meth : Method} {c : Code} {Ln : Nat} {xs : Nat → Int32} (C : CU G p s mt meth c b Ln xs) (hLn : Ln ≤ 3072) {Rel : Nat → Nat → Mem → Mem → Prop} (hs : St_fib Rel) {k N : Nat} {mx mm : Mem} (hk : 6 * k + 6 ≤ Ln) (hN : 109 ≤ N) (hN2 : N ≤ 137) (hR : Rel k N mx mm) (K : ∀ (N1 : Nat) (mx1 mm1 : Mem), Rel (k + 1) N1 mx1 mm1 → U G l p e s mt b below meth c N1 1614 [(3, .int (nI (6 * k))), (2, .retAddr 2), (1, .retAddr 1), (0, .retAddr 0)] [] mx1 mm1) : U G l p e s mt b below meth c N 1138 [(3, .int (nI (6 * k))), (2, .retAddr 2), (1, .retAddr 1), (0, .retAddr 0)] [] mx mm := by
  obtain ⟨r, mx1, mm1, h1, h2, h3⟩ := hs k N mx mm (by omega) hR (xs (6 * k + 1)) (xs (6 * k + 2)) (xs (6 * k + 3))
  refine U.aload1 (pc := 1138) C dL_law_1138 2 rfl ?_
  refine U.aload0 (pc := 1139) C dL_law_1139 3 rfl ?_
  refine U.iload_n (pc := 1140) C dL_law_1140 0 rfl ?_
  refine U.iconst (pc := 1141) C dL_law_1141 (v := 1) (by decide) ?_
  refine U.iadd (pc := 1142) C dL_law_1142 ?_
  refine U.sldN (pc := 1143) (j := 6 * k + 1) C dL_law_1143 (e1 k) (by omega) hLn ?_
  refine U.aload0 (pc := 1144) C dL_law_1144 3 rfl ?_
  refine U.iload_n (pc := 1145) C dL_law_1145 0 rfl ?_
  refine U.iconst (pc := 1146) C dL_law_1146 (v := 2) (by decide) ?_
  refine U.iadd (pc := 1147) C dL_law_1147 ?_
  refine U.sldN (pc := 1148) (j := 6 * k + 2) C dL_law_1148 (e2 k) (by omega) hLn ?_
  refine U.aload0 (pc := 1149) C dL_law_1149 3 rfl ?_
  refine U.iload_n (pc := 1150) C dL_law_1150 0 rfl ?_
  refine U.iconst (pc := 1151) C dL_law_1151 (v := 3) (by decide) ?_
  refine U.iadd (pc := 1152) C dL_law_1152 ?_
  refine U.sldN (pc := 1153) (j := 6 * k + 3) C dL_law_1153 (e3 k) (by omega) hLn ?_
  refine U.callX (pc := 1154) (st := []) (N1 := N) C (c_X11_fib l hN (xs (6 * k + 1)) (xs (6 * k + 2)) (xs (6 * k + 3)) mx) h1 (fun _ _ => rfl) (fun _ _ _ _ _ => ⟨rfl, rfl⟩) ck_X11_fib ml_RL_138 rfl (by omega) (by omega) (by omega) (by rw [Nat.sub_self]; exact Nat.zero_le _) rfl rfl (Nat.le_of_ble_eq_true rfl) ⟨by decide, by decide⟩ dL_law_1154 ?_
  refine U.aload2 (pc := 1157) C dL_law_1157 1 rfl ?_
  refine U.aload0 (pc := 1158) C dL_law_1158 3 rfl ?_
  refine U.iload_n (pc := 1159) C dL_law_1159 0 rfl ?_
  refine U.iconst (pc := 1160) C dL_law_1160 (v := 1) (by decide) ?_
  refine U.iadd (pc := 1161) C dL_law_1161 ?_
  refine U.sldN (pc := 1162) (j := 6 * k + 1) C dL_law_1162 (e1 k) (by omega) hLn ?_
  refine U.aload0 (pc := 1163) C dL_law_1163 3 rfl ?_
  refine U.iload_n (pc := 1164) C dL_law_1164 0 rfl ?_
  refine U.iconst (pc := 1165) C dL_law_1165 (v := 2) (by decide) ?_
  refine U.iadd (pc := 1166) C dL_law_1166 ?_
  refine U.sldN (pc := 1167) (j := 6 * k + 2) C dL_law_1167 (e2 k) (by omega) hLn ?_
  refine U.aload0 (pc := 1168) C dL_law_1168 3 rfl ?_
  refine U.iload_n (pc := 1169) C dL_law_1169 0 rfl ?_
  refine U.iconst (pc := 1170) C dL_law_1170 (v := 3) (by decide) ?_
  refine U.iadd (pc := 1171) C dL_law_1171 ?_
  refine U.sldN (pc := 1172) (j := 6 * k + 3) C dL_law_1172 (e3 k) (by omega) hLn ?_
  refine U.callM (pc := 1173) (st := [.int r]) C (c_X12_fib l (xs (6 * k + 1)) (xs (6 * k + 2)) (xs (6 * k + 3)) mm) h2 (fun _ _ => rfl) (fun _ _ _ _ _ => ⟨rfl, rfl⟩) ck_X12_fib ml_RL_141 rfl (by omega) rfl rfl (Nat.le_of_ble_eq_true rfl) ⟨by decide, by decide⟩ dL_law_1173 ?_
  refine U.ieqT (pc := 1176) C dL_law_1176 1614 (by decide) rfl ?_
  exact K _ _ _ h3
set_option maxRecDepth 100000 in
set_option maxHeartbeats 4000000 in
theorem cs_31 {G : Gt} {l : Launch} {p : Program} {e : Env} {s : State} {mt : MethodId} {b : Nat} {below : List Frame} {meth : Method} {c : Code} {Ln : Nat} {xs : Nat → Int32} (C : CU G p s mt meth c b Ln xs) (hLn : Ln ≤ 3072) {Rel : Nat → Nat → Mem → Mem → Prop} (hs : St_strikes Rel) {k N : Nat} {mx mm : Mem} (hk : 6 * k + 6 ≤ Ln) (hN : 109 ≤ N) (hN2 : N ≤ 137) (hR : Rel k N mx mm) (K : ∀ (N1 : Nat) (mx1 mm1 : Mem), Rel (k + 1) N1 mx1 mm1 → U G l p e s mt b below meth c N1 1614 [(3, .int (nI (6 * k))), (2, .retAddr 2), (1, .retAddr 1), (0, .retAddr 0)] [] mx1 mm1) : U G l p e s mt b below meth c N 1181 [(3, .int (nI (6 * k))), (2, .retAddr 2), (1, .retAddr 1), (0, .retAddr 0)] [] mx mm := by
  obtain ⟨r, mx1, mm1, h1, h2, h3⟩ := hs k N mx mm (by omega) hR (xs (6 * k + 1)) (xs (6 * k + 2)) (xs (6 * k + 3))
  refine U.aload1 (pc := 1181) C dL_law_1181 2 rfl ?_
  refine U.aload0 (pc := 1182) C dL_law_1182 3 rfl ?_
  refine U.iload_n (pc := 1183) C dL_law_1183 0 rfl ?_
  refine U.iconst (pc := 1184) C dL_law_1184 (v := 1) (by decide) ?_
  refine U.iadd (pc := 1185) C dL_law_1185 ?_
  refine U.sldN (pc := 1186) (j := 6 * k + 1) C dL_law_1186 (e1 k) (by omega) hLn ?_
  refine U.aload0 (pc := 1187) C dL_law_1187 3 rfl ?_
  refine U.iload_n (pc := 1188) C dL_law_1188 0 rfl ?_
  refine U.iconst (pc := 1189) C dL_law_1189 (v := 2) (by decide) ?_
  refine U.iadd (pc := 1190) C dL_law_1190 ?_
  refine U.sldN (pc := 1191) (j := 6 * k + 2) C dL_law_1191 (e2 k) (by omega) hLn ?_
  refine U.aload0 (pc := 1192) C dL_law_1192 3 rfl ?_
  refine U.iload_n (pc := 1193) C dL_law_1193 0 rfl ?_
  refine U.iconst (pc := 1194) C dL_law_1194 (v := 3) (by decide) ?_
  refine U.iadd (pc := 1195) C dL_law_1195 ?_
  refine U.sldN (pc := 1196) (j := 6 * k + 3) C dL_law_1196 (e3 k) (by omega) hLn ?_
  refine U.callX (pc := 1197) (st := []) (N1 := N) C (c_X11_strikes l hN (xs (6 * k + 1)) (xs (6 * k + 2)) (xs (6 * k + 3)) mx) h1 (fun _ _ => rfl) (fun _ _ _ _ _ => ⟨rfl, rfl⟩) ck_X11_strikes ml_RL_142 rfl (by omega) (by omega) (by omega) (by rw [Nat.sub_self]; exact Nat.zero_le _) rfl rfl (Nat.le_of_ble_eq_true rfl) ⟨by decide, by decide⟩ dL_law_1197 ?_
  refine U.aload2 (pc := 1200) C dL_law_1200 1 rfl ?_
  refine U.aload0 (pc := 1201) C dL_law_1201 3 rfl ?_
  refine U.iload_n (pc := 1202) C dL_law_1202 0 rfl ?_
  refine U.iconst (pc := 1203) C dL_law_1203 (v := 1) (by decide) ?_
  refine U.iadd (pc := 1204) C dL_law_1204 ?_
  refine U.sldN (pc := 1205) (j := 6 * k + 1) C dL_law_1205 (e1 k) (by omega) hLn ?_
  refine U.aload0 (pc := 1206) C dL_law_1206 3 rfl ?_
  refine U.iload_n (pc := 1207) C dL_law_1207 0 rfl ?_
  refine U.iconst (pc := 1208) C dL_law_1208 (v := 2) (by decide) ?_
  refine U.iadd (pc := 1209) C dL_law_1209 ?_
  refine U.sldN (pc := 1210) (j := 6 * k + 2) C dL_law_1210 (e2 k) (by omega) hLn ?_
  refine U.aload0 (pc := 1211) C dL_law_1211 3 rfl ?_
  refine U.iload_n (pc := 1212) C dL_law_1212 0 rfl ?_
  refine U.iconst (pc := 1213) C dL_law_1213 (v := 3) (by decide) ?_
  refine U.iadd (pc := 1214) C dL_law_1214 ?_
  refine U.sldN (pc := 1215) (j := 6 * k + 3) C dL_law_1215 (e3 k) (by omega) hLn ?_
  refine U.callM (pc := 1216) (st := [.int r]) C (c_X12_strikes l (xs (6 * k + 1)) (xs (6 * k + 2)) (xs (6 * k + 3)) mm) h2 (fun _ _ => rfl) (fun _ _ _ _ _ => ⟨rfl, rfl⟩) ck_X12_strikes ml_RL_145 rfl (by omega) rfl rfl (Nat.le_of_ble_eq_true rfl) ⟨by decide, by decide⟩ dL_law_1216 ?_
  refine U.ieqT (pc := 1219) C dL_law_1219 1614 (by decide) rfl ?_
  exact K _ _ _ h3
set_option maxRecDepth 100000 in
set_option maxHeartbeats 4000000 in
theorem cs_32 {G : Gt} {l : Launch} {p : Program} {e : Env} {s : State} {mt : MethodId} {b : Nat} {below : List Frame} {meth : Method} {c : Code} {Ln : Nat} {xs : Nat → Int32} (C : CU G p s mt meth c b Ln xs) (hLn : Ln ≤ 3072) {Rel : Nat → Nat → Mem → Mem → Prop} (hs : St_sharer Rel) {k N : Nat} {mx mm : Mem} (hk : 6 * k + 6 ≤ Ln) (hN : 109 ≤ N) (hN2 : N ≤ 137) (hR : Rel k N mx mm) (K : ∀ (N1 : Nat) (mx1 mm1 : Mem), Rel (k + 1) N1 mx1 mm1 → U G l p e s mt b below meth c N1 1614 [(3, .int (nI (6 * k))), (2, .retAddr 2), (1, .retAddr 1), (0, .retAddr 0)] [] mx1 mm1) : U G l p e s mt b below meth c N 1224 [(3, .int (nI (6 * k))), (2, .retAddr 2), (1, .retAddr 1), (0, .retAddr 0)] [] mx mm := by
  obtain ⟨r, mx1, mm1, h1, h2, h3⟩ := hs k N mx mm (by omega) hR (xs (6 * k + 1))
  refine U.aload1 (pc := 1224) C dL_law_1224 2 rfl ?_
  refine U.aload0 (pc := 1225) C dL_law_1225 3 rfl ?_
  refine U.iload_n (pc := 1226) C dL_law_1226 0 rfl ?_
  refine U.iconst (pc := 1227) C dL_law_1227 (v := 1) (by decide) ?_
  refine U.iadd (pc := 1228) C dL_law_1228 ?_
  refine U.sldN (pc := 1229) (j := 6 * k + 1) C dL_law_1229 (e1 k) (by omega) hLn ?_
  refine U.callX (pc := 1230) (st := []) (N1 := N) C (c_X11_sharer l hN (xs (6 * k + 1)) mx) h1 (fun _ _ => rfl) (fun _ _ _ _ _ => ⟨rfl, rfl⟩) ck_X11_sharer ml_RL_146 rfl (by omega) (by omega) (by omega) (by rw [Nat.sub_self]; exact Nat.zero_le _) rfl rfl (Nat.le_of_ble_eq_true rfl) ⟨by decide, by decide⟩ dL_law_1230 ?_
  refine U.aload2 (pc := 1233) C dL_law_1233 1 rfl ?_
  refine U.aload0 (pc := 1234) C dL_law_1234 3 rfl ?_
  refine U.iload_n (pc := 1235) C dL_law_1235 0 rfl ?_
  refine U.iconst (pc := 1236) C dL_law_1236 (v := 1) (by decide) ?_
  refine U.iadd (pc := 1237) C dL_law_1237 ?_
  refine U.sldN (pc := 1238) (j := 6 * k + 1) C dL_law_1238 (e1 k) (by omega) hLn ?_
  refine U.callM (pc := 1239) (st := [.int r]) C (c_X12_sharer l (xs (6 * k + 1)) mm) h2 (fun _ _ => rfl) (fun _ _ _ _ _ => ⟨rfl, rfl⟩) ck_X12_sharer ml_RL_149 rfl (by omega) rfl rfl (Nat.le_of_ble_eq_true rfl) ⟨by decide, by decide⟩ dL_law_1239 ?_
  refine U.ieqT (pc := 1242) C dL_law_1242 1614 (by decide) rfl ?_
  exact K _ _ _ h3
set_option maxRecDepth 100000 in
set_option maxHeartbeats 4000000 in
theorem cs_33 {G : Gt} {l : Launch} {p : Program} {e : Env} {s : State} {mt : MethodId} {b : Nat} {below : List Frame} {meth : Method} {c : Code} {Ln : Nat} {xs : Nat → Int32} (C : CU G p s mt meth c b Ln xs) (hLn : Ln ≤ 3072) {Rel : Nat → Nat → Mem → Mem → Prop} (hs : St_pieced Rel) {k N : Nat} {mx mm : Mem} (hk : 6 * k + 6 ≤ Ln) (hN : 109 ≤ N) (hN2 : N ≤ 137) (hR : Rel k N mx mm) (K : ∀ (N1 : Nat) (mx1 mm1 : Mem), Rel (k + 1) N1 mx1 mm1 → U G l p e s mt b below meth c N1 1614 [(3, .int (nI (6 * k))), (2, .retAddr 2), (1, .retAddr 1), (0, .retAddr 0)] [] mx1 mm1) : U G l p e s mt b below meth c N 1247 [(3, .int (nI (6 * k))), (2, .retAddr 2), (1, .retAddr 1), (0, .retAddr 0)] [] mx mm := by
  obtain ⟨r, mx1, mm1, h1, h2, h3⟩ := hs k N mx mm (by omega) hR (xs (6 * k + 1)) (xs (6 * k + 2))
  refine U.aload1 (pc := 1247) C dL_law_1247 2 rfl ?_
  refine U.aload0 (pc := 1248) C dL_law_1248 3 rfl ?_
  refine U.iload_n (pc := 1249) C dL_law_1249 0 rfl ?_
  refine U.iconst (pc := 1250) C dL_law_1250 (v := 1) (by decide) ?_
  refine U.iadd (pc := 1251) C dL_law_1251 ?_
  refine U.sldN (pc := 1252) (j := 6 * k + 1) C dL_law_1252 (e1 k) (by omega) hLn ?_
  refine U.aload0 (pc := 1253) C dL_law_1253 3 rfl ?_
  refine U.iload_n (pc := 1254) C dL_law_1254 0 rfl ?_
  refine U.iconst (pc := 1255) C dL_law_1255 (v := 2) (by decide) ?_
  refine U.iadd (pc := 1256) C dL_law_1256 ?_
  refine U.sldN (pc := 1257) (j := 6 * k + 2) C dL_law_1257 (e2 k) (by omega) hLn ?_
  refine U.callX (pc := 1258) (st := []) (N1 := N) C (c_X11_pieced l hN (xs (6 * k + 1)) (xs (6 * k + 2)) mx) h1 (fun _ _ => rfl) (fun _ _ _ _ _ => ⟨rfl, rfl⟩) ck_X11_pieced ml_RL_150 rfl (by omega) (by omega) (by omega) (by rw [Nat.sub_self]; exact Nat.zero_le _) rfl rfl (Nat.le_of_ble_eq_true rfl) ⟨by decide, by decide⟩ dL_law_1258 ?_
  refine U.aload2 (pc := 1261) C dL_law_1261 1 rfl ?_
  refine U.aload0 (pc := 1262) C dL_law_1262 3 rfl ?_
  refine U.iload_n (pc := 1263) C dL_law_1263 0 rfl ?_
  refine U.iconst (pc := 1264) C dL_law_1264 (v := 1) (by decide) ?_
  refine U.iadd (pc := 1265) C dL_law_1265 ?_
  refine U.sldN (pc := 1266) (j := 6 * k + 1) C dL_law_1266 (e1 k) (by omega) hLn ?_
  refine U.aload0 (pc := 1267) C dL_law_1267 3 rfl ?_
  refine U.iload_n (pc := 1268) C dL_law_1268 0 rfl ?_
  refine U.iconst (pc := 1269) C dL_law_1269 (v := 2) (by decide) ?_
  refine U.iadd (pc := 1270) C dL_law_1270 ?_
  refine U.sldN (pc := 1271) (j := 6 * k + 2) C dL_law_1271 (e2 k) (by omega) hLn ?_
  refine U.callM (pc := 1272) (st := [.int r]) C (c_X12_pieced l (xs (6 * k + 1)) (xs (6 * k + 2)) mm) h2 (fun _ _ => rfl) (fun _ _ _ _ _ => ⟨rfl, rfl⟩) ck_X12_pieced ml_RL_153 rfl (by omega) rfl rfl (Nat.le_of_ble_eq_true rfl) ⟨by decide, by decide⟩ dL_law_1272 ?_
  refine U.ieqT (pc := 1275) C dL_law_1275 1614 (by decide) rfl ?_
  exact K _ _ _ h3
set_option maxRecDepth 100000 in
set_option maxHeartbeats 4000000 in
theorem cs_34 {G : Gt} {l : Launch} {p : Program} {e : Env} {s : State} {mt : MethodId} {b : Nat} {below : List Frame} {meth : Method} {c : Code} {Ln : Nat} {xs : Nat → Int32} (C : CU G p s mt meth c b Ln xs) (hLn : Ln ≤ 3072) {Rel : Nat → Nat → Mem → Mem → Prop} (hs : St_child Rel) {k N : Nat} {mx mm : Mem} (hk : 6 * k + 6 ≤ Ln) (hN : 109 ≤ N) (hN2 : N ≤ 137) (hR : Rel k N mx mm) (K : ∀ (N1 : Nat) (mx1 mm1 : Mem), Rel (k + 1) N1 mx1 mm1 → U G l p e s mt b below meth c N1 1614 [(3, .int (nI (6 * k))), (2, .retAddr 2), (1, .retAddr 1), (0, .retAddr 0)] [] mx1 mm1) : U G l p e s mt b below meth c N 1280 [(3, .int (nI (6 * k))), (2, .retAddr 2), (1, .retAddr 1), (0, .retAddr 0)] [] mx mm := by
  obtain ⟨r, mx1, mm1, h1, h2, h3⟩ := hs k N mx mm (by omega) hR (xs (6 * k + 1)) (xs (6 * k + 2))
  refine U.aload1 (pc := 1280) C dL_law_1280 2 rfl ?_
  refine U.aload0 (pc := 1281) C dL_law_1281 3 rfl ?_
  refine U.iload_n (pc := 1282) C dL_law_1282 0 rfl ?_
  refine U.iconst (pc := 1283) C dL_law_1283 (v := 1) (by decide) ?_
  refine U.iadd (pc := 1284) C dL_law_1284 ?_
  refine U.sldN (pc := 1285) (j := 6 * k + 1) C dL_law_1285 (e1 k) (by omega) hLn ?_
  refine U.aload0 (pc := 1286) C dL_law_1286 3 rfl ?_
  refine U.iload_n (pc := 1287) C dL_law_1287 0 rfl ?_
  refine U.iconst (pc := 1288) C dL_law_1288 (v := 2) (by decide) ?_
  refine U.iadd (pc := 1289) C dL_law_1289 ?_
  refine U.sldN (pc := 1290) (j := 6 * k + 2) C dL_law_1290 (e2 k) (by omega) hLn ?_
  refine U.callX (pc := 1291) (st := []) (N1 := N) C (c_X11_child l hN (xs (6 * k + 1)) (xs (6 * k + 2)) mx) h1 (fun _ _ => rfl) (fun _ _ _ _ _ => ⟨rfl, rfl⟩) ck_X11_child ml_RL_154 rfl (by omega) (by omega) (by omega) (by rw [Nat.sub_self]; exact Nat.zero_le _) rfl rfl (Nat.le_of_ble_eq_true rfl) ⟨by decide, by decide⟩ dL_law_1291 ?_
  refine U.aload2 (pc := 1294) C dL_law_1294 1 rfl ?_
  refine U.aload0 (pc := 1295) C dL_law_1295 3 rfl ?_
  refine U.iload_n (pc := 1296) C dL_law_1296 0 rfl ?_
  refine U.iconst (pc := 1297) C dL_law_1297 (v := 1) (by decide) ?_
  refine U.iadd (pc := 1298) C dL_law_1298 ?_
  refine U.sldN (pc := 1299) (j := 6 * k + 1) C dL_law_1299 (e1 k) (by omega) hLn ?_
  refine U.aload0 (pc := 1300) C dL_law_1300 3 rfl ?_
  refine U.iload_n (pc := 1301) C dL_law_1301 0 rfl ?_
  refine U.iconst (pc := 1302) C dL_law_1302 (v := 2) (by decide) ?_
  refine U.iadd (pc := 1303) C dL_law_1303 ?_
  refine U.sldN (pc := 1304) (j := 6 * k + 2) C dL_law_1304 (e2 k) (by omega) hLn ?_
  refine U.callM (pc := 1305) (st := [.int r]) C (c_X12_child l (xs (6 * k + 1)) (xs (6 * k + 2)) mm) h2 (fun _ _ => rfl) (fun _ _ _ _ _ => ⟨rfl, rfl⟩) ck_X12_child ml_RL_157 rfl (by omega) rfl rfl (Nat.le_of_ble_eq_true rfl) ⟨by decide, by decide⟩ dL_law_1305 ?_
  refine U.ieqT (pc := 1308) C dL_law_1308 1614 (by decide) rfl ?_
  exact K _ _ _ h3
set_option maxRecDepth 100000 in
set_option maxHeartbeats 4000000 in
theorem cs_35 {G : Gt} {l : Launch} {p : Program} {e : Env} {s : State} {mt : MethodId} {b : Nat} {below : List Frame} {meth : Method} {c : Code} {Ln : Nat} {xs : Nat → Int32} (C : CU G p s mt meth c b Ln xs) (hLn : Ln ≤ 3072) {Rel : Nat → Nat → Mem → Mem → Prop} (hs : St_houses Rel) {k N : Nat} {mx mm : Mem} (hk : 6 * k + 6 ≤ Ln) (hN : 109 ≤ N) (hN2 : N ≤ 137) (hR : Rel k N mx mm) (K : ∀ (N1 : Nat) (mx1 mm1 : Mem), Rel (k + 1) N1 mx1 mm1 → U G l p e s mt b below meth c N1 1614 [(3, .int (nI (6 * k))), (2, .retAddr 2), (1, .retAddr 1), (0, .retAddr 0)] [] mx1 mm1) : U G l p e s mt b below meth c N 1313 [(3, .int (nI (6 * k))), (2, .retAddr 2), (1, .retAddr 1), (0, .retAddr 0)] [] mx mm := by
  obtain ⟨r, mx1, mm1, h1, h2, h3⟩ := hs k N mx mm (by omega) hR (xs (6 * k + 1)) (xs (6 * k + 2))
  refine U.aload1 (pc := 1313) C dL_law_1313 2 rfl ?_
  refine U.aload0 (pc := 1314) C dL_law_1314 3 rfl ?_
  refine U.iload_n (pc := 1315) C dL_law_1315 0 rfl ?_
  refine U.iconst (pc := 1316) C dL_law_1316 (v := 1) (by decide) ?_
  refine U.iadd (pc := 1317) C dL_law_1317 ?_
  refine U.sldN (pc := 1318) (j := 6 * k + 1) C dL_law_1318 (e1 k) (by omega) hLn ?_
  refine U.aload0 (pc := 1319) C dL_law_1319 3 rfl ?_
  refine U.iload_n (pc := 1320) C dL_law_1320 0 rfl ?_
  refine U.iconst (pc := 1321) C dL_law_1321 (v := 2) (by decide) ?_
  refine U.iadd (pc := 1322) C dL_law_1322 ?_
  refine U.sldN (pc := 1323) (j := 6 * k + 2) C dL_law_1323 (e2 k) (by omega) hLn ?_
  refine U.callX (pc := 1324) (st := []) (N1 := N) C (c_X11_houses l hN (xs (6 * k + 1)) (xs (6 * k + 2)) mx) h1 (fun _ _ => rfl) (fun _ _ _ _ _ => ⟨rfl, rfl⟩) ck_X11_houses ml_RL_158 rfl (by omega) (by omega) (by omega) (by rw [Nat.sub_self]; exact Nat.zero_le _) rfl rfl (Nat.le_of_ble_eq_true rfl) ⟨by decide, by decide⟩ dL_law_1324 ?_
  refine U.aload2 (pc := 1327) C dL_law_1327 1 rfl ?_
  refine U.aload0 (pc := 1328) C dL_law_1328 3 rfl ?_
  refine U.iload_n (pc := 1329) C dL_law_1329 0 rfl ?_
  refine U.iconst (pc := 1330) C dL_law_1330 (v := 1) (by decide) ?_
  refine U.iadd (pc := 1331) C dL_law_1331 ?_
  refine U.sldN (pc := 1332) (j := 6 * k + 1) C dL_law_1332 (e1 k) (by omega) hLn ?_
  refine U.aload0 (pc := 1333) C dL_law_1333 3 rfl ?_
  refine U.iload_n (pc := 1334) C dL_law_1334 0 rfl ?_
  refine U.iconst (pc := 1335) C dL_law_1335 (v := 2) (by decide) ?_
  refine U.iadd (pc := 1336) C dL_law_1336 ?_
  refine U.sldN (pc := 1337) (j := 6 * k + 2) C dL_law_1337 (e2 k) (by omega) hLn ?_
  refine U.callM (pc := 1338) (st := [.int r]) C (c_X12_houses l (xs (6 * k + 1)) (xs (6 * k + 2)) mm) h2 (fun _ _ => rfl) (fun _ _ _ _ _ => ⟨rfl, rfl⟩) ck_X12_houses ml_RL_161 rfl (by omega) rfl rfl (Nat.le_of_ble_eq_true rfl) ⟨by decide, by decide⟩ dL_law_1338 ?_
  refine U.ieqT (pc := 1341) C dL_law_1341 1614 (by decide) rfl ?_
  exact K _ _ _ h3
set_option maxRecDepth 100000 in
set_option maxHeartbeats 4000000 in
theorem cs_36 {G : Gt} {l : Launch} {p : Program} {e : Env} {s : State} {mt : MethodId} {b : Nat} {below : List Frame} {meth : Method} {c : Code} {Ln : Nat} {xs : Nat → Int32} (C : CU G p s mt meth c b Ln xs) (hLn : Ln ≤ 3072) {Rel : Nat → Nat → Mem → Mem → Prop} (hs : St_biggest Rel) {k N : Nat} {mx mm : Mem} (hk : 6 * k + 6 ≤ Ln) (hN : 109 ≤ N) (hN2 : N ≤ 137) (hR : Rel k N mx mm) (K : ∀ (N1 : Nat) (mx1 mm1 : Mem), Rel (k + 1) N1 mx1 mm1 → U G l p e s mt b below meth c N1 1614 [(3, .int (nI (6 * k))), (2, .retAddr 2), (1, .retAddr 1), (0, .retAddr 0)] [] mx1 mm1) : U G l p e s mt b below meth c N 1346 [(3, .int (nI (6 * k))), (2, .retAddr 2), (1, .retAddr 1), (0, .retAddr 0)] [] mx mm := by
  obtain ⟨r, mx1, mm1, h1, h2, h3⟩ := hs k N mx mm (by omega) hR (xs (6 * k + 1)) (xs (6 * k + 2))
  refine U.aload1 (pc := 1346) C dL_law_1346 2 rfl ?_
  refine U.aload0 (pc := 1347) C dL_law_1347 3 rfl ?_
  refine U.iload_n (pc := 1348) C dL_law_1348 0 rfl ?_
  refine U.iconst (pc := 1349) C dL_law_1349 (v := 1) (by decide) ?_
  refine U.iadd (pc := 1350) C dL_law_1350 ?_
  refine U.sldN (pc := 1351) (j := 6 * k + 1) C dL_law_1351 (e1 k) (by omega) hLn ?_
  refine U.aload0 (pc := 1352) C dL_law_1352 3 rfl ?_
  refine U.iload_n (pc := 1353) C dL_law_1353 0 rfl ?_
  refine U.iconst (pc := 1354) C dL_law_1354 (v := 2) (by decide) ?_
  refine U.iadd (pc := 1355) C dL_law_1355 ?_
  refine U.sldN (pc := 1356) (j := 6 * k + 2) C dL_law_1356 (e2 k) (by omega) hLn ?_
  refine U.callX (pc := 1357) (st := []) (N1 := N) C (c_X11_biggest l hN (xs (6 * k + 1)) (xs (6 * k + 2)) mx) h1 (fun _ _ => rfl) (fun _ _ _ _ _ => ⟨rfl, rfl⟩) ck_X11_biggest ml_RL_162 rfl (by omega) (by omega) (by omega) (by rw [Nat.sub_self]; exact Nat.zero_le _) rfl rfl (Nat.le_of_ble_eq_true rfl) ⟨by decide, by decide⟩ dL_law_1357 ?_
  refine U.aload2 (pc := 1360) C dL_law_1360 1 rfl ?_
  refine U.aload0 (pc := 1361) C dL_law_1361 3 rfl ?_
  refine U.iload_n (pc := 1362) C dL_law_1362 0 rfl ?_
  refine U.iconst (pc := 1363) C dL_law_1363 (v := 1) (by decide) ?_
  refine U.iadd (pc := 1364) C dL_law_1364 ?_
  refine U.sldN (pc := 1365) (j := 6 * k + 1) C dL_law_1365 (e1 k) (by omega) hLn ?_
  refine U.aload0 (pc := 1366) C dL_law_1366 3 rfl ?_
  refine U.iload_n (pc := 1367) C dL_law_1367 0 rfl ?_
  refine U.iconst (pc := 1368) C dL_law_1368 (v := 2) (by decide) ?_
  refine U.iadd (pc := 1369) C dL_law_1369 ?_
  refine U.sldN (pc := 1370) (j := 6 * k + 2) C dL_law_1370 (e2 k) (by omega) hLn ?_
  refine U.callM (pc := 1371) (st := [.int r]) C (c_X12_biggest l (xs (6 * k + 1)) (xs (6 * k + 2)) mm) h2 (fun _ _ => rfl) (fun _ _ _ _ _ => ⟨rfl, rfl⟩) ck_X12_biggest ml_RL_165 rfl (by omega) rfl rfl (Nat.le_of_ble_eq_true rfl) ⟨by decide, by decide⟩ dL_law_1371 ?_
  refine U.ieqT (pc := 1374) C dL_law_1374 1614 (by decide) rfl ?_
  exact K _ _ _ h3
set_option maxRecDepth 100000 in
set_option maxHeartbeats 4000000 in
theorem cs_37 {G : Gt} {l : Launch} {p : Program} {e : Env} {s : State} {mt : MethodId} {b : Nat} {below : List Frame} {meth : Method} {c : Code} {Ln : Nat} {xs : Nat → Int32} (C : CU G p s mt meth c b Ln xs) (hLn : Ln ≤ 3072) {Rel : Nat → Nat → Mem → Mem → Prop} (hs : St_peace Rel) {k N : Nat} {mx mm : Mem} (hk : 6 * k + 6 ≤ Ln) (hN : 109 ≤ N) (hN2 : N ≤ 137) (hR : Rel k N mx mm) (K : ∀ (N1 : Nat) (mx1 mm1 : Mem), Rel (k + 1) N1 mx1 mm1 → U G l p e s mt b below meth c N1 1614 [(3, .int (nI (6 * k))), (2, .retAddr 2), (1, .retAddr 1), (0, .retAddr 0)] [] mx1 mm1) : U G l p e s mt b below meth c N 1379 [(3, .int (nI (6 * k))), (2, .retAddr 2), (1, .retAddr 1), (0, .retAddr 0)] [] mx mm := by
  obtain ⟨r, mx1, mm1, h1, h2, h3⟩ := hs k N mx mm (by omega) hR 
  refine U.aload1 (pc := 1379) C dL_law_1379 2 rfl ?_
  refine U.callX (pc := 1380) (st := []) (N1 := N) C (c_X11_peace l hN  mx) h1 (fun _ _ => rfl) (fun _ _ _ _ _ => ⟨rfl, rfl⟩) ck_X11_peace ml_RL_166 rfl (by omega) (by omega) (by omega) (by rw [Nat.sub_self]; exact Nat.zero_le _) rfl rfl (Nat.le_of_ble_eq_true rfl) ⟨by decide, by decide⟩ dL_law_1380 ?_
  refine U.aload2 (pc := 1383) C dL_law_1383 1 rfl ?_
  refine U.callM (pc := 1384) (st := [.int r]) C (c_X12_peace l  mm) h2 (fun _ _ => rfl) (fun _ _ _ _ _ => ⟨rfl, rfl⟩) ck_X12_peace ml_RL_169 rfl (by omega) rfl rfl (Nat.le_of_ble_eq_true rfl) ⟨by decide, by decide⟩ dL_law_1384 ?_
  refine U.ieqT (pc := 1387) C dL_law_1387 1614 (by decide) rfl ?_
  exact K _ _ _ h3
set_option maxRecDepth 100000 in
set_option maxHeartbeats 4000000 in
theorem cs_38 {G : Gt} {l : Launch} {p : Program} {e : Env} {s : State} {mt : MethodId} {b : Nat} {below : List Frame} {meth : Method} {c : Code} {Ln : Nat} {xs : Nat → Int32} (C : CU G p s mt meth c b Ln xs) (hLn : Ln ≤ 3072) {Rel : Nat → Nat → Mem → Mem → Prop} (hs : St_angry Rel) {k N : Nat} {mx mm : Mem} (hk : 6 * k + 6 ≤ Ln) (hN : 109 ≤ N) (hN2 : N ≤ 137) (hR : Rel k N mx mm) (K : ∀ (N1 : Nat) (mx1 mm1 : Mem), Rel (k + 1) N1 mx1 mm1 → U G l p e s mt b below meth c N1 1614 [(3, .int (nI (6 * k))), (2, .retAddr 2), (1, .retAddr 1), (0, .retAddr 0)] [] mx1 mm1) : U G l p e s mt b below meth c N 1392 [(3, .int (nI (6 * k))), (2, .retAddr 2), (1, .retAddr 1), (0, .retAddr 0)] [] mx mm := by
  obtain ⟨r, mx1, mm1, h1, h2, h3⟩ := hs k N mx mm (by omega) hR 
  refine U.aload1 (pc := 1392) C dL_law_1392 2 rfl ?_
  refine U.callX (pc := 1393) (st := []) (N1 := N) C (c_X11_angry l hN  mx) h1 (fun _ _ => rfl) (fun _ _ _ _ _ => ⟨rfl, rfl⟩) ck_X11_angry ml_RL_170 rfl (by omega) (by omega) (by omega) (by rw [Nat.sub_self]; exact Nat.zero_le _) rfl rfl (Nat.le_of_ble_eq_true rfl) ⟨by decide, by decide⟩ dL_law_1393 ?_
  refine U.aload2 (pc := 1396) C dL_law_1396 1 rfl ?_
  refine U.callM (pc := 1397) (st := [.int r]) C (c_X12_angry l  mm) h2 (fun _ _ => rfl) (fun _ _ _ _ _ => ⟨rfl, rfl⟩) ck_X12_angry ml_RL_173 rfl (by omega) rfl rfl (Nat.le_of_ble_eq_true rfl) ⟨by decide, by decide⟩ dL_law_1397 ?_
  refine U.ieqT (pc := 1400) C dL_law_1400 1614 (by decide) rfl ?_
  exact K _ _ _ h3
set_option maxRecDepth 100000 in
set_option maxHeartbeats 4000000 in
theorem cs_39 {G : Gt} {l : Launch} {p : Program} {e : Env} {s : State} {mt : MethodId} {b : Nat} {below : List Frame} {meth : Method} {c : Code} {Ln : Nat} {xs : Nat → Int32} (C : CU G p s mt meth c b Ln xs) (hLn : Ln ≤ 3072) {Rel : Nat → Nat → Mem → Mem → Prop} (hs : St_numbers Rel) {k N : Nat} {mx mm : Mem} (hk : 6 * k + 6 ≤ Ln) (hN : 109 ≤ N) (hN2 : N ≤ 137) (hR : Rel k N mx mm) (K : ∀ (N1 : Nat) (mx1 mm1 : Mem), Rel (k + 1) N1 mx1 mm1 → U G l p e s mt b below meth c N1 1614 [(3, .int (nI (6 * k))), (2, .retAddr 2), (1, .retAddr 1), (0, .retAddr 0)] [] mx1 mm1) : U G l p e s mt b below meth c N 1405 [(3, .int (nI (6 * k))), (2, .retAddr 2), (1, .retAddr 1), (0, .retAddr 0)] [] mx mm := by
  obtain ⟨r, mx1, mm1, h1, h2, h3⟩ := hs k N mx mm (by omega) hR (xs (6 * k + 1)) (xs (6 * k + 2)) (xs (6 * k + 3))
  refine U.aload1 (pc := 1405) C dL_law_1405 2 rfl ?_
  refine U.aload0 (pc := 1406) C dL_law_1406 3 rfl ?_
  refine U.iload_n (pc := 1407) C dL_law_1407 0 rfl ?_
  refine U.iconst (pc := 1408) C dL_law_1408 (v := 1) (by decide) ?_
  refine U.iadd (pc := 1409) C dL_law_1409 ?_
  refine U.sldN (pc := 1410) (j := 6 * k + 1) C dL_law_1410 (e1 k) (by omega) hLn ?_
  refine U.aload0 (pc := 1411) C dL_law_1411 3 rfl ?_
  refine U.iload_n (pc := 1412) C dL_law_1412 0 rfl ?_
  refine U.iconst (pc := 1413) C dL_law_1413 (v := 2) (by decide) ?_
  refine U.iadd (pc := 1414) C dL_law_1414 ?_
  refine U.sldN (pc := 1415) (j := 6 * k + 2) C dL_law_1415 (e2 k) (by omega) hLn ?_
  refine U.aload0 (pc := 1416) C dL_law_1416 3 rfl ?_
  refine U.iload_n (pc := 1417) C dL_law_1417 0 rfl ?_
  refine U.iconst (pc := 1418) C dL_law_1418 (v := 3) (by decide) ?_
  refine U.iadd (pc := 1419) C dL_law_1419 ?_
  refine U.sldN (pc := 1420) (j := 6 * k + 3) C dL_law_1420 (e3 k) (by omega) hLn ?_
  refine U.callX (pc := 1421) (st := []) (N1 := N) C (c_X11_numbers l hN (xs (6 * k + 1)) (xs (6 * k + 2)) (xs (6 * k + 3)) mx) h1 (fun _ _ => rfl) (fun _ _ _ _ _ => ⟨rfl, rfl⟩) ck_X11_numbers ml_RL_174 rfl (by omega) (by omega) (by omega) (by rw [Nat.sub_self]; exact Nat.zero_le _) rfl rfl (Nat.le_of_ble_eq_true rfl) ⟨by decide, by decide⟩ dL_law_1421 ?_
  refine U.aload2 (pc := 1424) C dL_law_1424 1 rfl ?_
  refine U.aload0 (pc := 1425) C dL_law_1425 3 rfl ?_
  refine U.iload_n (pc := 1426) C dL_law_1426 0 rfl ?_
  refine U.iconst (pc := 1427) C dL_law_1427 (v := 1) (by decide) ?_
  refine U.iadd (pc := 1428) C dL_law_1428 ?_
  refine U.sldN (pc := 1429) (j := 6 * k + 1) C dL_law_1429 (e1 k) (by omega) hLn ?_
  refine U.aload0 (pc := 1430) C dL_law_1430 3 rfl ?_
  refine U.iload_n (pc := 1431) C dL_law_1431 0 rfl ?_
  refine U.iconst (pc := 1432) C dL_law_1432 (v := 2) (by decide) ?_
  refine U.iadd (pc := 1433) C dL_law_1433 ?_
  refine U.sldN (pc := 1434) (j := 6 * k + 2) C dL_law_1434 (e2 k) (by omega) hLn ?_
  refine U.aload0 (pc := 1435) C dL_law_1435 3 rfl ?_
  refine U.iload_n (pc := 1436) C dL_law_1436 0 rfl ?_
  refine U.iconst (pc := 1437) C dL_law_1437 (v := 3) (by decide) ?_
  refine U.iadd (pc := 1438) C dL_law_1438 ?_
  refine U.sldN (pc := 1439) (j := 6 * k + 3) C dL_law_1439 (e3 k) (by omega) hLn ?_
  refine U.callM (pc := 1440) (st := [.int r]) C (c_X12_numbers l (xs (6 * k + 1)) (xs (6 * k + 2)) (xs (6 * k + 3)) mm) h2 (fun _ _ => rfl) (fun _ _ _ _ _ => ⟨rfl, rfl⟩) ck_X12_numbers ml_RL_177 rfl (by omega) rfl rfl (Nat.le_of_ble_eq_true rfl) ⟨by decide, by decide⟩ dL_law_1440 ?_
  refine U.ieqT (pc := 1443) C dL_law_1443 1614 (by decide) rfl ?_
  exact K _ _ _ h3
set_option maxRecDepth 100000 in
set_option maxHeartbeats 4000000 in
theorem cs_40 {G : Gt} {l : Launch} {p : Program} {e : Env} {s : State} {mt : MethodId} {b : Nat} {below : List Frame} {meth : Method} {c : Code} {Ln : Nat} {xs : Nat → Int32} (C : CU G p s mt meth c b Ln xs) (hLn : Ln ≤ 3072) {Rel : Nat → Nat → Mem → Mem → Prop} (hs : St_write Rel) {k N : Nat} {mx mm : Mem} (hk : 6 * k + 6 ≤ Ln) (hN : 109 ≤ N) (hN2 : N ≤ 137) (hR : Rel k N mx mm) (K : ∀ (N1 : Nat) (mx1 mm1 : Mem), Rel (k + 1) N1 mx1 mm1 → U G l p e s mt b below meth c N1 1614 [(3, .int (nI (6 * k))), (2, .retAddr 2), (1, .retAddr 1), (0, .retAddr 0)] [] mx1 mm1) : U G l p e s mt b below meth c N 1448 [(3, .int (nI (6 * k))), (2, .retAddr 2), (1, .retAddr 1), (0, .retAddr 0)] [] mx mm := by
  obtain ⟨r, mx1, mm1, h1, h2, h3⟩ := hs k N mx mm (by omega) hR (xs (6 * k + 1)) (xs (6 * k + 2)) (((xs (6 * k + 3)).toInt64 <<< ((32 : Int32).toInt64 &&& 63)) ||| ((xs (6 * k + 4)).toInt64 &&& 4294967295))
  refine U.aload1 (pc := 1448) C dL_law_1448 2 rfl ?_
  refine U.aload0 (pc := 1449) C dL_law_1449 3 rfl ?_
  refine U.iload_n (pc := 1450) C dL_law_1450 0 rfl ?_
  refine U.iconst (pc := 1451) C dL_law_1451 (v := 1) (by decide) ?_
  refine U.iadd (pc := 1452) C dL_law_1452 ?_
  refine U.sldN (pc := 1453) (j := 6 * k + 1) C dL_law_1453 (e1 k) (by omega) hLn ?_
  refine U.aload0 (pc := 1454) C dL_law_1454 3 rfl ?_
  refine U.iload_n (pc := 1455) C dL_law_1455 0 rfl ?_
  refine U.iconst (pc := 1456) C dL_law_1456 (v := 2) (by decide) ?_
  refine U.iadd (pc := 1457) C dL_law_1457 ?_
  refine U.sldN (pc := 1458) (j := 6 * k + 2) C dL_law_1458 (e2 k) (by omega) hLn ?_
  refine U.aload0 (pc := 1459) C dL_law_1459 3 rfl ?_
  refine U.iload_n (pc := 1460) C dL_law_1460 0 rfl ?_
  refine U.iconst (pc := 1461) C dL_law_1461 (v := 3) (by decide) ?_
  refine U.iadd (pc := 1462) C dL_law_1462 ?_
  refine U.sldN (pc := 1463) (j := 6 * k + 3) C dL_law_1463 (e3 k) (by omega) hLn ?_
  refine U.i2l (pc := 1464) C dL_law_1464 ?_
  refine U.bipush (pc := 1465) C dL_law_1465 (v := 32) (by decide) ?_
  refine U.lshl (pc := 1467) C dL_law_1467 ?_
  refine U.aload0 (pc := 1468) C dL_law_1468 3 rfl ?_
  refine U.iload_n (pc := 1469) C dL_law_1469 0 rfl ?_
  refine U.iconst (pc := 1470) C dL_law_1470 (v := 4) (by decide) ?_
  refine U.iadd (pc := 1471) C dL_law_1471 ?_
  refine U.sldN (pc := 1472) (j := 6 * k + 4) C dL_law_1472 (e4 k) (by omega) hLn ?_
  refine U.i2l (pc := 1473) C dL_law_1473 ?_
  refine U.ldc2 (pc := 1474) C dL_law_1474 (v := 4294967295) cl_RL_178 ?_
  refine U.land (pc := 1477) C dL_law_1477 ?_
  refine U.lor (pc := 1478) C dL_law_1478 ?_
  refine U.callX (pc := 1479) (st := []) (N1 := N) C (c_X11_write l hN (xs (6 * k + 1)) (xs (6 * k + 2)) ((((xs (6 * k + 3)).toInt64) <<< ((32 : Int32).toInt64 &&& 63)) ||| (((xs (6 * k + 4)).toInt64) &&& 4294967295)) mx) h1 (fun _ _ => rfl) (fun _ _ _ _ _ => ⟨rfl, rfl⟩) ck_X11_write ml_RL_180 rfl (by omega) (by omega) (by omega) (by rw [Nat.sub_self]; exact Nat.zero_le _) rfl rfl (Nat.le_of_ble_eq_true rfl) ⟨by decide, by decide⟩ dL_law_1479 ?_
  refine U.aload2 (pc := 1482) C dL_law_1482 1 rfl ?_
  refine U.aload0 (pc := 1483) C dL_law_1483 3 rfl ?_
  refine U.iload_n (pc := 1484) C dL_law_1484 0 rfl ?_
  refine U.iconst (pc := 1485) C dL_law_1485 (v := 1) (by decide) ?_
  refine U.iadd (pc := 1486) C dL_law_1486 ?_
  refine U.sldN (pc := 1487) (j := 6 * k + 1) C dL_law_1487 (e1 k) (by omega) hLn ?_
  refine U.aload0 (pc := 1488) C dL_law_1488 3 rfl ?_
  refine U.iload_n (pc := 1489) C dL_law_1489 0 rfl ?_
  refine U.iconst (pc := 1490) C dL_law_1490 (v := 2) (by decide) ?_
  refine U.iadd (pc := 1491) C dL_law_1491 ?_
  refine U.sldN (pc := 1492) (j := 6 * k + 2) C dL_law_1492 (e2 k) (by omega) hLn ?_
  refine U.aload0 (pc := 1493) C dL_law_1493 3 rfl ?_
  refine U.iload_n (pc := 1494) C dL_law_1494 0 rfl ?_
  refine U.iconst (pc := 1495) C dL_law_1495 (v := 3) (by decide) ?_
  refine U.iadd (pc := 1496) C dL_law_1496 ?_
  refine U.sldN (pc := 1497) (j := 6 * k + 3) C dL_law_1497 (e3 k) (by omega) hLn ?_
  refine U.i2l (pc := 1498) C dL_law_1498 ?_
  refine U.bipush (pc := 1499) C dL_law_1499 (v := 32) (by decide) ?_
  refine U.lshl (pc := 1501) C dL_law_1501 ?_
  refine U.aload0 (pc := 1502) C dL_law_1502 3 rfl ?_
  refine U.iload_n (pc := 1503) C dL_law_1503 0 rfl ?_
  refine U.iconst (pc := 1504) C dL_law_1504 (v := 4) (by decide) ?_
  refine U.iadd (pc := 1505) C dL_law_1505 ?_
  refine U.sldN (pc := 1506) (j := 6 * k + 4) C dL_law_1506 (e4 k) (by omega) hLn ?_
  refine U.i2l (pc := 1507) C dL_law_1507 ?_
  refine U.ldc2 (pc := 1508) C dL_law_1508 (v := 4294967295) cl_RL_178 ?_
  refine U.land (pc := 1511) C dL_law_1511 ?_
  refine U.lor (pc := 1512) C dL_law_1512 ?_
  refine U.callM (pc := 1513) (st := [.long r]) C (c_X12_write l (xs (6 * k + 1)) (xs (6 * k + 2)) ((((xs (6 * k + 3)).toInt64) <<< ((32 : Int32).toInt64 &&& 63)) ||| (((xs (6 * k + 4)).toInt64) &&& 4294967295)) mm) h2 (fun _ _ => rfl) (fun _ _ _ _ _ => ⟨rfl, rfl⟩) ck_X12_write ml_RL_184 rfl (by omega) rfl rfl (Nat.le_of_ble_eq_true rfl) ⟨by decide, by decide⟩ dL_law_1513 ?_
  refine U.lcmp (pc := 1516) C dL_law_1516 ?_
  refine U.ifeqT (pc := 1517) C dL_law_1517 1614 (by decide) (lg_self r) ?_
  exact K _ _ _ h3
set_option maxRecDepth 100000 in
set_option maxHeartbeats 4000000 in
theorem cs_41 {G : Gt} {l : Launch} {p : Program} {e : Env} {s : State} {mt : MethodId} {b : Nat} {below : List Frame} {meth : Method} {c : Code} {Ln : Nat} {xs : Nat → Int32} (C : CU G p s mt meth c b Ln xs) (hLn : Ln ≤ 3072) {Rel : Nat → Nat → Mem → Mem → Prop} (hs : St_lists Rel) {k N : Nat} {mx mm : Mem} (hk : 6 * k + 6 ≤ Ln) (hN : 109 ≤ N) (hN2 : N ≤ 137) (hR : Rel k N mx mm) (K : ∀ (N1 : Nat) (mx1 mm1 : Mem), Rel (k + 1) N1 mx1 mm1 → U G l p e s mt b below meth c N1 1614 [(3, .int (nI (6 * k))), (2, .retAddr 2), (1, .retAddr 1), (0, .retAddr 0)] [] mx1 mm1) : U G l p e s mt b below meth c N 1522 [(3, .int (nI (6 * k))), (2, .retAddr 2), (1, .retAddr 1), (0, .retAddr 0)] [] mx mm := by
  obtain ⟨r, mx1, mm1, h1, h2, h3⟩ := hs k N mx mm (by omega) hR (xs (6 * k + 1))
  refine U.aload1 (pc := 1522) C dL_law_1522 2 rfl ?_
  refine U.aload0 (pc := 1523) C dL_law_1523 3 rfl ?_
  refine U.iload_n (pc := 1524) C dL_law_1524 0 rfl ?_
  refine U.iconst (pc := 1525) C dL_law_1525 (v := 1) (by decide) ?_
  refine U.iadd (pc := 1526) C dL_law_1526 ?_
  refine U.sldN (pc := 1527) (j := 6 * k + 1) C dL_law_1527 (e1 k) (by omega) hLn ?_
  refine U.callX (pc := 1528) (st := []) (N1 := N) C (c_X11_lists l hN (xs (6 * k + 1)) mx) h1 (fun _ _ => rfl) (fun _ _ _ _ _ => ⟨rfl, rfl⟩) ck_X11_lists ml_RL_185 rfl (by omega) (by omega) (by omega) (by rw [Nat.sub_self]; exact Nat.zero_le _) rfl rfl (Nat.le_of_ble_eq_true rfl) ⟨by decide, by decide⟩ dL_law_1528 ?_
  refine U.aload2 (pc := 1531) C dL_law_1531 1 rfl ?_
  refine U.aload0 (pc := 1532) C dL_law_1532 3 rfl ?_
  refine U.iload_n (pc := 1533) C dL_law_1533 0 rfl ?_
  refine U.iconst (pc := 1534) C dL_law_1534 (v := 1) (by decide) ?_
  refine U.iadd (pc := 1535) C dL_law_1535 ?_
  refine U.sldN (pc := 1536) (j := 6 * k + 1) C dL_law_1536 (e1 k) (by omega) hLn ?_
  refine U.callM (pc := 1537) (st := [.int r]) C (c_X12_lists l (xs (6 * k + 1)) mm) h2 (fun _ _ => rfl) (fun _ _ _ _ _ => ⟨rfl, rfl⟩) ck_X12_lists ml_RL_188 rfl (by omega) rfl rfl (Nat.le_of_ble_eq_true rfl) ⟨by decide, by decide⟩ dL_law_1537 ?_
  refine U.ieqT (pc := 1540) C dL_law_1540 1614 (by decide) rfl ?_
  exact K _ _ _ h3
set_option maxRecDepth 100000 in
set_option maxHeartbeats 4000000 in
theorem cs_42 {G : Gt} {l : Launch} {p : Program} {e : Env} {s : State} {mt : MethodId} {b : Nat} {below : List Frame} {meth : Method} {c : Code} {Ln : Nat} {xs : Nat → Int32} (C : CU G p s mt meth c b Ln xs) (hLn : Ln ≤ 3072) {Rel : Nat → Nat → Mem → Mem → Prop} (hs : St_image Rel) {k N : Nat} {mx mm : Mem} (hk : 6 * k + 6 ≤ Ln) (hN : 109 ≤ N) (hN2 : N ≤ 137) (hR : Rel k N mx mm) (K : ∀ (N1 : Nat) (mx1 mm1 : Mem), Rel (k + 1) N1 mx1 mm1 → U G l p e s mt b below meth c N1 1614 [(3, .int (nI (6 * k))), (2, .retAddr 2), (1, .retAddr 1), (0, .retAddr 0)] [] mx1 mm1) : U G l p e s mt b below meth c N 1545 [(3, .int (nI (6 * k))), (2, .retAddr 2), (1, .retAddr 1), (0, .retAddr 0)] [] mx mm := by
  rcases hs k N mx mm (by omega) hR (xs (6 * k + 1)) with ⟨r, mx1, mm1, h1, h2, h3⟩ | ⟨hNN, hnk, r, mx1, mm1, h1, h2, h3⟩
  · refine U.aload1 (pc := 1545) C dL_law_1545 2 rfl ?_
    refine U.aload0 (pc := 1546) C dL_law_1546 3 rfl ?_
    refine U.iload_n (pc := 1547) C dL_law_1547 0 rfl ?_
    refine U.iconst (pc := 1548) C dL_law_1548 (v := 1) (by decide) ?_
    refine U.iadd (pc := 1549) C dL_law_1549 ?_
    refine U.sldN (pc := 1550) (j := 6 * k + 1) C dL_law_1550 (e1 k) (by omega) hLn ?_
    refine U.callX (pc := 1551) (st := []) (N1 := N) C (c_X11_image l N hN (xs (6 * k + 1)) mx) h1 (fun _ _ => rfl) (fun _ _ _ _ _ => ⟨rfl, rfl⟩) ck_X11_image ml_RL_189 rfl (by omega) (by omega) (by omega) (by rw [Nat.sub_self]; exact Nat.zero_le _) rfl rfl (Nat.le_of_ble_eq_true rfl) ⟨by decide, by decide⟩ dL_law_1551 ?_
    refine U.aload2 (pc := 1554) C dL_law_1554 1 rfl ?_
    refine U.aload0 (pc := 1555) C dL_law_1555 3 rfl ?_
    refine U.iload_n (pc := 1556) C dL_law_1556 0 rfl ?_
    refine U.iconst (pc := 1557) C dL_law_1557 (v := 1) (by decide) ?_
    refine U.iadd (pc := 1558) C dL_law_1558 ?_
    refine U.sldN (pc := 1559) (j := 6 * k + 1) C dL_law_1559 (e1 k) (by omega) hLn ?_
    refine U.callM (pc := 1560) (st := [.int r]) C (c_X12_image l (xs (6 * k + 1)) mm) h2 (fun _ _ => rfl) (fun _ _ _ _ _ => ⟨rfl, rfl⟩) ck_X12_image ml_RL_192 rfl (by omega) rfl rfl (Nat.le_of_ble_eq_true rfl) ⟨by decide, by decide⟩ dL_law_1560 ?_
    refine U.ieqT (pc := 1563) C dL_law_1563 1614 (by decide) rfl ?_
    exact K _ _ _ h3
  · refine U.aload1 (pc := 1545) C dL_law_1545 2 rfl ?_
    refine U.aload0 (pc := 1546) C dL_law_1546 3 rfl ?_
    refine U.iload_n (pc := 1547) C dL_law_1547 0 rfl ?_
    refine U.iconst (pc := 1548) C dL_law_1548 (v := 1) (by decide) ?_
    refine U.iadd (pc := 1549) C dL_law_1549 ?_
    refine U.sldN (pc := 1550) (j := 6 * k + 1) C dL_law_1550 (e1 k) (by omega) hLn ?_
    refine U.callX (pc := 1551) (st := []) (N1 := N + 14) C (c_X11_imageN l N hNN (xs (6 * k + 1)) mx hnk) h1 (fun _ _ => rfl) (fun _ _ _ _ _ => ⟨rfl, rfl⟩) ck_X11_image ml_RL_189 rfl (by omega) (by omega) (by omega) (by rcases hNN with rfl | rfl <;> decide) rfl rfl (Nat.le_of_ble_eq_true rfl) ⟨by decide, by decide⟩ dL_law_1551 ?_
    refine U.aload2 (pc := 1554) C dL_law_1554 1 rfl ?_
    refine U.aload0 (pc := 1555) C dL_law_1555 3 rfl ?_
    refine U.iload_n (pc := 1556) C dL_law_1556 0 rfl ?_
    refine U.iconst (pc := 1557) C dL_law_1557 (v := 1) (by decide) ?_
    refine U.iadd (pc := 1558) C dL_law_1558 ?_
    refine U.sldN (pc := 1559) (j := 6 * k + 1) C dL_law_1559 (e1 k) (by omega) hLn ?_
    refine U.callM (pc := 1560) (st := [.int r]) C (c_X12_image l (xs (6 * k + 1)) mm) h2 (fun _ _ => rfl) (fun _ _ _ _ _ => ⟨rfl, rfl⟩) ck_X12_image ml_RL_192 rfl (by omega) rfl rfl (Nat.le_of_ble_eq_true rfl) ⟨by decide, by decide⟩ dL_law_1560 ?_
    refine U.ieqT (pc := 1563) C dL_law_1563 1614 (by decide) rfl ?_
    exact K _ _ _ h3
set_option maxRecDepth 100000 in
set_option maxHeartbeats 4000000 in
theorem cs_43 {G : Gt} {l : Launch} {p : Program} {e : Env} {s : State} {mt : MethodId} {b : Nat} {below : List Frame} {meth : Method} {c : Code} {Ln : Nat} {xs : Nat → Int32} (C : CU G p s mt meth c b Ln xs) (hLn : Ln ≤ 3072) {Rel : Nat → Nat → Mem → Mem → Prop} (hs : St_restore Rel) {k N : Nat} {mx mm : Mem} (hk : 6 * k + 6 ≤ Ln) (hN : 109 ≤ N) (hN2 : N ≤ 137) (hR : Rel k N mx mm) (K : ∀ (N1 : Nat) (mx1 mm1 : Mem), Rel (k + 1) N1 mx1 mm1 → U G l p e s mt b below meth c N1 1614 [(3, .int (nI (6 * k))), (2, .retAddr 2), (1, .retAddr 1), (0, .retAddr 0)] [] mx1 mm1) : U G l p e s mt b below meth c N 1568 [(3, .int (nI (6 * k))), (2, .retAddr 2), (1, .retAddr 1), (0, .retAddr 0)] [] mx mm := by
  obtain ⟨r, mx1, mm1, h1, h2, h3⟩ := hs k N mx mm (by omega) hR (xs (6 * k + 1))
  refine U.aload1 (pc := 1568) C dL_law_1568 2 rfl ?_
  refine U.aload0 (pc := 1569) C dL_law_1569 3 rfl ?_
  refine U.iload_n (pc := 1570) C dL_law_1570 0 rfl ?_
  refine U.iconst (pc := 1571) C dL_law_1571 (v := 1) (by decide) ?_
  refine U.iadd (pc := 1572) C dL_law_1572 ?_
  refine U.sldN (pc := 1573) (j := 6 * k + 1) C dL_law_1573 (e1 k) (by omega) hLn ?_
  refine U.callX (pc := 1574) (st := []) (N1 := N) C (c_X11_restore l N hN (xs (6 * k + 1)) mx) h1 (fun _ _ => rfl) (fun _ _ _ _ _ => ⟨rfl, rfl⟩) ck_X11_restore ml_RL_193 rfl (by omega) (by omega) (by omega) (by rw [Nat.sub_self]; exact Nat.zero_le _) rfl rfl (Nat.le_of_ble_eq_true rfl) ⟨by decide, by decide⟩ dL_law_1574 ?_
  refine U.aload2 (pc := 1577) C dL_law_1577 1 rfl ?_
  refine U.aload0 (pc := 1578) C dL_law_1578 3 rfl ?_
  refine U.iload_n (pc := 1579) C dL_law_1579 0 rfl ?_
  refine U.iconst (pc := 1580) C dL_law_1580 (v := 1) (by decide) ?_
  refine U.iadd (pc := 1581) C dL_law_1581 ?_
  refine U.sldN (pc := 1582) (j := 6 * k + 1) C dL_law_1582 (e1 k) (by omega) hLn ?_
  refine U.callM (pc := 1583) (st := [.int r]) C (c_X12_restore l (xs (6 * k + 1)) mm) h2 (fun _ _ => rfl) (fun _ _ _ _ _ => ⟨rfl, rfl⟩) ck_X12_restore ml_RL_196 rfl (by omega) rfl rfl (Nat.le_of_ble_eq_true rfl) ⟨by decide, by decide⟩ dL_law_1583 ?_
  refine U.ieqT (pc := 1586) C dL_law_1586 1614 (by decide) rfl ?_
  exact K _ _ _ h3
set_option maxRecDepth 100000 in
set_option maxHeartbeats 4000000 in
theorem cs_44 {G : Gt} {l : Launch} {p : Program} {e : Env} {s : State} {mt : MethodId} {b : Nat} {below : List Frame} {meth : Method} {c : Code} {Ln : Nat} {xs : Nat → Int32} (C : CU G p s mt meth c b Ln xs) (hLn : Ln ≤ 3072) {Rel : Nat → Nat → Mem → Mem → Prop} (hs : St_count Rel) {k N : Nat} {mx mm : Mem} (hk : 6 * k + 6 ≤ Ln) (hN : 109 ≤ N) (hN2 : N ≤ 137) (hR : Rel k N mx mm) (K : ∀ (N1 : Nat) (mx1 mm1 : Mem), Rel (k + 1) N1 mx1 mm1 → U G l p e s mt b below meth c N1 1614 [(3, .int (nI (6 * k))), (2, .retAddr 2), (1, .retAddr 1), (0, .retAddr 0)] [] mx1 mm1) : U G l p e s mt b below meth c N 1591 [(3, .int (nI (6 * k))), (2, .retAddr 2), (1, .retAddr 1), (0, .retAddr 0)] [] mx mm := by
  obtain ⟨r, mx1, mm1, h1, h2, h3⟩ := hs k N mx mm (by omega) hR (xs (6 * k + 1))
  refine U.aload1 (pc := 1591) C dL_law_1591 2 rfl ?_
  refine U.aload0 (pc := 1592) C dL_law_1592 3 rfl ?_
  refine U.iload_n (pc := 1593) C dL_law_1593 0 rfl ?_
  refine U.iconst (pc := 1594) C dL_law_1594 (v := 1) (by decide) ?_
  refine U.iadd (pc := 1595) C dL_law_1595 ?_
  refine U.sldN (pc := 1596) (j := 6 * k + 1) C dL_law_1596 (e1 k) (by omega) hLn ?_
  refine U.callX (pc := 1597) (st := []) (N1 := N) C (c_X11_count l hN (xs (6 * k + 1)) mx) h1 (fun _ _ => rfl) (fun _ _ _ _ _ => ⟨rfl, rfl⟩) ck_X11_count ml_RL_197 rfl (by omega) (by omega) (by omega) (by rw [Nat.sub_self]; exact Nat.zero_le _) rfl rfl (Nat.le_of_ble_eq_true rfl) ⟨by decide, by decide⟩ dL_law_1597 ?_
  refine U.aload2 (pc := 1600) C dL_law_1600 1 rfl ?_
  refine U.aload0 (pc := 1601) C dL_law_1601 3 rfl ?_
  refine U.iload_n (pc := 1602) C dL_law_1602 0 rfl ?_
  refine U.iconst (pc := 1603) C dL_law_1603 (v := 1) (by decide) ?_
  refine U.iadd (pc := 1604) C dL_law_1604 ?_
  refine U.sldN (pc := 1605) (j := 6 * k + 1) C dL_law_1605 (e1 k) (by omega) hLn ?_
  refine U.callM (pc := 1606) (st := [.int r]) C (c_X12_count l (xs (6 * k + 1)) mm) h2 (fun _ _ => rfl) (fun _ _ _ _ _ => ⟨rfl, rfl⟩) ck_X12_count ml_RL_200 rfl (by omega) rfl rfl (Nat.le_of_ble_eq_true rfl) ⟨by decide, by decide⟩ dL_law_1606 ?_
  refine U.ieqT (pc := 1609) C dL_law_1609 1614 (by decide) rfl ?_
  exact K _ _ _ h3
def PureOK (Rel : Nat → Nat → Mem → Mem → Prop) : Prop := (∀ (k N : Nat) (mx mm : Mem), Rel k N mx mm → 109 ≤ N ∧ N ≤ 137) ∧ (∀ (k N : Nat) (mx mm : Mem), Rel k N mx mm → Rel (k + 1) N mx mm) ∧ St_feed Rel ∧ St_bureau Rel ∧ St_fault Rel ∧ St_person Rel ∧ St_since Rel ∧ St_thing Rel ∧ St_pair Rel ∧ St_good Rel ∧ St_may Rel ∧ St_wed Rel ∧ St_part Rel ∧ St_takes Rel ∧ St_copies Rel ∧ St_years Rel ∧ St_undo Rel ∧ St_judge Rel ∧ St_perform Rel ∧ St_season Rel ∧ St_matchings Rel ∧ St_most Rel ∧ St_stable Rel ∧ St_breaks Rel ∧ St_matchAll Rel ∧ St_dearest Rel ∧ St_holds Rel ∧ St_goodIn Rel ∧ St_lasting Rel ∧ St_later Rel ∧ St_byWhen Rel ∧ St_leftFor Rel ∧ St_fib Rel ∧ St_strikes Rel ∧ St_sharer Rel ∧ St_pieced Rel ∧ St_child Rel ∧ St_houses Rel ∧ St_biggest Rel ∧ St_peace Rel ∧ St_angry Rel ∧ St_numbers Rel ∧ St_write Rel ∧ St_lists Rel ∧ St_image Rel ∧ St_restore Rel ∧ St_count Rel
set_option maxRecDepth 100000 in
set_option maxHeartbeats 4000000 in
theorem law_loop {G : Gt} {l : Launch} {p : Program} {e : Env} {s : State} {mt : MethodId} {b : Nat} {below : List Frame} {meth : Method} {c : Code} {Ln : Nat} {xs : Nat → Int32} (C : CU G p s mt meth c b Ln xs) (hLn : Ln ≤ 3072) {Rel : Nat → Nat → Mem → Mem → Prop} (hP : PureOK Rel) : ∀ (d k N : Nat) (mx mm : Mem), Ln - 6 * k < d → 6 * k ≤ Ln → Rel k N mx mm → U G l p e s mt b below meth c N 18 [(3, .int (nI (6 * k))), (2, .retAddr 2), (1, .retAddr 1), (0, .retAddr 0)] [] mx mm := by
  intro d
  induction d with
  | zero => intro k N mx mm h; exact absurd h (Nat.not_lt_zero _)
  | succ d ih =>
    intro k N mx mm hd hkl hR
    obtain ⟨hN, hN2⟩ := hP.1 k N mx mm hR
    have el : (nI Ln - nI 6).toInt = (Ln : Int) - 6 := pk_sub_toInt (by omega) (by omega)
    have ek : (nI (6 * k)).toInt = ((6 * k : Nat) : Int) := nI_toInt (by omega)
    refine U.iload_n (pc := 18) C dL_law_18 0 rfl ?_
    refine U.aload0 (pc := 19) C dL_law_19 3 rfl ?_
    refine U.slen (pc := 20) C dL_law_20 ?_
    refine U.bipush (pc := 21) C dL_law_21 (v := 6) (by decide) ?_
    refine U.isub (pc := 23) C dL_law_23 ?_
    by_cases hk : 6 * k + 6 ≤ Ln
    · refine U.igtF (pc := 24) C dL_law_24 1620 (by decide) (fun h => ?_) ?_
      · have h : (nI Ln - nI 6).toInt < (nI (6 * k)).toInt := Int32.lt_iff_toInt_lt.mp h
        rw [el, ek] at h
        omega
      · have K : ∀ (N1 : Nat) (mx1 mm1 : Mem), Rel (k + 1) N1 mx1 mm1 → U G l p e s mt b below meth c N1 1614 [(3, .int (nI (6 * k))), (2, .retAddr 2), (1, .retAddr 1), (0, .retAddr 0)] [] mx1 mm1 := by
          intro N1 mx1 mm1 hR1
          refine U.iinc (pc := 1614) (v := 6) (L2 := [(3, .int (nI (6 * k) + 6)), (2, .retAddr 2), (1, .retAddr 1), (0, .retAddr 0)]) C dL_law_1614 0 rfl (by decide) (by decide) rfl ?_
          refine U.goto (pc := 1617) C dL_law_1617 18 (by decide) ?_
          rw [show nI (6 * k) + 6 = nI (6 * (k + 1)) from nI_add (6 * k) 6]
          exact ih (k + 1) N1 mx1 mm1 (by omega) (by omega) hR1
        refine U.aload0 (pc := 27) C dL_law_27 3 rfl ?_
        refine U.iload_n (pc := 28) C dL_law_28 0 rfl ?_
        refine U.sldN (pc := 29) (j := 6 * k) C dL_law_29 rfl (by omega) hLn ?_
        refine U.bipush (pc := 30) C dL_law_30 (v := 63) (by decide) ?_
        refine U.iand (pc := 32) C dL_law_32 ?_
        generalize xs (6 * k) &&& 63 = v
        by_cases h0 : v = 0
        · refine U.tin (pc := 33) (x := v) (j := 0) (tgt := 228) C dL_law_33 h0 (by decide) (by decide) rfl (by decide) ?_
          exact cs_0 C hLn (hP.2.2.1) hk hN hN2 hR K
        by_cases h1 : v = 1
        · refine U.tin (pc := 33) (x := v) (j := 1) (tgt := 291) C dL_law_33 h1 (by decide) (by decide) rfl (by decide) ?_
          exact cs_1 C hLn (hP.2.2.2.1) hk hN hN2 hR K
        by_cases h2 : v = 2
        · refine U.tin (pc := 33) (x := v) (j := 2) (tgt := 314) C dL_law_33 h2 (by decide) (by decide) rfl (by decide) ?_
          exact cs_2 C hLn (hP.2.2.2.2.1) hk hN hN2 hR K
        by_cases h3 : v = 3
        · refine U.tin (pc := 33) (x := v) (j := 3) (tgt := 337) C dL_law_33 h3 (by decide) (by decide) rfl (by decide) ?_
          exact cs_3 C hLn (hP.2.2.2.2.2.1) hk hN hN2 hR K
        by_cases h4 : v = 4
        · refine U.tin (pc := 33) (x := v) (j := 4) (tgt := 370) C dL_law_33 h4 (by decide) (by decide) rfl (by decide) ?_
          exact cs_4 C hLn (hP.2.2.2.2.2.2.1) hk hN hN2 hR K
        by_cases h5 : v = 5
        · refine U.tin (pc := 33) (x := v) (j := 5) (tgt := 403) C dL_law_33 h5 (by decide) (by decide) rfl (by decide) ?_
          exact cs_5 C hLn (hP.2.2.2.2.2.2.2.1) hk hN hN2 hR K
        by_cases h6 : v = 6
        · refine U.tin (pc := 33) (x := v) (j := 6) (tgt := 436) C dL_law_33 h6 (by decide) (by decide) rfl (by decide) ?_
          exact cs_6 C hLn (hP.2.2.2.2.2.2.2.2.1) hk hN hN2 hR K
        by_cases h7 : v = 7
        · refine U.tin (pc := 33) (x := v) (j := 7) (tgt := 479) C dL_law_33 h7 (by decide) (by decide) rfl (by decide) ?_
          exact cs_7 C hLn (hP.2.2.2.2.2.2.2.2.2.1) hk hN hN2 hR K
        by_cases h8 : v = 8
        · refine U.tin (pc := 33) (x := v) (j := 8) (tgt := 512) C dL_law_33 h8 (by decide) (by decide) rfl (by decide) ?_
          exact cs_8 C hLn (hP.2.2.2.2.2.2.2.2.2.2.1) hk hN hN2 hR K
        by_cases h9 : v = 9
        · refine U.tin (pc := 33) (x := v) (j := 9) (tgt := 545) C dL_law_33 h9 (by decide) (by decide) rfl (by decide) ?_
          exact cs_9 C hLn (hP.2.2.2.2.2.2.2.2.2.2.2.1) hk hN hN2 hR K
        by_cases h10 : v = 10
        · refine U.tin (pc := 33) (x := v) (j := 10) (tgt := 578) C dL_law_33 h10 (by decide) (by decide) rfl (by decide) ?_
          exact cs_10 C hLn (hP.2.2.2.2.2.2.2.2.2.2.2.2.1) hk hN hN2 hR K
        by_cases h11 : v = 11
        · refine U.tin (pc := 33) (x := v) (j := 11) (tgt := 601) C dL_law_33 h11 (by decide) (by decide) rfl (by decide) ?_
          exact cs_11 C hLn (hP.2.2.2.2.2.2.2.2.2.2.2.2.2.1) hk hN hN2 hR K
        by_cases h12 : v = 12
        · refine U.tin (pc := 33) (x := v) (j := 12) (tgt := 634) C dL_law_33 h12 (by decide) (by decide) rfl (by decide) ?_
          exact cs_12 C hLn (hP.2.2.2.2.2.2.2.2.2.2.2.2.2.2.1) hk hN hN2 hR K
        by_cases h13 : v = 13
        · refine U.tin (pc := 33) (x := v) (j := 13) (tgt := 667) C dL_law_33 h13 (by decide) (by decide) rfl (by decide) ?_
          exact cs_13 C hLn (hP.2.2.2.2.2.2.2.2.2.2.2.2.2.2.2.1) hk hN hN2 hR K
        by_cases h14 : v = 14
        · refine U.tin (pc := 33) (x := v) (j := 14) (tgt := 690) C dL_law_33 h14 (by decide) (by decide) rfl (by decide) ?_
          exact cs_14 C hLn (hP.2.2.2.2.2.2.2.2.2.2.2.2.2.2.2.2.1) hk hN hN2 hR K
        by_cases h15 : v = 15
        · refine U.tin (pc := 33) (x := v) (j := 15) (tgt := 713) C dL_law_33 h15 (by decide) (by decide) rfl (by decide) ?_
          exact cs_15 C hLn (hP.2.2.2.2.2.2.2.2.2.2.2.2.2.2.2.2.2.1) hk hN hN2 hR K
        by_cases h16 : v = 16
        · refine U.tin (pc := 33) (x := v) (j := 16) (tgt := 746) C dL_law_33 h16 (by decide) (by decide) rfl (by decide) ?_
          exact cs_16 C hLn (hP.2.2.2.2.2.2.2.2.2.2.2.2.2.2.2.2.2.2.1) hk hN hN2 hR K
        by_cases h17 : v = 17
        · refine U.tin (pc := 33) (x := v) (j := 17) (tgt := 769) C dL_law_33 h17 (by decide) (by decide) rfl (by decide) ?_
          exact cs_17 C hLn (hP.2.2.2.2.2.2.2.2.2.2.2.2.2.2.2.2.2.2.2.1) hk hN hN2 hR K
        by_cases h18 : v = 18
        · refine U.tin (pc := 33) (x := v) (j := 18) (tgt := 802) C dL_law_33 h18 (by decide) (by decide) rfl (by decide) ?_
          exact cs_18 C hLn (hP.2.2.2.2.2.2.2.2.2.2.2.2.2.2.2.2.2.2.2.2.1) hk hN hN2 hR K
        by_cases h19 : v = 19
        · refine U.tin (pc := 33) (x := v) (j := 19) (tgt := 825) C dL_law_33 h19 (by decide) (by decide) rfl (by decide) ?_
          exact cs_19 C hLn (hP.2.2.2.2.2.2.2.2.2.2.2.2.2.2.2.2.2.2.2.2.2.1) hk hN hN2 hR K
        by_cases h20 : v = 20
        · refine U.tin (pc := 33) (x := v) (j := 20) (tgt := 848) C dL_law_33 h20 (by decide) (by decide) rfl (by decide) ?_
          exact cs_20 C hLn (hP.2.2.2.2.2.2.2.2.2.2.2.2.2.2.2.2.2.2.2.2.2.2.1) hk hN hN2 hR K
        by_cases h21 : v = 21
        · refine U.tin (pc := 33) (x := v) (j := 21) (tgt := 871) C dL_law_33 h21 (by decide) (by decide) rfl (by decide) ?_
          exact cs_21 C hLn (hP.2.2.2.2.2.2.2.2.2.2.2.2.2.2.2.2.2.2.2.2.2.2.2.1) hk hN hN2 hR K
        by_cases h22 : v = 22
        · refine U.tin (pc := 33) (x := v) (j := 22) (tgt := 884) C dL_law_33 h22 (by decide) (by decide) rfl (by decide) ?_
          exact cs_22 C hLn (hP.2.2.2.2.2.2.2.2.2.2.2.2.2.2.2.2.2.2.2.2.2.2.2.2.1) hk hN hN2 hR K
        by_cases h23 : v = 23
        · refine U.tin (pc := 33) (x := v) (j := 23) (tgt := 897) C dL_law_33 h23 (by decide) (by decide) rfl (by decide) ?_
          exact cs_23 C hLn (hP.2.2.2.2.2.2.2.2.2.2.2.2.2.2.2.2.2.2.2.2.2.2.2.2.2.1) hk hN hN2 hR K
        by_cases h24 : v = 24
        · refine U.tin (pc := 33) (x := v) (j := 24) (tgt := 920) C dL_law_33 h24 (by decide) (by decide) rfl (by decide) ?_
          exact cs_24 C hLn (hP.2.2.2.2.2.2.2.2.2.2.2.2.2.2.2.2.2.2.2.2.2.2.2.2.2.2.1) hk hN hN2 hR K
        by_cases h25 : v = 25
        · refine U.tin (pc := 33) (x := v) (j := 25) (tgt := 953) C dL_law_33 h25 (by decide) (by decide) rfl (by decide) ?_
          exact cs_25 C hLn (hP.2.2.2.2.2.2.2.2.2.2.2.2.2.2.2.2.2.2.2.2.2.2.2.2.2.2.2.1) hk hN hN2 hR K
        by_cases h26 : v = 26
        · refine U.tin (pc := 33) (x := v) (j := 26) (tgt := 996) C dL_law_33 h26 (by decide) (by decide) rfl (by decide) ?_
          exact cs_26 C hLn (hP.2.2.2.2.2.2.2.2.2.2.2.2.2.2.2.2.2.2.2.2.2.2.2.2.2.2.2.2.1) hk hN hN2 hR K
        by_cases h27 : v = 27
        · refine U.tin (pc := 33) (x := v) (j := 27) (tgt := 1029) C dL_law_33 h27 (by decide) (by decide) rfl (by decide) ?_
          exact cs_27 C hLn (hP.2.2.2.2.2.2.2.2.2.2.2.2.2.2.2.2.2.2.2.2.2.2.2.2.2.2.2.2.2.1) hk hN hN2 hR K
        by_cases h28 : v = 28
        · refine U.tin (pc := 33) (x := v) (j := 28) (tgt := 1062) C dL_law_33 h28 (by decide) (by decide) rfl (by decide) ?_
          exact cs_28 C hLn (hP.2.2.2.2.2.2.2.2.2.2.2.2.2.2.2.2.2.2.2.2.2.2.2.2.2.2.2.2.2.2.1) hk hN hN2 hR K
        by_cases h29 : v = 29
        · refine U.tin (pc := 33) (x := v) (j := 29) (tgt := 1095) C dL_law_33 h29 (by decide) (by decide) rfl (by decide) ?_
          exact cs_29 C hLn (hP.2.2.2.2.2.2.2.2.2.2.2.2.2.2.2.2.2.2.2.2.2.2.2.2.2.2.2.2.2.2.2.1) hk hN hN2 hR K
        by_cases h30 : v = 30
        · refine U.tin (pc := 33) (x := v) (j := 30) (tgt := 1138) C dL_law_33 h30 (by decide) (by decide) rfl (by decide) ?_
          exact cs_30 C hLn (hP.2.2.2.2.2.2.2.2.2.2.2.2.2.2.2.2.2.2.2.2.2.2.2.2.2.2.2.2.2.2.2.2.1) hk hN hN2 hR K
        by_cases h31 : v = 31
        · refine U.tin (pc := 33) (x := v) (j := 31) (tgt := 1181) C dL_law_33 h31 (by decide) (by decide) rfl (by decide) ?_
          exact cs_31 C hLn (hP.2.2.2.2.2.2.2.2.2.2.2.2.2.2.2.2.2.2.2.2.2.2.2.2.2.2.2.2.2.2.2.2.2.1) hk hN hN2 hR K
        by_cases h32 : v = 32
        · refine U.tin (pc := 33) (x := v) (j := 32) (tgt := 1224) C dL_law_33 h32 (by decide) (by decide) rfl (by decide) ?_
          exact cs_32 C hLn (hP.2.2.2.2.2.2.2.2.2.2.2.2.2.2.2.2.2.2.2.2.2.2.2.2.2.2.2.2.2.2.2.2.2.2.1) hk hN hN2 hR K
        by_cases h33 : v = 33
        · refine U.tin (pc := 33) (x := v) (j := 33) (tgt := 1247) C dL_law_33 h33 (by decide) (by decide) rfl (by decide) ?_
          exact cs_33 C hLn (hP.2.2.2.2.2.2.2.2.2.2.2.2.2.2.2.2.2.2.2.2.2.2.2.2.2.2.2.2.2.2.2.2.2.2.2.1) hk hN hN2 hR K
        by_cases h34 : v = 34
        · refine U.tin (pc := 33) (x := v) (j := 34) (tgt := 1280) C dL_law_33 h34 (by decide) (by decide) rfl (by decide) ?_
          exact cs_34 C hLn (hP.2.2.2.2.2.2.2.2.2.2.2.2.2.2.2.2.2.2.2.2.2.2.2.2.2.2.2.2.2.2.2.2.2.2.2.2.1) hk hN hN2 hR K
        by_cases h35 : v = 35
        · refine U.tin (pc := 33) (x := v) (j := 35) (tgt := 1313) C dL_law_33 h35 (by decide) (by decide) rfl (by decide) ?_
          exact cs_35 C hLn (hP.2.2.2.2.2.2.2.2.2.2.2.2.2.2.2.2.2.2.2.2.2.2.2.2.2.2.2.2.2.2.2.2.2.2.2.2.2.1) hk hN hN2 hR K
        by_cases h36 : v = 36
        · refine U.tin (pc := 33) (x := v) (j := 36) (tgt := 1346) C dL_law_33 h36 (by decide) (by decide) rfl (by decide) ?_
          exact cs_36 C hLn (hP.2.2.2.2.2.2.2.2.2.2.2.2.2.2.2.2.2.2.2.2.2.2.2.2.2.2.2.2.2.2.2.2.2.2.2.2.2.2.1) hk hN hN2 hR K
        by_cases h37 : v = 37
        · refine U.tin (pc := 33) (x := v) (j := 37) (tgt := 1379) C dL_law_33 h37 (by decide) (by decide) rfl (by decide) ?_
          exact cs_37 C hLn (hP.2.2.2.2.2.2.2.2.2.2.2.2.2.2.2.2.2.2.2.2.2.2.2.2.2.2.2.2.2.2.2.2.2.2.2.2.2.2.2.1) hk hN hN2 hR K
        by_cases h38 : v = 38
        · refine U.tin (pc := 33) (x := v) (j := 38) (tgt := 1392) C dL_law_33 h38 (by decide) (by decide) rfl (by decide) ?_
          exact cs_38 C hLn (hP.2.2.2.2.2.2.2.2.2.2.2.2.2.2.2.2.2.2.2.2.2.2.2.2.2.2.2.2.2.2.2.2.2.2.2.2.2.2.2.2.1) hk hN hN2 hR K
        by_cases h39 : v = 39
        · refine U.tin (pc := 33) (x := v) (j := 39) (tgt := 1405) C dL_law_33 h39 (by decide) (by decide) rfl (by decide) ?_
          exact cs_39 C hLn (hP.2.2.2.2.2.2.2.2.2.2.2.2.2.2.2.2.2.2.2.2.2.2.2.2.2.2.2.2.2.2.2.2.2.2.2.2.2.2.2.2.2.1) hk hN hN2 hR K
        by_cases h40 : v = 40
        · refine U.tin (pc := 33) (x := v) (j := 40) (tgt := 1448) C dL_law_33 h40 (by decide) (by decide) rfl (by decide) ?_
          exact cs_40 C hLn (hP.2.2.2.2.2.2.2.2.2.2.2.2.2.2.2.2.2.2.2.2.2.2.2.2.2.2.2.2.2.2.2.2.2.2.2.2.2.2.2.2.2.2.1) hk hN hN2 hR K
        by_cases h41 : v = 41
        · refine U.tin (pc := 33) (x := v) (j := 41) (tgt := 1522) C dL_law_33 h41 (by decide) (by decide) rfl (by decide) ?_
          exact cs_41 C hLn (hP.2.2.2.2.2.2.2.2.2.2.2.2.2.2.2.2.2.2.2.2.2.2.2.2.2.2.2.2.2.2.2.2.2.2.2.2.2.2.2.2.2.2.2.1) hk hN hN2 hR K
        by_cases h42 : v = 42
        · refine U.tin (pc := 33) (x := v) (j := 42) (tgt := 1545) C dL_law_33 h42 (by decide) (by decide) rfl (by decide) ?_
          exact cs_42 C hLn (hP.2.2.2.2.2.2.2.2.2.2.2.2.2.2.2.2.2.2.2.2.2.2.2.2.2.2.2.2.2.2.2.2.2.2.2.2.2.2.2.2.2.2.2.2.1) hk hN hN2 hR K
        by_cases h43 : v = 43
        · refine U.tin (pc := 33) (x := v) (j := 43) (tgt := 1568) C dL_law_33 h43 (by decide) (by decide) rfl (by decide) ?_
          exact cs_43 C hLn (hP.2.2.2.2.2.2.2.2.2.2.2.2.2.2.2.2.2.2.2.2.2.2.2.2.2.2.2.2.2.2.2.2.2.2.2.2.2.2.2.2.2.2.2.2.2.1) hk hN hN2 hR K
        by_cases h44 : v = 44
        · refine U.tin (pc := 33) (x := v) (j := 44) (tgt := 1591) C dL_law_33 h44 (by decide) (by decide) rfl (by decide) ?_
          exact cs_44 C hLn (hP.2.2.2.2.2.2.2.2.2.2.2.2.2.2.2.2.2.2.2.2.2.2.2.2.2.2.2.2.2.2.2.2.2.2.2.2.2.2.2.2.2.2.2.2.2.2) hk hN hN2 hR K
        have g0 := lv_neT h0 (show (0 : Int32).toInt = 0 from by decide)
        have g1 := lv_neT h1 (show (1 : Int32).toInt = 1 from by decide)
        have g2 := lv_neT h2 (show (2 : Int32).toInt = 2 from by decide)
        have g3 := lv_neT h3 (show (3 : Int32).toInt = 3 from by decide)
        have g4 := lv_neT h4 (show (4 : Int32).toInt = 4 from by decide)
        have g5 := lv_neT h5 (show (5 : Int32).toInt = 5 from by decide)
        have g6 := lv_neT h6 (show (6 : Int32).toInt = 6 from by decide)
        have g7 := lv_neT h7 (show (7 : Int32).toInt = 7 from by decide)
        have g8 := lv_neT h8 (show (8 : Int32).toInt = 8 from by decide)
        have g9 := lv_neT h9 (show (9 : Int32).toInt = 9 from by decide)
        have g10 := lv_neT h10 (show (10 : Int32).toInt = 10 from by decide)
        have g11 := lv_neT h11 (show (11 : Int32).toInt = 11 from by decide)
        have g12 := lv_neT h12 (show (12 : Int32).toInt = 12 from by decide)
        have g13 := lv_neT h13 (show (13 : Int32).toInt = 13 from by decide)
        have g14 := lv_neT h14 (show (14 : Int32).toInt = 14 from by decide)
        have g15 := lv_neT h15 (show (15 : Int32).toInt = 15 from by decide)
        have g16 := lv_neT h16 (show (16 : Int32).toInt = 16 from by decide)
        have g17 := lv_neT h17 (show (17 : Int32).toInt = 17 from by decide)
        have g18 := lv_neT h18 (show (18 : Int32).toInt = 18 from by decide)
        have g19 := lv_neT h19 (show (19 : Int32).toInt = 19 from by decide)
        have g20 := lv_neT h20 (show (20 : Int32).toInt = 20 from by decide)
        have g21 := lv_neT h21 (show (21 : Int32).toInt = 21 from by decide)
        have g22 := lv_neT h22 (show (22 : Int32).toInt = 22 from by decide)
        have g23 := lv_neT h23 (show (23 : Int32).toInt = 23 from by decide)
        have g24 := lv_neT h24 (show (24 : Int32).toInt = 24 from by decide)
        have g25 := lv_neT h25 (show (25 : Int32).toInt = 25 from by decide)
        have g26 := lv_neT h26 (show (26 : Int32).toInt = 26 from by decide)
        have g27 := lv_neT h27 (show (27 : Int32).toInt = 27 from by decide)
        have g28 := lv_neT h28 (show (28 : Int32).toInt = 28 from by decide)
        have g29 := lv_neT h29 (show (29 : Int32).toInt = 29 from by decide)
        have g30 := lv_neT h30 (show (30 : Int32).toInt = 30 from by decide)
        have g31 := lv_neT h31 (show (31 : Int32).toInt = 31 from by decide)
        have g32 := lv_neT h32 (show (32 : Int32).toInt = 32 from by decide)
        have g33 := lv_neT h33 (show (33 : Int32).toInt = 33 from by decide)
        have g34 := lv_neT h34 (show (34 : Int32).toInt = 34 from by decide)
        have g35 := lv_neT h35 (show (35 : Int32).toInt = 35 from by decide)
        have g36 := lv_neT h36 (show (36 : Int32).toInt = 36 from by decide)
        have g37 := lv_neT h37 (show (37 : Int32).toInt = 37 from by decide)
        have g38 := lv_neT h38 (show (38 : Int32).toInt = 38 from by decide)
        have g39 := lv_neT h39 (show (39 : Int32).toInt = 39 from by decide)
        have g40 := lv_neT h40 (show (40 : Int32).toInt = 40 from by decide)
        have g41 := lv_neT h41 (show (41 : Int32).toInt = 41 from by decide)
        have g42 := lv_neT h42 (show (42 : Int32).toInt = 42 from by decide)
        have g43 := lv_neT h43 (show (43 : Int32).toInt = 43 from by decide)
        have g44 := lv_neT h44 (show (44 : Int32).toInt = 44 from by decide)
        refine U.tout (pc := 33) (x := v) (tgt := 1614) C dL_law_33 (by omega) (by decide) ?_
        exact K N mx mm (hP.2.1 k N mx mm hR)
    · refine U.igtT (pc := 24) C dL_law_24 1620 (by decide) ?_ ?_
      · apply Int32.lt_iff_toInt_lt.mpr
        show (nI Ln - nI 6).toInt < (nI (6 * k)).toInt
        rw [el, ek]
        omega
      · refine U.iconst (pc := 1620) C dL_law_1620 (v := 1) (by decide) ?_
        exact U.ret1 C (by omega) dL_law_1621
