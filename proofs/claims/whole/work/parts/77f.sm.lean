def y_M_readRest (sn : Nat) (sx : Nat → Int32) (X : List am_C) (q : Nat × Nat) (tl : List am_C) (E : ThT) (G : RtT) (A : PaT) (U : UnT) (Y : LiT) (K : KeT) (H : HlT) (oo : am_O) : Int32 × PoT × NuT → Prop
  | (ov, oQ, oN) => oo = (.inl (some (.int ov)), (zl sn sx, X, xr E G oQ oN A U Y K H tl, q))
def x_M_readRest_79 (sn : Nat) (sx : Nat → Int32) (X : List am_C) (q : Nat × Nat) (tl : List am_C) (E : ThT) (G : RtT) (N : NuT) (A : PaT) (U : UnT) (Y : LiT) (K : KeT) (H : HlT) (oo : am_O) : (Int32 × PoT) → Prop
  | (x2, Q) => am_ev 3 k_M_readRest (153, [.ref 1000, am_ju, .int x2, am_ju, am_ju, am_ju], [], (zl sn sx, X, xr E G Q N A U Y K H tl, q)) oo
theorem sj_M_readRest_248 {fu : Nat} {sn : Nat} {sx : Nat → Int32} {X : List am_C} {q : Nat × Nat} {tl : List am_C} {E : ThT} {G : RtT} {Q : PoT} {N : NuT} {A : PaT} {U : UnT} {Y : LiT} {K : KeT} {H : HlT} {x2 : Int32} {oo : am_O} {e : Int32 × PoT × NuT} (hx : y_M_readRest sn sx X q tl E G A U Y K H oo e) (hM : j_M_readRest_248 fu G Q N x2 = some e) : am_ev 3 k_M_readRest (248, [.ref 1000, am_ju, .int x2, am_ju, am_ju, am_ju], [], (zl sn sx, X, xr E G Q N A U Y K H tl, q)) oo := by
  unfold j_M_readRest_248 at hM
  obtain ⟨rr, hc, hM⟩ := am_bind hM
  obtain ⟨r10, rfl⟩ : ∃ z, z = rr := ⟨_, rfl⟩
  refine am_ev.kg 2 (pc' := 250) (lv' := [.ref 1000, am_ju, .int x2, am_ju, am_ju, am_ju]) (st' := [.int x2, .ref 1000]) (h' := (zl sn sx, X, xr E G Q N A U Y K H tl, q)) (fun _ _ => rfl) ?_
  refine am_ev.call rfl rfl rfl ((s_M_sign hc).mono (by decide)) ?_
  show am_ev _ k_M_readRest (253, [.ref 1000, am_ju, .int x2, am_ju, am_ju, am_ju], [.int r10], (zl sn sx, X, xr E G Q N A U Y K H tl, q)) oo
  rcases am_if hM with ⟨c1, hM⟩ | ⟨c1, hM⟩
  · refine am_ev.kt 2 260 258 [.ref 1000, am_ju, .int x2, am_ju, am_ju, am_ju] [] (zl sn sx, X, xr E G Q N A U Y K H tl, q) c1 (fun _ _ => rfl) ?_
    obtain ⟨rr, hc, hM⟩ := am_bind hM
    obtain ⟨r11, rfl⟩ : ∃ z, z = rr := ⟨_, rfl⟩
    refine am_ev.kg 5 (pc' := 265) (lv' := [.ref 1000, am_ju, .int x2, am_ju, am_ju, am_ju]) (st' := [.int (x2 + (1 : Int32)), .ref 1000, .ref 1000]) (h' := (zl sn sx, X, xr E G Q N A U Y K H tl, q)) (fun _ _ => rfl) ?_
    refine am_ev.call rfl rfl rfl ((s_M_numberAt hc).mono (by decide)) ?_
    show am_ev _ k_M_readRest (268, [.ref 1000, am_ju, .int x2, am_ju, am_ju, am_ju], [.int r11, .ref 1000], (zl sn sx, X, xr E G Q N A U Y K H tl, q)) oo
    rcases am_if hM with ⟨c2, hM⟩ | ⟨c2, hM⟩
    · refine am_ev.kt 4 280 278 [.ref 1000, am_ju, .int x2, am_ju, am_ju, am_ju] [] (zl sn sx, X, xr E G ((po_men Q), (po_side Q), (po_rights Q), (po_passed Q), r11) N A U Y K H tl, q) c2 (fun _ _ => rfl) ?_
      obtain ⟨rr, hc, hM⟩ := am_bind hM
      obtain ⟨r12, rfl⟩ : ∃ z, z = rr := ⟨_, rfl⟩
      refine am_ev.kg 5 (pc' := 287) (lv' := [.ref 1000, am_ju, .int x2, am_ju, am_ju, am_ju]) (st' := [.int r11, .int (x2 + (1 : Int32))]) (h' := (zl sn sx, X, xr E G ((po_men Q), (po_side Q), (po_rights Q), (po_passed Q), r11) N A U Y K H tl, q)) (fun _ _ => rfl) ?_
      refine am_ev.call rfl rfl rfl ((s_M_lengthOf hc).mono (by decide)) ?_
      show am_ev _ k_M_readRest (290, [.ref 1000, am_ju, .int x2, am_ju, am_ju, am_ju], [.int r12, .int (x2 + (1 : Int32))], (zl sn sx, X, xr E G ((po_men Q), (po_side Q), (po_rights Q), (po_passed Q), r11) N A U Y K H tl, q)) oo
      obtain ⟨rr, hc, hM⟩ := am_bind hM
      obtain ⟨r13, rfl⟩ : ∃ z, z = rr := ⟨_, rfl⟩
      refine am_ev.kg 4 (pc' := 294) (lv' := [.ref 1000, am_ju, .int ((x2 + (1 : Int32)) + r12), am_ju, am_ju, am_ju]) (st' := [.int ((x2 + (1 : Int32)) + r12), .ref 1000]) (h' := (zl sn sx, X, xr E G ((po_men Q), (po_side Q), (po_rights Q), (po_passed Q), r11) N A U Y K H tl, q)) (fun _ _ => rfl) ?_
      refine am_ev.call rfl rfl rfl ((s_M_sign hc).mono (by decide)) ?_
      show am_ev _ k_M_readRest (297, [.ref 1000, am_ju, .int ((x2 + (1 : Int32)) + r12), am_ju, am_ju, am_ju], [.int r13], (zl sn sx, X, xr E G ((po_men Q), (po_side Q), (po_rights Q), (po_passed Q), r11) N A U Y K H tl, q)) oo
      rcases am_if hM with ⟨c3, hM⟩ | ⟨c3, hM⟩
      · refine am_ev.kt 2 304 302 [.ref 1000, am_ju, .int ((x2 + (1 : Int32)) + r12), am_ju, am_ju, am_ju] [] (zl sn sx, X, xr E G ((po_men Q), (po_side Q), (po_rights Q), (po_passed Q), r11) N A U Y K H tl, q) c3 (fun _ _ => rfl) ?_
        obtain ⟨rr, hc, hM⟩ := am_bind hM
        obtain ⟨r14, rfl⟩ : ∃ z, z = rr := ⟨_, rfl⟩
        refine am_ev.kg 5 (pc' := 309) (lv' := [.ref 1000, am_ju, .int ((x2 + (1 : Int32)) + r12), am_ju, am_ju, am_ju]) (st' := [.int (((x2 + (1 : Int32)) + r12) + (1 : Int32)), .ref 1000, .ref 1000]) (h' := (zl sn sx, X, xr E G ((po_men Q), (po_side Q), (po_rights Q), (po_passed Q), r11) N A U Y K H tl, q)) (fun _ _ => rfl) ?_
        refine am_ev.call rfl rfl rfl ((s_M_numberAt hc).mono (by decide)) ?_
        show am_ev _ k_M_readRest (312, [.ref 1000, am_ju, .int ((x2 + (1 : Int32)) + r12), am_ju, am_ju, am_ju], [.int r14, .ref 1000], (zl sn sx, X, xr E G ((po_men Q), (po_side Q), (po_rights Q), (po_passed Q), r11) N A U Y K H tl, q)) oo
        rcases am_if hM with ⟨c4, hM⟩ | ⟨c4, hM⟩
        · refine am_ev.kt 4 344 322 [.ref 1000, am_ju, .int ((x2 + (1 : Int32)) + r12), am_ju, am_ju, am_ju] [] (zl sn sx, X, xr E G ((po_men Q), (po_side Q), (po_rights Q), (po_passed Q), r11) r14 A U Y K H tl, q) c4 (fun _ _ => rfl) ?_
          cases hM
          cases hx
          exact am_ev.kf 2 (fun _ _ => rfl)
        · refine am_ev.ke 4 344 322 [.ref 1000, am_ju, .int ((x2 + (1 : Int32)) + r12), am_ju, am_ju, am_ju] [] (zl sn sx, X, xr E G ((po_men Q), (po_side Q), (po_rights Q), (po_passed Q), r11) r14 A U Y K H tl, q) c4 (fun _ _ => rfl) ?_
          obtain ⟨rr, hc, hM⟩ := am_bind hM
          obtain ⟨r15, rfl⟩ : ∃ z, z = rr := ⟨_, rfl⟩
          refine am_ev.kg 5 (pc' := 329) (lv' := [.ref 1000, am_ju, .int ((x2 + (1 : Int32)) + r12), am_ju, am_ju, am_ju]) (st' := [.int r14, .int (((x2 + (1 : Int32)) + r12) + (1 : Int32))]) (h' := (zl sn sx, X, xr E G ((po_men Q), (po_side Q), (po_rights Q), (po_passed Q), r11) r14 A U Y K H tl, q)) (fun _ _ => rfl) ?_
          refine am_ev.call rfl rfl rfl ((s_M_lengthOf hc).mono (by decide)) ?_
          show am_ev _ k_M_readRest (332, [.ref 1000, am_ju, .int ((x2 + (1 : Int32)) + r12), am_ju, am_ju, am_ju], [.int r15, .int (((x2 + (1 : Int32)) + r12) + (1 : Int32))], (zl sn sx, X, xr E G ((po_men Q), (po_side Q), (po_rights Q), (po_passed Q), r11) r14 A U Y K H tl, q)) oo
          rcases am_if hM with ⟨c5, hM⟩ | ⟨c5, hM⟩
          · refine am_ev.kt 4 344 340 [.ref 1000, am_ju, .int ((x2 + (1 : Int32)) + r12), am_ju, am_ju, am_ju] [] (zl sn sx, X, xr E G ((po_men Q), (po_side Q), (po_rights Q), (po_passed Q), r11) r14 A U Y K H tl, q) c5 (fun _ _ => rfl) ?_
            cases hM
            cases hx
            exact am_ev.kf 2 (fun _ _ => rfl)
          · refine am_ev.ke 4 344 340 [.ref 1000, am_ju, .int ((x2 + (1 : Int32)) + r12), am_ju, am_ju, am_ju] [] (zl sn sx, X, xr E G ((po_men Q), (po_side Q), (po_rights Q), (po_passed Q), r11) r14 A U Y K H tl, q) c5 (fun _ _ => rfl) ?_
            cases hM
            cases hx
            exact am_ev.kf 3 (fun _ _ => rfl)
      · refine am_ev.ke 2 304 302 [.ref 1000, am_ju, .int ((x2 + (1 : Int32)) + r12), am_ju, am_ju, am_ju] [] (zl sn sx, X, xr E G ((po_men Q), (po_side Q), (po_rights Q), (po_passed Q), r11) N A U Y K H tl, q) c3 (fun _ _ => rfl) ?_
        cases hM
        cases hx
        exact am_ev.kf 2 (fun _ _ => rfl)
    · refine am_ev.ke 4 280 278 [.ref 1000, am_ju, .int x2, am_ju, am_ju, am_ju] [] (zl sn sx, X, xr E G ((po_men Q), (po_side Q), (po_rights Q), (po_passed Q), r11) N A U Y K H tl, q) c2 (fun _ _ => rfl) ?_
      cases hM
      cases hx
      exact am_ev.kf 2 (fun _ _ => rfl)
  · refine am_ev.ke 2 260 258 [.ref 1000, am_ju, .int x2, am_ju, am_ju, am_ju] [] (zl sn sx, X, xr E G Q N A U Y K H tl, q) c1 (fun _ _ => rfl) ?_
    cases hM
    cases hx
    exact am_ev.kf 2 (fun _ _ => rfl)
theorem sj_M_readRest_147 {fu : Nat} {sn : Nat} {sx : Nat → Int32} {X : List am_C} {q : Nat × Nat} {tl : List am_C} {E : ThT} {G : RtT} {Q : PoT} {N : NuT} {A : PaT} {U : UnT} {Y : LiT} {K : KeT} {H : HlT} {x2 : Int32} {x4 : Int32} {oo : am_O} {e : (Int32 × PoT)} {gg : Int32 → Int32 → PoT → Option ((Int32 × PoT))} (hx : x_M_readRest_79 sn sx X q tl E G N A U Y K H oo e) (hg : ∀ (x2 : Int32) (x4 : Int32) (Q : PoT), gg x2 x4 Q = some e → am_ev 3 k_M_readRest (79, [.ref 1000, am_ju, .int x2, am_ju, .int x4, am_ju], [], (zl sn sx, X, xr E G Q N A U Y K H tl, q)) oo) (hM : j_M_readRest_147 fu gg G Q N x2 x4 = some e) : am_ev 3 k_M_readRest (147, [.ref 1000, am_ju, .int x2, am_ju, .int x4, am_ju], [], (zl sn sx, X, xr E G Q N A U Y K H tl, q)) oo := by
  unfold j_M_readRest_147 at hM
  refine am_ev.kg 2 (pc' := 79) (lv' := [.ref 1000, am_ju, .int x2, am_ju, .int (x4 + (1 : Int32)), am_ju]) (st' := []) (h' := (zl sn sx, X, xr E G Q N A U Y K H tl, q)) (fun _ _ => rfl) ?_
  exact hg _ _ _ hM
theorem sj_M_readRest_162 {fu : Nat} {sn : Nat} {sx : Nat → Int32} {X : List am_C} {q : Nat × Nat} {tl : List am_C} {E : ThT} {G : RtT} {Q : PoT} {N : NuT} {A : PaT} {U : UnT} {Y : LiT} {K : KeT} {H : HlT} {x2 : Int32} {oo : am_O} {e : Int32 × PoT × NuT} (hx : y_M_readRest sn sx X q tl E G A U Y K H oo e) (hM : j_M_readRest_162 fu G Q N x2 = some e) : am_ev 3 k_M_readRest (162, [.ref 1000, am_ju, .int x2, am_ju, am_ju, am_ju], [], (zl sn sx, X, xr E G Q N A U Y K H tl, q)) oo := by
  unfold j_M_readRest_162 at hM
  obtain ⟨rr, hc, hM⟩ := am_bind hM
  obtain ⟨r4, rfl⟩ : ∃ z, z = rr := ⟨_, rfl⟩
  refine am_ev.kg 2 (pc' := 164) (lv' := [.ref 1000, am_ju, .int x2, am_ju, am_ju, am_ju]) (st' := [.int x2, .ref 1000]) (h' := (zl sn sx, X, xr E G Q N A U Y K H tl, q)) (fun _ _ => rfl) ?_
  refine am_ev.call rfl rfl rfl ((s_M_sign hc).mono (by decide)) ?_
  show am_ev _ k_M_readRest (167, [.ref 1000, am_ju, .int x2, am_ju, am_ju, am_ju], [.int r4], (zl sn sx, X, xr E G Q N A U Y K H tl, q)) oo
  rcases am_if hM with ⟨c6, hM⟩ | ⟨c6, hM⟩
  · refine am_ev.kt 2 174 172 [.ref 1000, am_ju, .int x2, am_ju, am_ju, am_ju] [] (zl sn sx, X, xr E G Q N A U Y K H tl, q) c6 (fun _ _ => rfl) ?_
    obtain ⟨rr, hc, hM⟩ := am_bind hM
    obtain ⟨r5, rfl⟩ : ∃ z, z = rr := ⟨_, rfl⟩
    refine am_ev.kg 6 (pc' := 184) (lv' := [.ref 1000, am_ju, .int (x2 + (1 : Int32)), am_ju, am_ju, am_ju]) (st' := [.int (x2 + (1 : Int32)), .ref 1000]) (h' := (zl sn sx, X, xr E G ((po_men Q), (po_side Q), (po_rights Q), (-1 : Int32), (po_clock Q)) N A U Y K H tl, q)) (fun _ _ => rfl) ?_
    refine am_ev.call rfl rfl rfl ((s_M_sign hc).mono (by decide)) ?_
    show am_ev _ k_M_readRest (187, [.ref 1000, am_ju, .int (x2 + (1 : Int32)), am_ju, am_ju, am_ju], [.int r5], (zl sn sx, X, xr E G ((po_men Q), (po_side Q), (po_rights Q), (-1 : Int32), (po_clock Q)) N A U Y K H tl, q)) oo
    rcases am_if hM with ⟨c7, hM⟩ | ⟨c7, hM⟩
    · refine am_ev.kt 2 198 192 [.ref 1000, am_ju, .int (x2 + (1 : Int32)), am_ju, am_ju, am_ju] [] (zl sn sx, X, xr E G ((po_men Q), (po_side Q), (po_rights Q), (-1 : Int32), (po_clock Q)) N A U Y K H tl, q) c7 (fun _ _ => rfl) ?_
      obtain ⟨rr, hc, hM⟩ := am_bind hM
      obtain ⟨r6, rfl⟩ : ∃ z, z = rr := ⟨_, rfl⟩
      refine am_ev.kg 2 (pc' := 200) (lv' := [.ref 1000, am_ju, .int (x2 + (1 : Int32)), am_ju, am_ju, am_ju]) (st' := [.int (x2 + (1 : Int32)), .ref 1000]) (h' := (zl sn sx, X, xr E G ((po_men Q), (po_side Q), (po_rights Q), (-1 : Int32), (po_clock Q)) N A U Y K H tl, q)) (fun _ _ => rfl) ?_
      refine am_ev.call rfl rfl rfl ((s_M_sign hc).mono (by decide)) ?_
      show am_ev _ k_M_readRest (203, [.ref 1000, am_ju, .int (x2 + (1 : Int32)), am_ju, am_ju, am_ju], [.int r6], (zl sn sx, X, xr E G ((po_men Q), (po_side Q), (po_rights Q), (-1 : Int32), (po_clock Q)) N A U Y K H tl, q)) oo
      obtain ⟨rr, hc, hM⟩ := am_bind hM
      obtain ⟨r7, rfl⟩ : ∃ z, z = rr := ⟨_, rfl⟩
      refine am_ev.kg 7 (pc' := 212) (lv' := [.ref 1000, am_ju, .int (x2 + (1 : Int32)), am_ju, .int (r6 - (97 : Int32)), am_ju]) (st' := [.int ((x2 + (1 : Int32)) + (1 : Int32)), .ref 1000]) (h' := (zl sn sx, X, xr E G ((po_men Q), (po_side Q), (po_rights Q), (-1 : Int32), (po_clock Q)) N A U Y K H tl, q)) (fun _ _ => rfl) ?_
      refine am_ev.call rfl rfl rfl ((s_M_sign hc).mono (by decide)) ?_
      show am_ev _ k_M_readRest (215, [.ref 1000, am_ju, .int (x2 + (1 : Int32)), am_ju, .int (r6 - (97 : Int32)), am_ju], [.int r7], (zl sn sx, X, xr E G ((po_men Q), (po_side Q), (po_rights Q), (-1 : Int32), (po_clock Q)) N A U Y K H tl, q)) oo
      obtain ⟨rr, hc, hM⟩ := am_bind hM
      obtain ⟨r8, rfl⟩ : ∃ z, z = rr := ⟨_, rfl⟩
      refine am_ev.kg 5 (pc' := 224) (lv' := [.ref 1000, am_ju, .int (x2 + (1 : Int32)), am_ju, .int (r6 - (97 : Int32)), .int (r7 - (49 : Int32))]) (st' := [.int (r7 - (49 : Int32)), .int (r6 - (97 : Int32))]) (h' := (zl sn sx, X, xr E G ((po_men Q), (po_side Q), (po_rights Q), (-1 : Int32), (po_clock Q)) N A U Y K H tl, q)) (fun _ _ => rfl) ?_
      refine am_ev.call rfl rfl rfl ((s_M_isOn hc).mono (by decide)) ?_
      show am_ev _ k_M_readRest (227, [.ref 1000, am_ju, .int (x2 + (1 : Int32)), am_ju, .int (r6 - (97 : Int32)), .int (r7 - (49 : Int32))], [.int r8], (zl sn sx, X, xr E G ((po_men Q), (po_side Q), (po_rights Q), (-1 : Int32), (po_clock Q)) N A U Y K H tl, q)) oo
      rcases am_if hM with ⟨c8, hM⟩ | ⟨c8, hM⟩
      · refine am_ev.kt 1 232 230 [.ref 1000, am_ju, .int (x2 + (1 : Int32)), am_ju, .int (r6 - (97 : Int32)), .int (r7 - (49 : Int32))] [] (zl sn sx, X, xr E G ((po_men Q), (po_side Q), (po_rights Q), (-1 : Int32), (po_clock Q)) N A U Y K H tl, q) c8 (fun _ _ => rfl) ?_
        refine am_ev.kg 11 (pc' := 248) (lv' := [.ref 1000, am_ju, .int ((x2 + (1 : Int32)) + (2 : Int32)), am_ju, .int (r6 - (97 : Int32)), .int (r7 - (49 : Int32))]) (st' := []) (h' := (zl sn sx, X, xr E G ((po_men Q), (po_side Q), (po_rights Q), (((8 : Int32) * (r7 - (49 : Int32))) + (r6 - (97 : Int32))), (po_clock Q)) N A U Y K H tl, q)) (fun _ _ => rfl) ?_
        refine am_ev.wk (lv' := [.ref 1000, am_ju, .int ((x2 + (1 : Int32)) + (2 : Int32)), am_ju, am_ju, am_ju]) (am_lc (Or.inr rfl) (am_lc (Or.inr rfl) (am_lc (Or.inr rfl) (am_lc (Or.inr rfl) (am_lc (Or.inl rfl) (am_lc (Or.inl rfl) am_ln)))))) ?_
        exact sj_M_readRest_248 hx hM
      · refine am_ev.ke 1 232 230 [.ref 1000, am_ju, .int (x2 + (1 : Int32)), am_ju, .int (r6 - (97 : Int32)), .int (r7 - (49 : Int32))] [] (zl sn sx, X, xr E G ((po_men Q), (po_side Q), (po_rights Q), (-1 : Int32), (po_clock Q)) N A U Y K H tl, q) c8 (fun _ _ => rfl) ?_
        cases hM
        cases hx
        exact am_ev.kf 2 (fun _ _ => rfl)
    · refine am_ev.ke 2 198 192 [.ref 1000, am_ju, .int (x2 + (1 : Int32)), am_ju, am_ju, am_ju] [] (zl sn sx, X, xr E G ((po_men Q), (po_side Q), (po_rights Q), (-1 : Int32), (po_clock Q)) N A U Y K H tl, q) c7 (fun _ _ => rfl) ?_
      refine am_ev.kg 2 (pc' := 248) (lv' := [.ref 1000, am_ju, .int ((x2 + (1 : Int32)) + (1 : Int32)), am_ju, am_ju, am_ju]) (st' := []) (h' := (zl sn sx, X, xr E G ((po_men Q), (po_side Q), (po_rights Q), (-1 : Int32), (po_clock Q)) N A U Y K H tl, q)) (fun _ _ => rfl) ?_
      exact sj_M_readRest_248 hx hM
  · refine am_ev.ke 2 174 172 [.ref 1000, am_ju, .int x2, am_ju, am_ju, am_ju] [] (zl sn sx, X, xr E G Q N A U Y K H tl, q) c6 (fun _ _ => rfl) ?_
    cases hM
    cases hx
    exact am_ev.kf 2 (fun _ _ => rfl)
theorem sj_M_readRest_153 {fu : Nat} {sn : Nat} {sx : Nat → Int32} {X : List am_C} {q : Nat × Nat} {tl : List am_C} {E : ThT} {G : RtT} {Q : PoT} {N : NuT} {A : PaT} {U : UnT} {Y : LiT} {K : KeT} {H : HlT} {x2 : Int32} {oo : am_O} {e : Int32 × PoT × NuT} (hx : y_M_readRest sn sx X q tl E G A U Y K H oo e) (hM : j_M_readRest_153 fu G Q N x2 = some e) : am_ev 3 k_M_readRest (153, [.ref 1000, am_ju, .int x2, am_ju, am_ju, am_ju], [], (zl sn sx, X, xr E G Q N A U Y K H tl, q)) oo := by
  unfold j_M_readRest_153 at hM
  rcases am_if hM with ⟨c9, hM⟩ | ⟨c9, hM⟩
  · refine am_ev.kt 3 162 160 [.ref 1000, am_ju, .int x2, am_ju, am_ju, am_ju] [] (zl sn sx, X, xr E G Q N A U Y K H tl, q) c9 (fun _ _ => rfl) ?_
    exact sj_M_readRest_162 hx hM
  · refine am_ev.ke 3 162 160 [.ref 1000, am_ju, .int x2, am_ju, am_ju, am_ju] [] (zl sn sx, X, xr E G Q N A U Y K H tl, q) c9 (fun _ _ => rfl) ?_
    cases hM
    cases hx
    exact am_ev.kf 2 (fun _ _ => rfl)
theorem sj_M_readRest_119 {fu : Nat} {sn : Nat} {sx : Nat → Int32} {X : List am_C} {q : Nat × Nat} {tl : List am_C} {E : ThT} {G : RtT} {Q : PoT} {N : NuT} {A : PaT} {U : UnT} {Y : LiT} {K : KeT} {H : HlT} {x2 : Int32} {x4 : Int32} {s0 : Int32} {oo : am_O} {e : (Int32 × PoT)} {gg : Int32 → Int32 → PoT → Option ((Int32 × PoT))} (hx : x_M_readRest_79 sn sx X q tl E G N A U Y K H oo e) (hg : ∀ (x2 : Int32) (x4 : Int32) (Q : PoT), gg x2 x4 Q = some e → am_ev 3 k_M_readRest (79, [.ref 1000, am_ju, .int x2, am_ju, .int x4, am_ju], [], (zl sn sx, X, xr E G Q N A U Y K H tl, q)) oo) (hM : j_M_readRest_119 fu gg G Q N x2 x4 s0 = some e) : am_ev 3 k_M_readRest (119, [.ref 1000, am_ju, .int x2, am_ju, .int x4, am_ju], [.int s0], (zl sn sx, X, xr E G Q N A U Y K H tl, q)) oo := by
  unfold j_M_readRest_119 at hM
  obtain ⟨rr, hc, hM⟩ := am_bind hM
  obtain ⟨r9, rfl⟩ : ∃ z, z = rr := ⟨_, rfl⟩
  refine am_ev.kg 3 (pc' := 123) (lv' := [.ref 1000, am_ju, .int x2, am_ju, .int x4, .int s0]) (st' := [.int x2, .ref 1000]) (h' := (zl sn sx, X, xr E G Q N A U Y K H tl, q)) (fun _ _ => rfl) ?_
  refine am_ev.call rfl rfl rfl ((s_M_sign hc).mono (by decide)) ?_
  show am_ev _ k_M_readRest (126, [.ref 1000, am_ju, .int x2, am_ju, .int x4, .int s0], [.int r9], (zl sn sx, X, xr E G Q N A U Y K H tl, q)) oo
  rcases am_if hM with ⟨c10, hM⟩ | ⟨c10, hM⟩
  · refine am_ev.kt 2 147 131 [.ref 1000, am_ju, .int x2, am_ju, .int x4, .int s0] [] (zl sn sx, X, xr E G Q N A U Y K H tl, q) c10 (fun _ _ => rfl) ?_
    refine am_ev.wk (lv' := [.ref 1000, am_ju, .int x2, am_ju, .int x4, am_ju]) (am_lc (Or.inr rfl) (am_lc (Or.inr rfl) (am_lc (Or.inr rfl) (am_lc (Or.inr rfl) (am_lc (Or.inr rfl) (am_lc (Or.inl rfl) am_ln)))))) ?_
    exact sj_M_readRest_147 hx hg hM
  · refine am_ev.ke 2 147 131 [.ref 1000, am_ju, .int x2, am_ju, .int x4, .int s0] [] (zl sn sx, X, xr E G Q N A U Y K H tl, q) c10 (fun _ _ => rfl) ?_
    refine am_ev.kg 9 (pc' := 147) (lv' := [.ref 1000, am_ju, .int (x2 + (1 : Int32)), am_ju, .int x4, .int s0]) (st' := []) (h' := (zl sn sx, X, xr E G ((po_men Q), (po_side Q), ((po_rights Q) ||| ((1 : Int32) <<< (x4 &&& 31))), (po_passed Q), (po_clock Q)) N A U Y K H tl, q)) (fun _ _ => rfl) ?_
    refine am_ev.wk (lv' := [.ref 1000, am_ju, .int (x2 + (1 : Int32)), am_ju, .int x4, am_ju]) (am_lc (Or.inr rfl) (am_lc (Or.inr rfl) (am_lc (Or.inr rfl) (am_lc (Or.inr rfl) (am_lc (Or.inr rfl) (am_lc (Or.inl rfl) am_ln)))))) ?_
    exact sj_M_readRest_147 hx hg hM
theorem sb_M_readRest_79 {fu : Nat} {sn : Nat} {sx : Nat → Int32} {X : List am_C} {q : Nat × Nat} {tl : List am_C} {E : ThT} {G : RtT} {N : NuT} {A : PaT} {U : UnT} {Y : LiT} {K : KeT} {H : HlT} {oo : am_O} {e : (Int32 × PoT)} {gg : Int32 → Int32 → PoT → Option ((Int32 × PoT))} (hx : x_M_readRest_79 sn sx X q tl E G N A U Y K H oo e) (hg : ∀ (x2 : Int32) (x4 : Int32) (Q : PoT), gg x2 x4 Q = some e → am_ev 3 k_M_readRest (79, [.ref 1000, am_ju, .int x2, am_ju, .int x4, am_ju], [], (zl sn sx, X, xr E G Q N A U Y K H tl, q)) oo) {x2 : Int32} {x4 : Int32} {Q : PoT} (hM : b_M_readRest_79 fu G N gg x2 x4 Q = some e) : am_ev 3 k_M_readRest (79, [.ref 1000, am_ju, .int x2, am_ju, .int x4, am_ju], [], (zl sn sx, X, xr E G Q N A U Y K H tl, q)) oo := by
  unfold b_M_readRest_79 at hM
  rcases am_if hM with ⟨c11, hM⟩ | ⟨c11, hM⟩
  · refine am_ev.kt 3 153 85 [.ref 1000, am_ju, .int x2, am_ju, .int x4, am_ju] [] (zl sn sx, X, xr E G Q N A U Y K H tl, q) c11 (fun _ _ => rfl) ?_
    refine am_ev.wk (lv' := [.ref 1000, am_ju, .int x2, am_ju, am_ju, am_ju]) (am_lc (Or.inr rfl) (am_lc (Or.inr rfl) (am_lc (Or.inr rfl) (am_lc (Or.inr rfl) (am_lc (Or.inl rfl) (am_lc (Or.inr rfl) am_ln)))))) ?_
    cases hM
    exact hx
  · refine am_ev.ke 3 153 85 [.ref 1000, am_ju, .int x2, am_ju, .int x4, am_ju] [] (zl sn sx, X, xr E G Q N A U Y K H tl, q) c11 (fun _ _ => rfl) ?_
    rcases am_if hM with ⟨c12, hM⟩ | ⟨c12, hM⟩
    · refine am_ev.kt 2 95 90 [.ref 1000, am_ju, .int x2, am_ju, .int x4, am_ju] [] (zl sn sx, X, xr E G Q N A U Y K H tl, q) c12 (fun _ _ => rfl) ?_
      rcases am_if hM with ⟨c13, hM⟩ | ⟨c13, hM⟩
      · refine am_ev.kt 3 106 101 [.ref 1000, am_ju, .int x2, am_ju, .int x4, am_ju] [] (zl sn sx, X, xr E G Q N A U Y K H tl, q) c13 (fun _ _ => rfl) ?_
        rcases am_if hM with ⟨c14, hM⟩ | ⟨c14, hM⟩
        · refine am_ev.kt 3 117 112 [.ref 1000, am_ju, .int x2, am_ju, .int x4, am_ju] [] (zl sn sx, X, xr E G Q N A U Y K H tl, q) c14 (fun _ _ => rfl) ?_
          refine am_ev.kg 1 (pc' := 119) (lv' := [.ref 1000, am_ju, .int x2, am_ju, .int x4, am_ju]) (st' := [.int (113 : Int32)]) (h' := (zl sn sx, X, xr E G Q N A U Y K H tl, q)) (fun _ _ => rfl) ?_
          exact sj_M_readRest_119 hx hg hM
        · refine am_ev.ke 3 117 112 [.ref 1000, am_ju, .int x2, am_ju, .int x4, am_ju] [] (zl sn sx, X, xr E G Q N A U Y K H tl, q) c14 (fun _ _ => rfl) ?_
          refine am_ev.kg 2 (pc' := 119) (lv' := [.ref 1000, am_ju, .int x2, am_ju, .int x4, am_ju]) (st' := [.int (107 : Int32)]) (h' := (zl sn sx, X, xr E G Q N A U Y K H tl, q)) (fun _ _ => rfl) ?_
          exact sj_M_readRest_119 hx hg hM
      · refine am_ev.ke 3 106 101 [.ref 1000, am_ju, .int x2, am_ju, .int x4, am_ju] [] (zl sn sx, X, xr E G Q N A U Y K H tl, q) c13 (fun _ _ => rfl) ?_
        refine am_ev.kg 2 (pc' := 119) (lv' := [.ref 1000, am_ju, .int x2, am_ju, .int x4, am_ju]) (st' := [.int (81 : Int32)]) (h' := (zl sn sx, X, xr E G Q N A U Y K H tl, q)) (fun _ _ => rfl) ?_
        exact sj_M_readRest_119 hx hg hM
    · refine am_ev.ke 2 95 90 [.ref 1000, am_ju, .int x2, am_ju, .int x4, am_ju] [] (zl sn sx, X, xr E G Q N A U Y K H tl, q) c12 (fun _ _ => rfl) ?_
      refine am_ev.kg 2 (pc' := 119) (lv' := [.ref 1000, am_ju, .int x2, am_ju, .int x4, am_ju]) (st' := [.int (75 : Int32)]) (h' := (zl sn sx, X, xr E G Q N A U Y K H tl, q)) (fun _ _ => rfl) ?_
      exact sj_M_readRest_119 hx hg hM
theorem sl_M_readRest_79 {fu : Nat} {sn : Nat} {sx : Nat → Int32} {X : List am_C} {q : Nat × Nat} {tl : List am_C} {E : ThT} {G : RtT} {N : NuT} {A : PaT} {U : UnT} {Y : LiT} {K : KeT} {H : HlT} {oo : am_O} {e : (Int32 × PoT)} (hx : x_M_readRest_79 sn sx X q tl E G N A U Y K H oo e) : ∀ (n : Nat) (x2 : Int32) (x4 : Int32) (Q : PoT), l_M_readRest_79 fu G N n x2 x4 Q = some e → am_ev 3 k_M_readRest (79, [.ref 1000, am_ju, .int x2, am_ju, .int x4, am_ju], [], (zl sn sx, X, xr E G Q N A U Y K H tl, q)) oo
  | 0, _, _, _, hM => by have h : (none : Option ((Int32 × PoT))) = some e := hM; cases h
  | n + 1, _, _, _, hM => sb_M_readRest_79 hx (fun _ _ _ hM => sl_M_readRest_79 hx n _ _ _ hM) hM
theorem sj_M_readRest_48 {fu : Nat} {sn : Nat} {sx : Nat → Int32} {X : List am_C} {q : Nat × Nat} {tl : List am_C} {E : ThT} {G : RtT} {Q : PoT} {N : NuT} {A : PaT} {U : UnT} {Y : LiT} {K : KeT} {H : HlT} {x2 : Int32} {s1 : Int32} {oo : am_O} {e : Int32 × PoT × NuT} (hx : y_M_readRest sn sx X q tl E G A U Y K H oo e) (hM : j_M_readRest_48 fu G Q N x2 s1 = some e) : am_ev 3 k_M_readRest (48, [.ref 1000, am_ju, .int x2, am_ju, am_ju, am_ju], [.int s1, .ref 1000], (zl sn sx, X, xr E G Q N A U Y K H tl, q)) oo := by
  unfold j_M_readRest_48 at hM
  obtain ⟨rr, hc, hM⟩ := am_bind hM
  obtain ⟨r3, rfl⟩ : ∃ z, z = rr := ⟨_, rfl⟩
  refine am_ev.kg 10 (pc' := 62) (lv' := [.ref 1000, am_ju, .int (x2 + (2 : Int32)), am_ju, am_ju, am_ju]) (st' := [.int (x2 + (2 : Int32)), .ref 1000]) (h' := (zl sn sx, X, xr E G ((po_men Q), s1, (0 : Int32), (po_passed Q), (po_clock Q)) N A U Y K H tl, q)) (fun _ _ => rfl) ?_
  refine am_ev.call rfl rfl rfl ((s_M_sign hc).mono (by decide)) ?_
  show am_ev _ k_M_readRest (65, [.ref 1000, am_ju, .int (x2 + (2 : Int32)), am_ju, am_ju, am_ju], [.int r3], (zl sn sx, X, xr E G ((po_men Q), s1, (0 : Int32), (po_passed Q), (po_clock Q)) N A U Y K H tl, q)) oo
  rcases am_if hM with ⟨c15, hM⟩ | ⟨c15, hM⟩
  · refine am_ev.kt 2 76 70 [.ref 1000, am_ju, .int (x2 + (2 : Int32)), am_ju, am_ju, am_ju] [] (zl sn sx, X, xr E G ((po_men Q), s1, (0 : Int32), (po_passed Q), (po_clock Q)) N A U Y K H tl, q) c15 (fun _ _ => rfl) ?_
    refine am_ev.kg 2 (pc' := 79) (lv' := [.ref 1000, am_ju, .int (x2 + (2 : Int32)), am_ju, .int (0 : Int32), am_ju]) (st' := []) (h' := (zl sn sx, X, xr E G ((po_men Q), s1, (0 : Int32), (po_passed Q), (po_clock Q)) N A U Y K H tl, q)) (fun _ _ => rfl) ?_
    obtain ⟨z, hz, hM⟩ := am_bind hM
    obtain ⟨x2_1, qz_1⟩ := z
    refine sl_M_readRest_79 ?_ _ _ _ _ hz
    show am_ev 3 k_M_readRest (153, [.ref 1000, am_ju, .int x2_1, am_ju, am_ju, am_ju], [], (zl sn sx, X, xr E G qz_1 N A U Y K H tl, q)) oo
    exact sj_M_readRest_153 hx hM
  · refine am_ev.ke 2 76 70 [.ref 1000, am_ju, .int (x2 + (2 : Int32)), am_ju, am_ju, am_ju] [] (zl sn sx, X, xr E G ((po_men Q), s1, (0 : Int32), (po_passed Q), (po_clock Q)) N A U Y K H tl, q) c15 (fun _ _ => rfl) ?_
    refine am_ev.kg 2 (pc' := 162) (lv' := [.ref 1000, am_ju, .int ((x2 + (2 : Int32)) + (1 : Int32)), am_ju, am_ju, am_ju]) (st' := []) (h' := (zl sn sx, X, xr E G ((po_men Q), s1, (0 : Int32), (po_passed Q), (po_clock Q)) N A U Y K H tl, q)) (fun _ _ => rfl) ?_
    exact sj_M_readRest_162 hx hM
theorem sj_M_readRest_22 {fu : Nat} {sn : Nat} {sx : Nat → Int32} {X : List am_C} {q : Nat × Nat} {tl : List am_C} {E : ThT} {G : RtT} {Q : PoT} {N : NuT} {A : PaT} {U : UnT} {Y : LiT} {K : KeT} {H : HlT} {x2 : Int32} {x3 : Int32} {oo : am_O} {e : Int32 × PoT × NuT} (hx : y_M_readRest sn sx X q tl E G A U Y K H oo e) (hM : j_M_readRest_22 fu G Q N x2 x3 = some e) : am_ev 3 k_M_readRest (22, [.ref 1000, am_ju, .int x2, .int x3, am_ju, am_ju], [], (zl sn sx, X, xr E G Q N A U Y K H tl, q)) oo := by
  unfold j_M_readRest_22 at hM
  obtain ⟨rr, hc, hM⟩ := am_bind hM
  obtain ⟨r2, rfl⟩ : ∃ z, z = rr := ⟨_, rfl⟩
  refine am_ev.kg 4 (pc' := 26) (lv' := [.ref 1000, am_ju, .int x2, .int x3, am_ju, am_ju]) (st' := [.int (x2 + (1 : Int32)), .ref 1000]) (h' := (zl sn sx, X, xr E G Q N A U Y K H tl, q)) (fun _ _ => rfl) ?_
  refine am_ev.call rfl rfl rfl ((s_M_sign hc).mono (by decide)) ?_
  show am_ev _ k_M_readRest (29, [.ref 1000, am_ju, .int x2, .int x3, am_ju, am_ju], [.int r2], (zl sn sx, X, xr E G Q N A U Y K H tl, q)) oo
  rcases am_if hM with ⟨c16, hM⟩ | ⟨c16, hM⟩
  · refine am_ev.kt 2 36 34 [.ref 1000, am_ju, .int x2, .int x3, am_ju, am_ju] [] (zl sn sx, X, xr E G Q N A U Y K H tl, q) c16 (fun _ _ => rfl) ?_
    rcases am_if hM with ⟨c17, hM⟩ | ⟨c17, hM⟩
    · refine am_ev.kt 4 47 43 [.ref 1000, am_ju, .int x2, .int x3, am_ju, am_ju] [.ref 1000] (zl sn sx, X, xr E G Q N A U Y K H tl, q) c17 (fun _ _ => rfl) ?_
      refine am_ev.kg 1 (pc' := 48) (lv' := [.ref 1000, am_ju, .int x2, .int x3, am_ju, am_ju]) (st' := [.int (1 : Int32), .ref 1000]) (h' := (zl sn sx, X, xr E G Q N A U Y K H tl, q)) (fun _ _ => rfl) ?_
      refine am_ev.wk (lv' := [.ref 1000, am_ju, .int x2, am_ju, am_ju, am_ju]) (am_lc (Or.inr rfl) (am_lc (Or.inr rfl) (am_lc (Or.inr rfl) (am_lc (Or.inl rfl) (am_lc (Or.inr rfl) (am_lc (Or.inr rfl) am_ln)))))) ?_
      exact sj_M_readRest_48 hx hM
    · refine am_ev.ke 4 47 43 [.ref 1000, am_ju, .int x2, .int x3, am_ju, am_ju] [.ref 1000] (zl sn sx, X, xr E G Q N A U Y K H tl, q) c17 (fun _ _ => rfl) ?_
      refine am_ev.kg 2 (pc' := 48) (lv' := [.ref 1000, am_ju, .int x2, .int x3, am_ju, am_ju]) (st' := [.int (0 : Int32), .ref 1000]) (h' := (zl sn sx, X, xr E G Q N A U Y K H tl, q)) (fun _ _ => rfl) ?_
      refine am_ev.wk (lv' := [.ref 1000, am_ju, .int x2, am_ju, am_ju, am_ju]) (am_lc (Or.inr rfl) (am_lc (Or.inr rfl) (am_lc (Or.inr rfl) (am_lc (Or.inl rfl) (am_lc (Or.inr rfl) (am_lc (Or.inr rfl) am_ln)))))) ?_
      exact sj_M_readRest_48 hx hM
  · refine am_ev.ke 2 36 34 [.ref 1000, am_ju, .int x2, .int x3, am_ju, am_ju] [] (zl sn sx, X, xr E G Q N A U Y K H tl, q) c16 (fun _ _ => rfl) ?_
    cases hM
    cases hx
    exact am_ev.kf 2 (fun _ _ => rfl)
theorem se_M_readRest {fu : Nat} {sn : Nat} {sx : Nat → Int32} {X : List am_C} {q : Nat × Nat} {tl : List am_C} {E : ThT} {G : RtT} {Q : PoT} {N : NuT} {A : PaT} {U : UnT} {Y : LiT} {K : KeT} {H : HlT} {x1 : Int32} {oo : am_O} {e : Int32 × PoT × NuT} (hx : y_M_readRest sn sx X q tl E G A U Y K H oo e) (hM : f_M_readRest fu x1 G Q N = some e) : am_ev 3 k_M_readRest (0, [.ref 1000, .int x1, am_ju, am_ju, am_ju, am_ju], [], (zl sn sx, X, xr E G Q N A U Y K H tl, q)) oo := by
  unfold f_M_readRest at hM
  obtain ⟨rr, hc, hM⟩ := am_bind hM
  obtain ⟨r1, rfl⟩ : ∃ z, z = rr := ⟨_, rfl⟩
  refine am_ev.kg 6 (pc' := 6) (lv' := [.ref 1000, .int x1, .int (x1 + (1 : Int32)), am_ju, am_ju, am_ju]) (st' := [.int (x1 + (1 : Int32)), .ref 1000]) (h' := (zl sn sx, X, xr E G Q N A U Y K H tl, q)) (fun _ _ => rfl) ?_
  refine am_ev.call rfl rfl rfl ((s_M_sign hc).mono (by decide)) ?_
  show am_ev _ k_M_readRest (9, [.ref 1000, .int x1, .int (x1 + (1 : Int32)), am_ju, am_ju, am_ju], [.int r1], (zl sn sx, X, xr E G Q N A U Y K H tl, q)) oo
  rcases am_if hM with ⟨c18, hM⟩ | ⟨c18, hM⟩
  · refine am_ev.kt 4 22 16 [.ref 1000, .int x1, .int (x1 + (1 : Int32)), .int r1, am_ju, am_ju] [] (zl sn sx, X, xr E G Q N A U Y K H tl, q) c18 (fun _ _ => rfl) ?_
    refine am_ev.wk (lv' := [.ref 1000, am_ju, .int (x1 + (1 : Int32)), .int r1, am_ju, am_ju]) (am_lc (Or.inr rfl) (am_lc (Or.inl rfl) (am_lc (Or.inr rfl) (am_lc (Or.inr rfl) (am_lc (Or.inr rfl) (am_lc (Or.inr rfl) am_ln)))))) ?_
    exact sj_M_readRest_22 hx hM
  · refine am_ev.ke 4 22 16 [.ref 1000, .int x1, .int (x1 + (1 : Int32)), .int r1, am_ju, am_ju] [] (zl sn sx, X, xr E G Q N A U Y K H tl, q) c18 (fun _ _ => rfl) ?_
    rcases am_if hM with ⟨c19, hM⟩ | ⟨c19, hM⟩
    · refine am_ev.kt 3 34 22 [.ref 1000, .int x1, .int (x1 + (1 : Int32)), .int r1, am_ju, am_ju] [] (zl sn sx, X, xr E G Q N A U Y K H tl, q) c19 (fun _ _ => rfl) ?_
      cases hM
      cases hx
      exact am_ev.kf 2 (fun _ _ => rfl)
    · refine am_ev.ke 3 34 22 [.ref 1000, .int x1, .int (x1 + (1 : Int32)), .int r1, am_ju, am_ju] [] (zl sn sx, X, xr E G Q N A U Y K H tl, q) c19 (fun _ _ => rfl) ?_
      refine am_ev.wk (lv' := [.ref 1000, am_ju, .int (x1 + (1 : Int32)), .int r1, am_ju, am_ju]) (am_lc (Or.inr rfl) (am_lc (Or.inl rfl) (am_lc (Or.inr rfl) (am_lc (Or.inr rfl) (am_lc (Or.inr rfl) (am_lc (Or.inr rfl) am_ln)))))) ?_
      exact sj_M_readRest_22 hx hM
theorem s_M_readRest {fu : Nat} {sn : Nat} {sx : Nat → Int32} {X : List am_C} {q : Nat × Nat} {tl : List am_C} {E : ThT} {G : RtT} {Q : PoT} {N : NuT} {A : PaT} {U : UnT} {Y : LiT} {K : KeT} {H : HlT} {x1 : Int32} {ov : Int32} {oQ : PoT} {oN : NuT} (hM : f_M_readRest fu x1 G Q N = some (ov, oQ, oN)) : am_cv 4 k_M_readRest [.ref 1000, .int x1] (zl sn sx, X, xr E G Q N A U Y K H tl, q) (.inl (some (.int ov)), (zl sn sx, X, xr E G oQ oN A U Y K H tl, q)) := am_cv.of rfl (se_M_readRest (e := (ov, oQ, oN)) (show y_M_readRest sn sx X q tl E G A U Y K H _ (ov, oQ, oN) from rfl) hM)
def y_M_countOf (sn : Nat) (sx : Nat → Int32) (X : List am_C) (q : Nat × Nat) (tl : List am_C) (E : ThT) (G : RtT) (Q : PoT) (N : NuT) (A : PaT) (U : UnT) (Y : LiT) (K : KeT) (H : HlT) (oo : am_O) : Int32 → Prop
  | ov => oo = (.inl (some (.int ov)), (zl sn sx, X, xr E G Q N A U Y K H tl, q))
def x_M_countOf_4 (sn : Nat) (sx : Nat → Int32) (X : List am_C) (q : Nat × Nat) (tl : List am_C) (E : ThT) (G : RtT) (Q : PoT) (N : NuT) (A : PaT) (U : UnT) (Y : LiT) (K : KeT) (H : HlT) (x1 : Int32) (oo : am_O) : Int32 → Prop
  | ov => oo = (.inl (some (.int ov)), (zl sn sx, X, xr E G Q N A U Y K H tl, q))
theorem sj_M_countOf_27 {fu : Nat} {sn : Nat} {sx : Nat → Int32} {X : List am_C} {q : Nat × Nat} {tl : List am_C} {E : ThT} {G : RtT} {Q : PoT} {N : NuT} {A : PaT} {U : UnT} {Y : LiT} {K : KeT} {H : HlT} {x1 : Int32} {x3 : Int32} {s0 : Int32} {oo : am_O} {e : Int32} {gg : Int32 → Int32 → Option (Int32)} (hx : x_M_countOf_4 sn sx X q tl E G Q N A U Y K H x1 oo e) (hg : ∀ (x2 : Int32) (x3 : Int32), gg x2 x3 = some e → am_ev 1 k_M_countOf (4, [.ref 1000, .int x1, .int x2, .int x3], [], (zl sn sx, X, xr E G Q N A U Y K H tl, q)) oo) (hM : j_M_countOf_27 fu gg Q x1 x3 s0 = some e) : am_ev 1 k_M_countOf (27, [.ref 1000, .int x1, am_ju, .int x3], [.int s0], (zl sn sx, X, xr E G Q N A U Y K H tl, q)) oo := by
  unfold j_M_countOf_27 at hM
  refine am_ev.kg 3 (pc' := 4) (lv' := [.ref 1000, .int x1, .int s0, .int (x3 + (1 : Int32))]) (st' := []) (h' := (zl sn sx, X, xr E G Q N A U Y K H tl, q)) (fun _ _ => rfl) ?_
  exact hg _ _ hM
theorem sb_M_countOf_4 {fu : Nat} {sn : Nat} {sx : Nat → Int32} {X : List am_C} {q : Nat × Nat} {tl : List am_C} {E : ThT} {G : RtT} {Q : PoT} {N : NuT} {A : PaT} {U : UnT} {Y : LiT} {K : KeT} {H : HlT} {x1 : Int32} {oo : am_O} {e : Int32} {gg : Int32 → Int32 → Option (Int32)} (hx : x_M_countOf_4 sn sx X q tl E G Q N A U Y K H x1 oo e) (hg : ∀ (x2 : Int32) (x3 : Int32), gg x2 x3 = some e → am_ev 1 k_M_countOf (4, [.ref 1000, .int x1, .int x2, .int x3], [], (zl sn sx, X, xr E G Q N A U Y K H tl, q)) oo) {x2 : Int32} {x3 : Int32} (hM : b_M_countOf_4 fu Q x1 gg x2 x3 = some e) : am_ev 1 k_M_countOf (4, [.ref 1000, .int x1, .int x2, .int x3], [], (zl sn sx, X, xr E G Q N A U Y K H tl, q)) oo := by
  unfold b_M_countOf_4 at hM
  rcases am_if hM with ⟨c1, hM⟩ | ⟨c1, hM⟩
  · refine am_ev.kt 3 34 10 [.ref 1000, .int x1, .int x2, .int x3] [] (zl sn sx, X, xr E G Q N A U Y K H tl, q) c1 (fun _ _ => rfl) ?_
    cases hM
    cases hx
    exact am_ev.kf 2 (fun _ _ => rfl)
  · refine am_ev.ke 3 34 10 [.ref 1000, .int x1, .int x2, .int x3] [] (zl sn sx, X, xr E G Q N A U Y K H tl, q) c1 (fun _ _ => rfl) ?_
    obtain ⟨c2, hM⟩ := am_ifn hM
    refine am_ev.kc 4 16 [.ref 1000, .int x1, .int x2, .int x3] [.int ((po_men Q) (x3).toNatClampNeg)] (zl sn sx, X, xr E G Q N A U Y K H tl, q) c2 (fun _ _ => rfl) ?_
    rcases am_if hM with ⟨c3, hM⟩ | ⟨c3, hM⟩
    · refine am_ev.kt 2 26 20 [.ref 1000, .int x1, .int x2, .int x3] [] (zl sn sx, X, xr E G Q N A U Y K H tl, q) c3 (fun _ _ => rfl) ?_
      refine am_ev.kg 1 (pc' := 27) (lv' := [.ref 1000, .int x1, .int x2, .int x3]) (st' := [.int x2]) (h' := (zl sn sx, X, xr E G Q N A U Y K H tl, q)) (fun _ _ => rfl) ?_
      refine am_ev.wk (lv' := [.ref 1000, .int x1, am_ju, .int x3]) (am_lc (Or.inr rfl) (am_lc (Or.inr rfl) (am_lc (Or.inl rfl) (am_lc (Or.inr rfl) am_ln)))) ?_
      exact sj_M_countOf_27 hx hg hM
    · refine am_ev.ke 2 26 20 [.ref 1000, .int x1, .int x2, .int x3] [] (zl sn sx, X, xr E G Q N A U Y K H tl, q) c3 (fun _ _ => rfl) ?_
      refine am_ev.kg 4 (pc' := 27) (lv' := [.ref 1000, .int x1, .int x2, .int x3]) (st' := [.int (x2 + (1 : Int32))]) (h' := (zl sn sx, X, xr E G Q N A U Y K H tl, q)) (fun _ _ => rfl) ?_
      refine am_ev.wk (lv' := [.ref 1000, .int x1, am_ju, .int x3]) (am_lc (Or.inr rfl) (am_lc (Or.inr rfl) (am_lc (Or.inl rfl) (am_lc (Or.inr rfl) am_ln)))) ?_
      exact sj_M_countOf_27 hx hg hM
theorem sl_M_countOf_4 {fu : Nat} {sn : Nat} {sx : Nat → Int32} {X : List am_C} {q : Nat × Nat} {tl : List am_C} {E : ThT} {G : RtT} {Q : PoT} {N : NuT} {A : PaT} {U : UnT} {Y : LiT} {K : KeT} {H : HlT} {x1 : Int32} {oo : am_O} {e : Int32} (hx : x_M_countOf_4 sn sx X q tl E G Q N A U Y K H x1 oo e) : ∀ (n : Nat) (x2 : Int32) (x3 : Int32), l_M_countOf_4 fu Q x1 n x2 x3 = some e → am_ev 1 k_M_countOf (4, [.ref 1000, .int x1, .int x2, .int x3], [], (zl sn sx, X, xr E G Q N A U Y K H tl, q)) oo
  | 0, _, _, hM => by have h : (none : Option (Int32)) = some e := hM; cases h
  | n + 1, _, _, hM => sb_M_countOf_4 hx (fun _ _ hM => sl_M_countOf_4 hx n _ _ hM) hM
theorem se_M_countOf {fu : Nat} {sn : Nat} {sx : Nat → Int32} {X : List am_C} {q : Nat × Nat} {tl : List am_C} {E : ThT} {G : RtT} {Q : PoT} {N : NuT} {A : PaT} {U : UnT} {Y : LiT} {K : KeT} {H : HlT} {x1 : Int32} {oo : am_O} {e : Int32} (hx : y_M_countOf sn sx X q tl E G Q N A U Y K H oo e) (hM : f_M_countOf fu x1 Q = some e) : am_ev 1 k_M_countOf (0, [.ref 1000, .int x1, am_ju, am_ju], [], (zl sn sx, X, xr E G Q N A U Y K H tl, q)) oo := by
  unfold f_M_countOf at hM
  refine am_ev.kg 4 (pc' := 4) (lv' := [.ref 1000, .int x1, .int (0 : Int32), .int (0 : Int32)]) (st' := []) (h' := (zl sn sx, X, xr E G Q N A U Y K H tl, q)) (fun _ _ => rfl) ?_
  refine sl_M_countOf_4 ?_ _ _ _ hM
  exact hx
theorem s_M_countOf {fu : Nat} {sn : Nat} {sx : Nat → Int32} {X : List am_C} {q : Nat × Nat} {tl : List am_C} {E : ThT} {G : RtT} {Q : PoT} {N : NuT} {A : PaT} {U : UnT} {Y : LiT} {K : KeT} {H : HlT} {x1 : Int32} {ov : Int32} (hM : f_M_countOf fu x1 Q = some ov) : am_cv 2 k_M_countOf [.ref 1000, .int x1] (zl sn sx, X, xr E G Q N A U Y K H tl, q) (.inl (some (.int ov)), (zl sn sx, X, xr E G Q N A U Y K H tl, q)) := am_cv.of rfl (se_M_countOf (e := ov) (show y_M_countOf sn sx X q tl E G Q N A U Y K H _ ov from rfl) hM)
def y_M_hasPawnAtEnd (sn : Nat) (sx : Nat → Int32) (X : List am_C) (q : Nat × Nat) (tl : List am_C) (E : ThT) (G : RtT) (Q : PoT) (N : NuT) (A : PaT) (U : UnT) (Y : LiT) (K : KeT) (H : HlT) (oo : am_O) : Int32 → Prop
  | ov => oo = (.inl (some (.int ov)), (zl sn sx, X, xr E G Q N A U Y K H tl, q))
def x_M_hasPawnAtEnd_4 (sn : Nat) (sx : Nat → Int32) (X : List am_C) (q : Nat × Nat) (tl : List am_C) (E : ThT) (G : RtT) (Q : PoT) (N : NuT) (A : PaT) (U : UnT) (Y : LiT) (K : KeT) (H : HlT) (oo : am_O) : Int32 → Prop
  | ov => oo = (.inl (some (.int ov)), (zl sn sx, X, xr E G Q N A U Y K H tl, q))
theorem sj_M_hasPawnAtEnd_48 {fu : Nat} {sn : Nat} {sx : Nat → Int32} {X : List am_C} {q : Nat × Nat} {tl : List am_C} {E : ThT} {G : RtT} {Q : PoT} {N : NuT} {A : PaT} {U : UnT} {Y : LiT} {K : KeT} {H : HlT} {x2 : Int32} {s0 : Int32} {oo : am_O} {e : Int32} {gg : Int32 → Int32 → Option (Int32)} (hx : x_M_hasPawnAtEnd_4 sn sx X q tl E G Q N A U Y K H oo e) (hg : ∀ (x1 : Int32) (x2 : Int32), gg x1 x2 = some e → am_ev 2 k_M_hasPawnAtEnd (4, [.ref 1000, .int x1, .int x2], [], (zl sn sx, X, xr E G Q N A U Y K H tl, q)) oo) (hM : j_M_hasPawnAtEnd_48 fu gg Q x2 s0 = some e) : am_ev 2 k_M_hasPawnAtEnd (48, [.ref 1000, am_ju, .int x2], [.int s0], (zl sn sx, X, xr E G Q N A U Y K H tl, q)) oo := by
  unfold j_M_hasPawnAtEnd_48 at hM
  refine am_ev.kg 3 (pc' := 4) (lv' := [.ref 1000, .int s0, .int (x2 + (1 : Int32))]) (st' := []) (h' := (zl sn sx, X, xr E G Q N A U Y K H tl, q)) (fun _ _ => rfl) ?_
  exact hg _ _ hM
theorem sj_M_hasPawnAtEnd_43 {fu : Nat} {sn : Nat} {sx : Nat → Int32} {X : List am_C} {q : Nat × Nat} {tl : List am_C} {E : ThT} {G : RtT} {Q : PoT} {N : NuT} {A : PaT} {U : UnT} {Y : LiT} {K : KeT} {H : HlT} {x2 : Int32} {oo : am_O} {e : Int32} {gg : Int32 → Int32 → Option (Int32)} (hx : x_M_hasPawnAtEnd_4 sn sx X q tl E G Q N A U Y K H oo e) (hg : ∀ (x1 : Int32) (x2 : Int32), gg x1 x2 = some e → am_ev 2 k_M_hasPawnAtEnd (4, [.ref 1000, .int x1, .int x2], [], (zl sn sx, X, xr E G Q N A U Y K H tl, q)) oo) (hM : j_M_hasPawnAtEnd_43 fu gg Q x2 = some e) : am_ev 2 k_M_hasPawnAtEnd (43, [.ref 1000, am_ju, .int x2], [], (zl sn sx, X, xr E G Q N A U Y K H tl, q)) oo := by
  unfold j_M_hasPawnAtEnd_43 at hM
  refine am_ev.kg 2 (pc' := 48) (lv' := [.ref 1000, am_ju, .int x2]) (st' := [.int (1 : Int32)]) (h' := (zl sn sx, X, xr E G Q N A U Y K H tl, q)) (fun _ _ => rfl) ?_
  exact sj_M_hasPawnAtEnd_48 hx hg hM
theorem sb_M_hasPawnAtEnd_4 {fu : Nat} {sn : Nat} {sx : Nat → Int32} {X : List am_C} {q : Nat × Nat} {tl : List am_C} {E : ThT} {G : RtT} {Q : PoT} {N : NuT} {A : PaT} {U : UnT} {Y : LiT} {K : KeT} {H : HlT} {oo : am_O} {e : Int32} {gg : Int32 → Int32 → Option (Int32)} (hx : x_M_hasPawnAtEnd_4 sn sx X q tl E G Q N A U Y K H oo e) (hg : ∀ (x1 : Int32) (x2 : Int32), gg x1 x2 = some e → am_ev 2 k_M_hasPawnAtEnd (4, [.ref 1000, .int x1, .int x2], [], (zl sn sx, X, xr E G Q N A U Y K H tl, q)) oo) {x1 : Int32} {x2 : Int32} (hM : b_M_hasPawnAtEnd_4 fu Q gg x1 x2 = some e) : am_ev 2 k_M_hasPawnAtEnd (4, [.ref 1000, .int x1, .int x2], [], (zl sn sx, X, xr E G Q N A U Y K H tl, q)) oo := by
  unfold b_M_hasPawnAtEnd_4 at hM
  rcases am_if hM with ⟨c1, hM⟩ | ⟨c1, hM⟩
  · refine am_ev.kt 3 55 10 [.ref 1000, .int x1, .int x2] [] (zl sn sx, X, xr E G Q N A U Y K H tl, q) c1 (fun _ _ => rfl) ?_
    cases hM
    cases hx
    exact am_ev.kf 2 (fun _ _ => rfl)
  · refine am_ev.ke 3 55 10 [.ref 1000, .int x1, .int x2] [] (zl sn sx, X, xr E G Q N A U Y K H tl, q) c1 (fun _ _ => rfl) ?_
    rcases am_if hM with ⟨c2, hM⟩ | ⟨c2, hM⟩
    · refine am_ev.kt 2 43 14 [.ref 1000, .int x1, .int x2] [] (zl sn sx, X, xr E G Q N A U Y K H tl, q) c2 (fun _ _ => rfl) ?_
      refine am_ev.wk (lv' := [.ref 1000, am_ju, .int x2]) (am_lc (Or.inr rfl) (am_lc (Or.inl rfl) (am_lc (Or.inr rfl) am_ln))) ?_
      exact sj_M_hasPawnAtEnd_43 hx hg hM
    · refine am_ev.ke 2 43 14 [.ref 1000, .int x1, .int x2] [] (zl sn sx, X, xr E G Q N A U Y K H tl, q) c2 (fun _ _ => rfl) ?_
      obtain ⟨c3, hM⟩ := am_ifn hM
      refine am_ev.kc 4 20 [.ref 1000, .int x1, .int x2] [.int ((po_men Q) (x2).toNatClampNeg)] (zl sn sx, X, xr E G Q N A U Y K H tl, q) c3 (fun _ _ => rfl) ?_
      obtain ⟨rr, hc, hM⟩ := am_bind hM
      obtain ⟨r1, rfl⟩ : ∃ z, z = rr := ⟨_, rfl⟩
      refine am_ev.call rfl rfl rfl ((s_M_kind hc).mono (by decide)) ?_
      show am_ev _ k_M_hasPawnAtEnd (23, [.ref 1000, .int x1, .int x2], [.int r1], (zl sn sx, X, xr E G Q N A U Y K H tl, q)) oo
      rcases am_if hM with ⟨c4, hM⟩ | ⟨c4, hM⟩
      · refine am_ev.kt 2 43 27 [.ref 1000, .int x1, .int x2] [] (zl sn sx, X, xr E G Q N A U Y K H tl, q) c4 (fun _ _ => rfl) ?_
        refine am_ev.wk (lv' := [.ref 1000, am_ju, .int x2]) (am_lc (Or.inr rfl) (am_lc (Or.inl rfl) (am_lc (Or.inr rfl) am_ln))) ?_
        exact sj_M_hasPawnAtEnd_43 hx hg hM
      · refine am_ev.ke 2 43 27 [.ref 1000, .int x1, .int x2] [] (zl sn sx, X, xr E G Q N A U Y K H tl, q) c4 (fun _ _ => rfl) ?_
        obtain ⟨c5, hM⟩ := am_ifn hM
        refine am_ev.kc 6 36 [.ref 1000, .int x1, .int x2] [.int ((po_men Q) (((56 : Int32) + x2)).toNatClampNeg)] (zl sn sx, X, xr E G Q N A U Y K H tl, q) c5 (fun _ _ => rfl) ?_
        obtain ⟨rr, hc, hM⟩ := am_bind hM
        obtain ⟨r2, rfl⟩ : ∃ z, z = rr := ⟨_, rfl⟩
        refine am_ev.call rfl rfl rfl ((s_M_kind hc).mono (by decide)) ?_
        show am_ev _ k_M_hasPawnAtEnd (39, [.ref 1000, .int x1, .int x2], [.int r2], (zl sn sx, X, xr E G Q N A U Y K H tl, q)) oo
        rcases am_if hM with ⟨c6, hM⟩ | ⟨c6, hM⟩
        · refine am_ev.kt 2 47 43 [.ref 1000, .int x1, .int x2] [] (zl sn sx, X, xr E G Q N A U Y K H tl, q) c6 (fun _ _ => rfl) ?_
          refine am_ev.kg 1 (pc' := 48) (lv' := [.ref 1000, .int x1, .int x2]) (st' := [.int (0 : Int32)]) (h' := (zl sn sx, X, xr E G Q N A U Y K H tl, q)) (fun _ _ => rfl) ?_
          refine am_ev.wk (lv' := [.ref 1000, am_ju, .int x2]) (am_lc (Or.inr rfl) (am_lc (Or.inl rfl) (am_lc (Or.inr rfl) am_ln))) ?_
          exact sj_M_hasPawnAtEnd_48 hx hg hM
        · refine am_ev.ke 2 47 43 [.ref 1000, .int x1, .int x2] [] (zl sn sx, X, xr E G Q N A U Y K H tl, q) c6 (fun _ _ => rfl) ?_
          refine am_ev.wk (lv' := [.ref 1000, am_ju, .int x2]) (am_lc (Or.inr rfl) (am_lc (Or.inl rfl) (am_lc (Or.inr rfl) am_ln))) ?_
          exact sj_M_hasPawnAtEnd_43 hx hg hM
theorem sl_M_hasPawnAtEnd_4 {fu : Nat} {sn : Nat} {sx : Nat → Int32} {X : List am_C} {q : Nat × Nat} {tl : List am_C} {E : ThT} {G : RtT} {Q : PoT} {N : NuT} {A : PaT} {U : UnT} {Y : LiT} {K : KeT} {H : HlT} {oo : am_O} {e : Int32} (hx : x_M_hasPawnAtEnd_4 sn sx X q tl E G Q N A U Y K H oo e) : ∀ (n : Nat) (x1 : Int32) (x2 : Int32), l_M_hasPawnAtEnd_4 fu Q n x1 x2 = some e → am_ev 2 k_M_hasPawnAtEnd (4, [.ref 1000, .int x1, .int x2], [], (zl sn sx, X, xr E G Q N A U Y K H tl, q)) oo
  | 0, _, _, hM => by have h : (none : Option (Int32)) = some e := hM; cases h
  | n + 1, _, _, hM => sb_M_hasPawnAtEnd_4 hx (fun _ _ hM => sl_M_hasPawnAtEnd_4 hx n _ _ hM) hM
theorem se_M_hasPawnAtEnd {fu : Nat} {sn : Nat} {sx : Nat → Int32} {X : List am_C} {q : Nat × Nat} {tl : List am_C} {E : ThT} {G : RtT} {Q : PoT} {N : NuT} {A : PaT} {U : UnT} {Y : LiT} {K : KeT} {H : HlT} {oo : am_O} {e : Int32} (hx : y_M_hasPawnAtEnd sn sx X q tl E G Q N A U Y K H oo e) (hM : f_M_hasPawnAtEnd fu Q = some e) : am_ev 2 k_M_hasPawnAtEnd (0, [.ref 1000, am_ju, am_ju], [], (zl sn sx, X, xr E G Q N A U Y K H tl, q)) oo := by
  unfold f_M_hasPawnAtEnd at hM
  refine am_ev.kg 4 (pc' := 4) (lv' := [.ref 1000, .int (0 : Int32), .int (0 : Int32)]) (st' := []) (h' := (zl sn sx, X, xr E G Q N A U Y K H tl, q)) (fun _ _ => rfl) ?_
  refine sl_M_hasPawnAtEnd_4 ?_ _ _ _ hM
  exact hx
theorem s_M_hasPawnAtEnd {fu : Nat} {sn : Nat} {sx : Nat → Int32} {X : List am_C} {q : Nat × Nat} {tl : List am_C} {E : ThT} {G : RtT} {Q : PoT} {N : NuT} {A : PaT} {U : UnT} {Y : LiT} {K : KeT} {H : HlT} {ov : Int32} (hM : f_M_hasPawnAtEnd fu Q = some ov) : am_cv 3 k_M_hasPawnAtEnd [.ref 1000] (zl sn sx, X, xr E G Q N A U Y K H tl, q) (.inl (some (.int ov)), (zl sn sx, X, xr E G Q N A U Y K H tl, q)) := am_cv.of rfl (se_M_hasPawnAtEnd (e := ov) (show y_M_hasPawnAtEnd sn sx X q tl E G Q N A U Y K H _ ov from rfl) hM)
def y_M_isRightWrong (sn : Nat) (sx : Nat → Int32) (X : List am_C) (q : Nat × Nat) (tl : List am_C) (E : ThT) (G : RtT) (Q : PoT) (N : NuT) (A : PaT) (U : UnT) (Y : LiT) (K : KeT) (H : HlT) (oo : am_O) : Int32 → Prop
  | ov => oo = (.inl (some (.int ov)), (zl sn sx, X, xr E G Q N A U Y K H tl, q))
def x_M_isRightWrong_4 (sn : Nat) (sx : Nat → Int32) (X : List am_C) (q : Nat × Nat) (tl : List am_C) (E : ThT) (G : RtT) (Q : PoT) (N : NuT) (A : PaT) (U : UnT) (Y : LiT) (K : KeT) (H : HlT) (oo : am_O) : Int32 → Prop
  | ov => oo = (.inl (some (.int ov)), (zl sn sx, X, xr E G Q N A U Y K H tl, q))
theorem sj_M_isRightWrong_106 {fu : Nat} {sn : Nat} {sx : Nat → Int32} {X : List am_C} {q : Nat × Nat} {tl : List am_C} {E : ThT} {G : RtT} {Q : PoT} {N : NuT} {A : PaT} {U : UnT} {Y : LiT} {K : KeT} {H : HlT} {x2 : Int32} {s0 : Int32} {oo : am_O} {e : Int32} {gg : Int32 → Int32 → Option (Int32)} (hx : x_M_isRightWrong_4 sn sx X q tl E G Q N A U Y K H oo e) (hg : ∀ (x1 : Int32) (x2 : Int32), gg x1 x2 = some e → am_ev 1 k_M_isRightWrong (4, [.ref 1000, .int x1, .int x2, am_ju, am_ju, am_ju, am_ju], [], (zl sn sx, X, xr E G Q N A U Y K H tl, q)) oo) (hM : j_M_isRightWrong_106 fu gg Q x2 s0 = some e) : am_ev 1 k_M_isRightWrong (106, [.ref 1000, am_ju, .int x2, am_ju, am_ju, am_ju, am_ju], [.int s0], (zl sn sx, X, xr E G Q N A U Y K H tl, q)) oo := by
  unfold j_M_isRightWrong_106 at hM
  refine am_ev.kg 3 (pc' := 4) (lv' := [.ref 1000, .int s0, .int (x2 + (1 : Int32)), am_ju, am_ju, am_ju, am_ju]) (st' := []) (h' := (zl sn sx, X, xr E G Q N A U Y K H tl, q)) (fun _ _ => rfl) ?_
  exact hg _ _ hM
theorem sj_M_isRightWrong_101 {fu : Nat} {sn : Nat} {sx : Nat → Int32} {X : List am_C} {q : Nat × Nat} {tl : List am_C} {E : ThT} {G : RtT} {Q : PoT} {N : NuT} {A : PaT} {U : UnT} {Y : LiT} {K : KeT} {H : HlT} {x2 : Int32} {oo : am_O} {e : Int32} {gg : Int32 → Int32 → Option (Int32)} (hx : x_M_isRightWrong_4 sn sx X q tl E G Q N A U Y K H oo e) (hg : ∀ (x1 : Int32) (x2 : Int32), gg x1 x2 = some e → am_ev 1 k_M_isRightWrong (4, [.ref 1000, .int x1, .int x2, am_ju, am_ju, am_ju, am_ju], [], (zl sn sx, X, xr E G Q N A U Y K H tl, q)) oo) (hM : j_M_isRightWrong_101 fu gg Q x2 = some e) : am_ev 1 k_M_isRightWrong (101, [.ref 1000, am_ju, .int x2, am_ju, am_ju, am_ju, am_ju], [], (zl sn sx, X, xr E G Q N A U Y K H tl, q)) oo := by
  unfold j_M_isRightWrong_101 at hM
  refine am_ev.kg 2 (pc' := 106) (lv' := [.ref 1000, am_ju, .int x2, am_ju, am_ju, am_ju, am_ju]) (st' := [.int (1 : Int32)]) (h' := (zl sn sx, X, xr E G Q N A U Y K H tl, q)) (fun _ _ => rfl) ?_
  exact sj_M_isRightWrong_106 hx hg hM
theorem sj_M_isRightWrong_105 {fu : Nat} {sn : Nat} {sx : Nat → Int32} {X : List am_C} {q : Nat × Nat} {tl : List am_C} {E : ThT} {G : RtT} {Q : PoT} {N : NuT} {A : PaT} {U : UnT} {Y : LiT} {K : KeT} {H : HlT} {x2 : Int32} {oo : am_O} {e : Int32} {gg : Int32 → Int32 → Option (Int32)} (hx : x_M_isRightWrong_4 sn sx X q tl E G Q N A U Y K H oo e) (hg : ∀ (x1 : Int32) (x2 : Int32), gg x1 x2 = some e → am_ev 1 k_M_isRightWrong (4, [.ref 1000, .int x1, .int x2, am_ju, am_ju, am_ju, am_ju], [], (zl sn sx, X, xr E G Q N A U Y K H tl, q)) oo) (hM : j_M_isRightWrong_105 fu gg Q x2 = some e) : am_ev 1 k_M_isRightWrong (105, [.ref 1000, am_ju, .int x2, am_ju, am_ju, am_ju, am_ju], [], (zl sn sx, X, xr E G Q N A U Y K H tl, q)) oo := by
  unfold j_M_isRightWrong_105 at hM
  refine am_ev.kg 1 (pc' := 106) (lv' := [.ref 1000, am_ju, .int x2, am_ju, am_ju, am_ju, am_ju]) (st' := [.int (0 : Int32)]) (h' := (zl sn sx, X, xr E G Q N A U Y K H tl, q)) (fun _ _ => rfl) ?_
  exact sj_M_isRightWrong_106 hx hg hM
theorem sj_M_isRightWrong_78 {fu : Nat} {sn : Nat} {sx : Nat → Int32} {X : List am_C} {q : Nat × Nat} {tl : List am_C} {E : ThT} {G : RtT} {Q : PoT} {N : NuT} {A : PaT} {U : UnT} {Y : LiT} {K : KeT} {H : HlT} {x1 : Int32} {x2 : Int32} {s0 : Int32} {oo : am_O} {e : Int32} {gg : Int32 → Int32 → Option (Int32)} (hx : x_M_isRightWrong_4 sn sx X q tl E G Q N A U Y K H oo e) (hg : ∀ (x1 : Int32) (x2 : Int32), gg x1 x2 = some e → am_ev 1 k_M_isRightWrong (4, [.ref 1000, .int x1, .int x2, am_ju, am_ju, am_ju, am_ju], [], (zl sn sx, X, xr E G Q N A U Y K H tl, q)) oo) (hM : j_M_isRightWrong_78 fu gg Q x1 x2 s0 = some e) : am_ev 1 k_M_isRightWrong (78, [.ref 1000, .int x1, .int x2, am_ju, am_ju, am_ju, am_ju], [.int s0], (zl sn sx, X, xr E G Q N A U Y K H tl, q)) oo := by
  unfold j_M_isRightWrong_78 at hM
  rcases am_if hM with ⟨c1, hM⟩ | ⟨c1, hM⟩
  · refine am_ev.kt 3 101 84 [.ref 1000, .int x1, .int x2, am_ju, am_ju, am_ju, .int s0] [] (zl sn sx, X, xr E G Q N A U Y K H tl, q) c1 (fun _ _ => rfl) ?_
    refine am_ev.wk (lv' := [.ref 1000, am_ju, .int x2, am_ju, am_ju, am_ju, am_ju]) (am_lc (Or.inr rfl) (am_lc (Or.inl rfl) (am_lc (Or.inr rfl) (am_lc (Or.inr rfl) (am_lc (Or.inr rfl) (am_lc (Or.inr rfl) (am_lc (Or.inl rfl) am_ln))))))) ?_
    exact sj_M_isRightWrong_101 hx hg hM
  · refine am_ev.ke 3 101 84 [.ref 1000, .int x1, .int x2, am_ju, am_ju, am_ju, .int s0] [] (zl sn sx, X, xr E G Q N A U Y K H tl, q) c1 (fun _ _ => rfl) ?_
    rcases am_if hM with ⟨c2, hM⟩ | ⟨c2, hM⟩
    · refine am_ev.kt 8 105 96 [.ref 1000, .int x1, .int x2, am_ju, am_ju, am_ju, .int s0] [] (zl sn sx, X, xr E G Q N A U Y K H tl, q) c2 (fun _ _ => rfl) ?_
      refine am_ev.wk (lv' := [.ref 1000, am_ju, .int x2, am_ju, am_ju, am_ju, am_ju]) (am_lc (Or.inr rfl) (am_lc (Or.inl rfl) (am_lc (Or.inr rfl) (am_lc (Or.inr rfl) (am_lc (Or.inr rfl) (am_lc (Or.inr rfl) (am_lc (Or.inl rfl) am_ln))))))) ?_
      exact sj_M_isRightWrong_105 hx hg hM
    · refine am_ev.ke 8 105 96 [.ref 1000, .int x1, .int x2, am_ju, am_ju, am_ju, .int s0] [] (zl sn sx, X, xr E G Q N A U Y K H tl, q) c2 (fun _ _ => rfl) ?_
      rcases am_if hM with ⟨c3, hM⟩ | ⟨c3, hM⟩
      · refine am_ev.kt 2 105 101 [.ref 1000, .int x1, .int x2, am_ju, am_ju, am_ju, .int s0] [] (zl sn sx, X, xr E G Q N A U Y K H tl, q) c3 (fun _ _ => rfl) ?_
        refine am_ev.wk (lv' := [.ref 1000, am_ju, .int x2, am_ju, am_ju, am_ju, am_ju]) (am_lc (Or.inr rfl) (am_lc (Or.inl rfl) (am_lc (Or.inr rfl) (am_lc (Or.inr rfl) (am_lc (Or.inr rfl) (am_lc (Or.inr rfl) (am_lc (Or.inl rfl) am_ln))))))) ?_
        exact sj_M_isRightWrong_105 hx hg hM
      · refine am_ev.ke 2 105 101 [.ref 1000, .int x1, .int x2, am_ju, am_ju, am_ju, .int s0] [] (zl sn sx, X, xr E G Q N A U Y K H tl, q) c3 (fun _ _ => rfl) ?_
        refine am_ev.wk (lv' := [.ref 1000, am_ju, .int x2, am_ju, am_ju, am_ju, am_ju]) (am_lc (Or.inr rfl) (am_lc (Or.inl rfl) (am_lc (Or.inr rfl) (am_lc (Or.inr rfl) (am_lc (Or.inr rfl) (am_lc (Or.inr rfl) (am_lc (Or.inl rfl) am_ln))))))) ?_
        exact sj_M_isRightWrong_101 hx hg hM
theorem sj_M_isRightWrong_77 {fu : Nat} {sn : Nat} {sx : Nat → Int32} {X : List am_C} {q : Nat × Nat} {tl : List am_C} {E : ThT} {G : RtT} {Q : PoT} {N : NuT} {A : PaT} {U : UnT} {Y : LiT} {K : KeT} {H : HlT} {x1 : Int32} {x2 : Int32} {oo : am_O} {e : Int32} {gg : Int32 → Int32 → Option (Int32)} (hx : x_M_isRightWrong_4 sn sx X q tl E G Q N A U Y K H oo e) (hg : ∀ (x1 : Int32) (x2 : Int32), gg x1 x2 = some e → am_ev 1 k_M_isRightWrong (4, [.ref 1000, .int x1, .int x2, am_ju, am_ju, am_ju, am_ju], [], (zl sn sx, X, xr E G Q N A U Y K H tl, q)) oo) (hM : j_M_isRightWrong_77 fu gg Q x1 x2 = some e) : am_ev 1 k_M_isRightWrong (77, [.ref 1000, .int x1, .int x2, am_ju, am_ju, am_ju, am_ju], [], (zl sn sx, X, xr E G Q N A U Y K H tl, q)) oo := by
  unfold j_M_isRightWrong_77 at hM
  refine am_ev.kg 1 (pc' := 78) (lv' := [.ref 1000, .int x1, .int x2, am_ju, am_ju, am_ju, am_ju]) (st' := [.int (0 : Int32)]) (h' := (zl sn sx, X, xr E G Q N A U Y K H tl, q)) (fun _ _ => rfl) ?_
  exact sj_M_isRightWrong_78 hx hg hM
theorem sj_M_isRightWrong_37 {fu : Nat} {sn : Nat} {sx : Nat → Int32} {X : List am_C} {q : Nat × Nat} {tl : List am_C} {E : ThT} {G : RtT} {Q : PoT} {N : NuT} {A : PaT} {U : UnT} {Y : LiT} {K : KeT} {H : HlT} {x1 : Int32} {x2 : Int32} {x3 : Int32} {x4 : Int32} {s0 : Int32} {s1 : Int32} {oo : am_O} {e : Int32} {gg : Int32 → Int32 → Option (Int32)} (hx : x_M_isRightWrong_4 sn sx X q tl E G Q N A U Y K H oo e) (hg : ∀ (x1 : Int32) (x2 : Int32), gg x1 x2 = some e → am_ev 1 k_M_isRightWrong (4, [.ref 1000, .int x1, .int x2, am_ju, am_ju, am_ju, am_ju], [], (zl sn sx, X, xr E G Q N A U Y K H tl, q)) oo) (hM : j_M_isRightWrong_37 fu gg Q x1 x2 x3 x4 s0 s1 = some e) : am_ev 1 k_M_isRightWrong (37, [.ref 1000, .int x1, .int x2, .int x3, .int x4, am_ju, am_ju], [.int s1, .int s0], (zl sn sx, X, xr E G Q N A U Y K H tl, q)) oo := by
  unfold j_M_isRightWrong_37 at hM
  obtain ⟨c4, hM⟩ := am_ifn hM
  refine am_ev.kc 6 47 [.ref 1000, .int x1, .int x2, .int x3, .int x4, .int (s0 + s1), am_ju] [.int ((po_men Q) (x4).toNatClampNeg)] (zl sn sx, X, xr E G Q N A U Y K H tl, q) c4 (fun _ _ => rfl) ?_
  rcases am_if hM with ⟨c5, hM⟩ | ⟨c5, hM⟩
  · refine am_ev.kt 6 77 57 [.ref 1000, .int x1, .int x2, .int x3, .int x4, .int (s0 + s1), am_ju] [] (zl sn sx, X, xr E G Q N A U Y K H tl, q) c5 (fun _ _ => rfl) ?_
    refine am_ev.wk (lv' := [.ref 1000, .int x1, .int x2, am_ju, am_ju, am_ju, am_ju]) (am_lc (Or.inr rfl) (am_lc (Or.inr rfl) (am_lc (Or.inr rfl) (am_lc (Or.inl rfl) (am_lc (Or.inl rfl) (am_lc (Or.inl rfl) (am_lc (Or.inr rfl) am_ln))))))) ?_
    exact sj_M_isRightWrong_77 hx hg hM
  · refine am_ev.ke 6 77 57 [.ref 1000, .int x1, .int x2, .int x3, .int x4, .int (s0 + s1), am_ju] [] (zl sn sx, X, xr E G Q N A U Y K H tl, q) c5 (fun _ _ => rfl) ?_
    obtain ⟨c6, hM⟩ := am_ifn hM
    refine am_ev.kc 4 64 [.ref 1000, .int x1, .int x2, .int x3, .int x4, .int (s0 + s1), am_ju] [.int ((po_men Q) ((s0 + s1)).toNatClampNeg)] (zl sn sx, X, xr E G Q N A U Y K H tl, q) c6 (fun _ _ => rfl) ?_
    rcases am_if hM with ⟨c7, hM⟩ | ⟨c7, hM⟩
    · refine am_ev.kt 6 77 73 [.ref 1000, .int x1, .int x2, .int x3, .int x4, .int (s0 + s1), am_ju] [] (zl sn sx, X, xr E G Q N A U Y K H tl, q) c7 (fun _ _ => rfl) ?_
      refine am_ev.wk (lv' := [.ref 1000, .int x1, .int x2, am_ju, am_ju, am_ju, am_ju]) (am_lc (Or.inr rfl) (am_lc (Or.inr rfl) (am_lc (Or.inr rfl) (am_lc (Or.inl rfl) (am_lc (Or.inl rfl) (am_lc (Or.inl rfl) (am_lc (Or.inr rfl) am_ln))))))) ?_
      exact sj_M_isRightWrong_77 hx hg hM
    · refine am_ev.ke 6 77 73 [.ref 1000, .int x1, .int x2, .int x3, .int x4, .int (s0 + s1), am_ju] [] (zl sn sx, X, xr E G Q N A U Y K H tl, q) c7 (fun _ _ => rfl) ?_
      refine am_ev.kg 2 (pc' := 78) (lv' := [.ref 1000, .int x1, .int x2, .int x3, .int x4, .int (s0 + s1), am_ju]) (st' := [.int (1 : Int32)]) (h' := (zl sn sx, X, xr E G Q N A U Y K H tl, q)) (fun _ _ => rfl) ?_
      refine am_ev.wk (lv' := [.ref 1000, .int x1, .int x2, am_ju, am_ju, am_ju, am_ju]) (am_lc (Or.inr rfl) (am_lc (Or.inr rfl) (am_lc (Or.inr rfl) (am_lc (Or.inl rfl) (am_lc (Or.inl rfl) (am_lc (Or.inl rfl) (am_lc (Or.inr rfl) am_ln))))))) ?_
      exact sj_M_isRightWrong_78 hx hg hM
theorem sb_M_isRightWrong_4 {fu : Nat} {sn : Nat} {sx : Nat → Int32} {X : List am_C} {q : Nat × Nat} {tl : List am_C} {E : ThT} {G : RtT} {Q : PoT} {N : NuT} {A : PaT} {U : UnT} {Y : LiT} {K : KeT} {H : HlT} {oo : am_O} {e : Int32} {gg : Int32 → Int32 → Option (Int32)} (hx : x_M_isRightWrong_4 sn sx X q tl E G Q N A U Y K H oo e) (hg : ∀ (x1 : Int32) (x2 : Int32), gg x1 x2 = some e → am_ev 1 k_M_isRightWrong (4, [.ref 1000, .int x1, .int x2, am_ju, am_ju, am_ju, am_ju], [], (zl sn sx, X, xr E G Q N A U Y K H tl, q)) oo) {x1 : Int32} {x2 : Int32} (hM : b_M_isRightWrong_4 fu Q gg x1 x2 = some e) : am_ev 1 k_M_isRightWrong (4, [.ref 1000, .int x1, .int x2, am_ju, am_ju, am_ju, am_ju], [], (zl sn sx, X, xr E G Q N A U Y K H tl, q)) oo := by
  unfold b_M_isRightWrong_4 at hM
  rcases am_if hM with ⟨c8, hM⟩ | ⟨c8, hM⟩
  · refine am_ev.kt 3 113 9 [.ref 1000, .int x1, .int x2, am_ju, am_ju, am_ju, am_ju] [] (zl sn sx, X, xr E G Q N A U Y K H tl, q) c8 (fun _ _ => rfl) ?_
    cases hM
    cases hx
    exact am_ev.kf 2 (fun _ _ => rfl)
  · refine am_ev.ke 3 113 9 [.ref 1000, .int x1, .int x2, am_ju, am_ju, am_ju, am_ju] [] (zl sn sx, X, xr E G Q N A U Y K H tl, q) c8 (fun _ _ => rfl) ?_
    rcases am_if hM with ⟨c9, hM⟩ | ⟨c9, hM⟩
    · refine am_ev.kt 17 36 31 [.ref 1000, .int x1, .int x2, .int (x2 / (2 : Int32)), .int (((56 : Int32) * (x2 / (2 : Int32))) + (4 : Int32)), am_ju, am_ju] [.int ((56 : Int32) * (x2 / (2 : Int32)))] (zl sn sx, X, xr E G Q N A U Y K H tl, q) c9 (fun _ _ => rfl) ?_
      refine am_ev.kg 1 (pc' := 37) (lv' := [.ref 1000, .int x1, .int x2, .int (x2 / (2 : Int32)), .int (((56 : Int32) * (x2 / (2 : Int32))) + (4 : Int32)), am_ju, am_ju]) (st' := [.int (0 : Int32), .int ((56 : Int32) * (x2 / (2 : Int32)))]) (h' := (zl sn sx, X, xr E G Q N A U Y K H tl, q)) (fun _ _ => rfl) ?_
      exact sj_M_isRightWrong_37 hx hg hM
    · refine am_ev.ke 17 36 31 [.ref 1000, .int x1, .int x2, .int (x2 / (2 : Int32)), .int (((56 : Int32) * (x2 / (2 : Int32))) + (4 : Int32)), am_ju, am_ju] [.int ((56 : Int32) * (x2 / (2 : Int32)))] (zl sn sx, X, xr E G Q N A U Y K H tl, q) c9 (fun _ _ => rfl) ?_
      refine am_ev.kg 2 (pc' := 37) (lv' := [.ref 1000, .int x1, .int x2, .int (x2 / (2 : Int32)), .int (((56 : Int32) * (x2 / (2 : Int32))) + (4 : Int32)), am_ju, am_ju]) (st' := [.int (7 : Int32), .int ((56 : Int32) * (x2 / (2 : Int32)))]) (h' := (zl sn sx, X, xr E G Q N A U Y K H tl, q)) (fun _ _ => rfl) ?_
      exact sj_M_isRightWrong_37 hx hg hM
theorem sl_M_isRightWrong_4 {fu : Nat} {sn : Nat} {sx : Nat → Int32} {X : List am_C} {q : Nat × Nat} {tl : List am_C} {E : ThT} {G : RtT} {Q : PoT} {N : NuT} {A : PaT} {U : UnT} {Y : LiT} {K : KeT} {H : HlT} {oo : am_O} {e : Int32} (hx : x_M_isRightWrong_4 sn sx X q tl E G Q N A U Y K H oo e) : ∀ (n : Nat) (x1 : Int32) (x2 : Int32), l_M_isRightWrong_4 fu Q n x1 x2 = some e → am_ev 1 k_M_isRightWrong (4, [.ref 1000, .int x1, .int x2, am_ju, am_ju, am_ju, am_ju], [], (zl sn sx, X, xr E G Q N A U Y K H tl, q)) oo
  | 0, _, _, hM => by have h : (none : Option (Int32)) = some e := hM; cases h
  | n + 1, _, _, hM => sb_M_isRightWrong_4 hx (fun _ _ hM => sl_M_isRightWrong_4 hx n _ _ hM) hM
theorem se_M_isRightWrong {fu : Nat} {sn : Nat} {sx : Nat → Int32} {X : List am_C} {q : Nat × Nat} {tl : List am_C} {E : ThT} {G : RtT} {Q : PoT} {N : NuT} {A : PaT} {U : UnT} {Y : LiT} {K : KeT} {H : HlT} {oo : am_O} {e : Int32} (hx : y_M_isRightWrong sn sx X q tl E G Q N A U Y K H oo e) (hM : f_M_isRightWrong fu Q = some e) : am_ev 1 k_M_isRightWrong (0, [.ref 1000, am_ju, am_ju, am_ju, am_ju, am_ju, am_ju], [], (zl sn sx, X, xr E G Q N A U Y K H tl, q)) oo := by
  unfold f_M_isRightWrong at hM
  refine am_ev.kg 4 (pc' := 4) (lv' := [.ref 1000, .int (0 : Int32), .int (0 : Int32), am_ju, am_ju, am_ju, am_ju]) (st' := []) (h' := (zl sn sx, X, xr E G Q N A U Y K H tl, q)) (fun _ _ => rfl) ?_
  refine sl_M_isRightWrong_4 ?_ _ _ _ hM
  exact hx
theorem s_M_isRightWrong {fu : Nat} {sn : Nat} {sx : Nat → Int32} {X : List am_C} {q : Nat × Nat} {tl : List am_C} {E : ThT} {G : RtT} {Q : PoT} {N : NuT} {A : PaT} {U : UnT} {Y : LiT} {K : KeT} {H : HlT} {ov : Int32} (hM : f_M_isRightWrong fu Q = some ov) : am_cv 2 k_M_isRightWrong [.ref 1000] (zl sn sx, X, xr E G Q N A U Y K H tl, q) (.inl (some (.int ov)), (zl sn sx, X, xr E G Q N A U Y K H tl, q)) := am_cv.of rfl (se_M_isRightWrong (e := ov) (show y_M_isRightWrong sn sx X q tl E G Q N A U Y K H _ ov from rfl) hM)
def y_M_isPassedWrong (sn : Nat) (sx : Nat → Int32) (X : List am_C) (q : Nat × Nat) (tl : List am_C) (E : ThT) (G : RtT) (Q : PoT) (N : NuT) (A : PaT) (U : UnT) (Y : LiT) (K : KeT) (H : HlT) (oo : am_O) : Int32 → Prop
  | ov => oo = (.inl (some (.int ov)), (zl sn sx, X, xr E G Q N A U Y K H tl, q))
theorem sj_M_isPassedWrong_113 {sn : Nat} {sx : Nat → Int32} {X : List am_C} {q : Nat × Nat} {tl : List am_C} {E : ThT} {G : RtT} {Q : PoT} {N : NuT} {A : PaT} {U : UnT} {Y : LiT} {K : KeT} {H : HlT} {s0 : Int32} {oo : am_O} {e : Int32} (hx : y_M_isPassedWrong sn sx X q tl E G Q N A U Y K H oo e) (hM : j_M_isPassedWrong_113 Q s0 = some e) : am_ev 3 k_M_isPassedWrong (113, [.ref 1000, am_ju, am_ju], [.int s0], (zl sn sx, X, xr E G Q N A U Y K H tl, q)) oo := by
  unfold j_M_isPassedWrong_113 at hM
  obtain ⟨rr, hc, hM⟩ := am_bind hM
  obtain ⟨r1, rfl⟩ : ∃ z, z = rr := ⟨_, rfl⟩
  refine am_ev.kg 6 (pc' := 121) (lv' := [.ref 1000, am_ju, .int s0]) (st' := [.int s0, .int (-1 : Int32), .int (po_passed Q), .ref 1000]) (h' := (zl sn sx, X, xr E G Q N A U Y K H tl, q)) (fun _ _ => rfl) ?_
  refine am_ev.call rfl rfl rfl ((s_M_step hc).mono (by decide)) ?_
  show am_ev _ k_M_isPassedWrong (124, [.ref 1000, am_ju, .int s0], [.int r1, .ref 1000], (zl sn sx, X, xr E G Q N A U Y K H tl, q)) oo
  obtain ⟨rr, hc, hM⟩ := am_bind hM
  obtain ⟨r2, rfl⟩ : ∃ z, z = rr := ⟨_, rfl⟩
  refine am_ev.kg 6 (pc' := 133) (lv' := [.ref 1000, am_ju, .int s0]) (st' := [.int ((1 : Int32) + ((8 : Int32) * (po_side Q))), .int r1, .ref 1000]) (h' := (zl sn sx, X, xr E G Q N A U Y K H tl, q)) (fun _ _ => rfl) ?_
  refine am_ev.call rfl rfl rfl ((s_M_hasMan hc).mono (by decide)) ?_
  show am_ev _ k_M_isPassedWrong (136, [.ref 1000, am_ju, .int s0], [.int r2], (zl sn sx, X, xr E G Q N A U Y K H tl, q)) oo
  rcases am_if hM with ⟨c1, hM⟩ | ⟨c1, hM⟩
  · refine am_ev.kt 1 168 139 [.ref 1000, am_ju, .int s0] [] (zl sn sx, X, xr E G Q N A U Y K H tl, q) c1 (fun _ _ => rfl) ?_
    cases hM
    cases hx
    exact am_ev.kf 2 (fun _ _ => rfl)
  · refine am_ev.ke 1 168 139 [.ref 1000, am_ju, .int s0] [] (zl sn sx, X, xr E G Q N A U Y K H tl, q) c1 (fun _ _ => rfl) ?_
    obtain ⟨rr, hc, hM⟩ := am_bind hM
    obtain ⟨r3, rfl⟩ : ∃ z, z = rr := ⟨_, rfl⟩
    refine am_ev.kg 5 (pc' := 146) (lv' := [.ref 1000, am_ju, .int s0]) (st' := [.int s0, .int (1 : Int32), .int (po_passed Q), .ref 1000]) (h' := (zl sn sx, X, xr E G Q N A U Y K H tl, q)) (fun _ _ => rfl) ?_
    refine am_ev.call rfl rfl rfl ((s_M_step hc).mono (by decide)) ?_
    show am_ev _ k_M_isPassedWrong (149, [.ref 1000, am_ju, .int s0], [.int r3, .ref 1000], (zl sn sx, X, xr E G Q N A U Y K H tl, q)) oo
    obtain ⟨rr, hc, hM⟩ := am_bind hM
    obtain ⟨r4, rfl⟩ : ∃ z, z = rr := ⟨_, rfl⟩
    refine am_ev.kg 6 (pc' := 158) (lv' := [.ref 1000, am_ju, .int s0]) (st' := [.int ((1 : Int32) + ((8 : Int32) * (po_side Q))), .int r3, .ref 1000]) (h' := (zl sn sx, X, xr E G Q N A U Y K H tl, q)) (fun _ _ => rfl) ?_
    refine am_ev.call rfl rfl rfl ((s_M_hasMan hc).mono (by decide)) ?_
    show am_ev _ k_M_isPassedWrong (161, [.ref 1000, am_ju, .int s0], [.int r4], (zl sn sx, X, xr E G Q N A U Y K H tl, q)) oo
    rcases am_if hM with ⟨c2, hM⟩ | ⟨c2, hM⟩
    · refine am_ev.kt 1 168 164 [.ref 1000, am_ju, .int s0] [] (zl sn sx, X, xr E G Q N A U Y K H tl, q) c2 (fun _ _ => rfl) ?_
      cases hM
      cases hx
      exact am_ev.kf 2 (fun _ _ => rfl)
    · refine am_ev.ke 1 168 164 [.ref 1000, am_ju, .int s0] [] (zl sn sx, X, xr E G Q N A U Y K H tl, q) c2 (fun _ _ => rfl) ?_
      cases hM
      cases hx
      exact am_ev.kf 3 (fun _ _ => rfl)
theorem sj_M_isPassedWrong_59 {sn : Nat} {sx : Nat → Int32} {X : List am_C} {q : Nat × Nat} {tl : List am_C} {E : ThT} {G : RtT} {Q : PoT} {N : NuT} {A : PaT} {U : UnT} {Y : LiT} {K : KeT} {H : HlT} {s0 : Int32} {oo : am_O} {e : Int32} (hx : y_M_isPassedWrong sn sx X q tl E G Q N A U Y K H oo e) (hM : j_M_isPassedWrong_59 Q s0 = some e) : am_ev 3 k_M_isPassedWrong (59, [.ref 1000, am_ju, am_ju], [.int s0], (zl sn sx, X, xr E G Q N A U Y K H tl, q)) oo := by
  unfold j_M_isPassedWrong_59 at hM
  obtain ⟨c3, hM⟩ := am_ifn hM
  refine am_ev.kc 8 71 [.ref 1000, .int s0, am_ju] [.int ((po_men Q) (((po_passed Q) - s0)).toNatClampNeg)] (zl sn sx, X, xr E G Q N A U Y K H tl, q) c3 (fun _ _ => rfl) ?_
  rcases am_if hM with ⟨c4, hM⟩ | ⟨c4, hM⟩
  · refine am_ev.kt 9 99 85 [.ref 1000, .int s0, am_ju] [] (zl sn sx, X, xr E G Q N A U Y K H tl, q) c4 (fun _ _ => rfl) ?_
    cases hM
    cases hx
    exact am_ev.kf 2 (fun _ _ => rfl)
  · refine am_ev.ke 9 99 85 [.ref 1000, .int s0, am_ju] [] (zl sn sx, X, xr E G Q N A U Y K H tl, q) c4 (fun _ _ => rfl) ?_
    obtain ⟨c5, hM⟩ := am_ifn hM
    refine am_ev.kc 7 96 [.ref 1000, .int s0, am_ju] [.int ((po_men Q) (((po_passed Q) + s0)).toNatClampNeg)] (zl sn sx, X, xr E G Q N A U Y K H tl, q) c5 (fun _ _ => rfl) ?_
    rcases am_if hM with ⟨c6, hM⟩ | ⟨c6, hM⟩
    · refine am_ev.kt 1 101 99 [.ref 1000, .int s0, am_ju] [] (zl sn sx, X, xr E G Q N A U Y K H tl, q) c6 (fun _ _ => rfl) ?_
      rcases am_if hM with ⟨c7, hM⟩ | ⟨c7, hM⟩
      · refine am_ev.kt 3 112 108 [.ref 1000, .int s0, am_ju] [] (zl sn sx, X, xr E G Q N A U Y K H tl, q) c7 (fun _ _ => rfl) ?_
        refine am_ev.kg 1 (pc' := 113) (lv' := [.ref 1000, .int s0, am_ju]) (st' := [.int (1 : Int32)]) (h' := (zl sn sx, X, xr E G Q N A U Y K H tl, q)) (fun _ _ => rfl) ?_
        refine am_ev.wk (lv' := [.ref 1000, am_ju, am_ju]) (am_lc (Or.inr rfl) (am_lc (Or.inl rfl) (am_lc (Or.inr rfl) am_ln))) ?_
        exact sj_M_isPassedWrong_113 hx hM
      · refine am_ev.ke 3 112 108 [.ref 1000, .int s0, am_ju] [] (zl sn sx, X, xr E G Q N A U Y K H tl, q) c7 (fun _ _ => rfl) ?_
        refine am_ev.kg 2 (pc' := 113) (lv' := [.ref 1000, .int s0, am_ju]) (st' := [.int (-1 : Int32)]) (h' := (zl sn sx, X, xr E G Q N A U Y K H tl, q)) (fun _ _ => rfl) ?_
        refine am_ev.wk (lv' := [.ref 1000, am_ju, am_ju]) (am_lc (Or.inr rfl) (am_lc (Or.inl rfl) (am_lc (Or.inr rfl) am_ln))) ?_
        exact sj_M_isPassedWrong_113 hx hM
    · refine am_ev.ke 1 101 99 [.ref 1000, .int s0, am_ju] [] (zl sn sx, X, xr E G Q N A U Y K H tl, q) c6 (fun _ _ => rfl) ?_
      cases hM
      cases hx
      exact am_ev.kf 2 (fun _ _ => rfl)
theorem sj_M_isPassedWrong_40 {sn : Nat} {sx : Nat → Int32} {X : List am_C} {q : Nat × Nat} {tl : List am_C} {E : ThT} {G : RtT} {Q : PoT} {N : NuT} {A : PaT} {U : UnT} {Y : LiT} {K : KeT} {H : HlT} {s0 : Int32} {s1 : Int32} {oo : am_O} {e : Int32} (hx : y_M_isPassedWrong sn sx X q tl E G Q N A U Y K H oo e) (hM : j_M_isPassedWrong_40 Q s0 s1 = some e) : am_ev 3 k_M_isPassedWrong (40, [.ref 1000, am_ju, am_ju], [.int s1, .int s0], (zl sn sx, X, xr E G Q N A U Y K H tl, q)) oo := by
  unfold j_M_isPassedWrong_40 at hM
  rcases am_if hM with ⟨c8, hM⟩ | ⟨c8, hM⟩
  · refine am_ev.kt 1 45 43 [.ref 1000, am_ju, am_ju] [] (zl sn sx, X, xr E G Q N A U Y K H tl, q) c8 (fun _ _ => rfl) ?_
    rcases am_if hM with ⟨c9, hM⟩ | ⟨c9, hM⟩
    · refine am_ev.kt 3 57 52 [.ref 1000, am_ju, am_ju] [] (zl sn sx, X, xr E G Q N A U Y K H tl, q) c9 (fun _ _ => rfl) ?_
      refine am_ev.kg 1 (pc' := 59) (lv' := [.ref 1000, am_ju, am_ju]) (st' := [.int (-8 : Int32)]) (h' := (zl sn sx, X, xr E G Q N A U Y K H tl, q)) (fun _ _ => rfl) ?_
      exact sj_M_isPassedWrong_59 hx hM
    · refine am_ev.ke 3 57 52 [.ref 1000, am_ju, am_ju] [] (zl sn sx, X, xr E G Q N A U Y K H tl, q) c9 (fun _ _ => rfl) ?_
      refine am_ev.kg 2 (pc' := 59) (lv' := [.ref 1000, am_ju, am_ju]) (st' := [.int (8 : Int32)]) (h' := (zl sn sx, X, xr E G Q N A U Y K H tl, q)) (fun _ _ => rfl) ?_
      exact sj_M_isPassedWrong_59 hx hM
  · refine am_ev.ke 1 45 43 [.ref 1000, am_ju, am_ju] [] (zl sn sx, X, xr E G Q N A U Y K H tl, q) c8 (fun _ _ => rfl) ?_
    cases hM
    cases hx
    exact am_ev.kf 2 (fun _ _ => rfl)
theorem se_M_isPassedWrong {sn : Nat} {sx : Nat → Int32} {X : List am_C} {q : Nat × Nat} {tl : List am_C} {E : ThT} {G : RtT} {Q : PoT} {N : NuT} {A : PaT} {U : UnT} {Y : LiT} {K : KeT} {H : HlT} {oo : am_O} {e : Int32} (hx : y_M_isPassedWrong sn sx X q tl E G Q N A U Y K H oo e) (hM : f_M_isPassedWrong Q = some e) : am_ev 3 k_M_isPassedWrong (0, [.ref 1000, am_ju, am_ju], [], (zl sn sx, X, xr E G Q N A U Y K H tl, q)) oo := by
  unfold f_M_isPassedWrong at hM
  rcases am_if hM with ⟨c10, hM⟩ | ⟨c10, hM⟩
  · refine am_ev.kt 3 9 7 [.ref 1000, am_ju, am_ju] [] (zl sn sx, X, xr E G Q N A U Y K H tl, q) c10 (fun _ _ => rfl) ?_
    obtain ⟨c11, hM⟩ := am_ifn hM
    refine am_ev.kc 5 18 [.ref 1000, am_ju, am_ju] [.int ((po_men Q) ((po_passed Q)).toNatClampNeg)] (zl sn sx, X, xr E G Q N A U Y K H tl, q) c11 (fun _ _ => rfl) ?_
    rcases am_if hM with ⟨c12, hM⟩ | ⟨c12, hM⟩
    · refine am_ev.kt 1 43 21 [.ref 1000, am_ju, am_ju] [] (zl sn sx, X, xr E G Q N A U Y K H tl, q) c12 (fun _ _ => rfl) ?_
      cases hM
      cases hx
      exact am_ev.kf 2 (fun _ _ => rfl)
    · refine am_ev.ke 1 43 21 [.ref 1000, am_ju, am_ju] [] (zl sn sx, X, xr E G Q N A U Y K H tl, q) c12 (fun _ _ => rfl) ?_
      rcases am_if hM with ⟨c13, hM⟩ | ⟨c13, hM⟩
      · refine am_ev.kt 7 39 35 [.ref 1000, am_ju, am_ju] [.int ((po_passed Q) / (8 : Int32))] (zl sn sx, X, xr E G Q N A U Y K H tl, q) c13 (fun _ _ => rfl) ?_
        refine am_ev.kg 1 (pc' := 40) (lv' := [.ref 1000, am_ju, am_ju]) (st' := [.int (2 : Int32), .int ((po_passed Q) / (8 : Int32))]) (h' := (zl sn sx, X, xr E G Q N A U Y K H tl, q)) (fun _ _ => rfl) ?_
        exact sj_M_isPassedWrong_40 hx hM
      · refine am_ev.ke 7 39 35 [.ref 1000, am_ju, am_ju] [.int ((po_passed Q) / (8 : Int32))] (zl sn sx, X, xr E G Q N A U Y K H tl, q) c13 (fun _ _ => rfl) ?_
        refine am_ev.kg 2 (pc' := 40) (lv' := [.ref 1000, am_ju, am_ju]) (st' := [.int (5 : Int32), .int ((po_passed Q) / (8 : Int32))]) (h' := (zl sn sx, X, xr E G Q N A U Y K H tl, q)) (fun _ _ => rfl) ?_
        exact sj_M_isPassedWrong_40 hx hM
  · refine am_ev.ke 3 9 7 [.ref 1000, am_ju, am_ju] [] (zl sn sx, X, xr E G Q N A U Y K H tl, q) c10 (fun _ _ => rfl) ?_
    cases hM
    cases hx
    exact am_ev.kf 2 (fun _ _ => rfl)
theorem s_M_isPassedWrong {sn : Nat} {sx : Nat → Int32} {X : List am_C} {q : Nat × Nat} {tl : List am_C} {E : ThT} {G : RtT} {Q : PoT} {N : NuT} {A : PaT} {U : UnT} {Y : LiT} {K : KeT} {H : HlT} {ov : Int32} (hM : f_M_isPassedWrong Q = some ov) : am_cv 4 k_M_isPassedWrong [.ref 1000] (zl sn sx, X, xr E G Q N A U Y K H tl, q) (.inl (some (.int ov)), (zl sn sx, X, xr E G Q N A U Y K H tl, q)) := am_cv.of rfl (se_M_isPassedWrong (e := ov) (show y_M_isPassedWrong sn sx X q tl E G Q N A U Y K H _ ov from rfl) hM)
def y_M_fault (sn : Nat) (sx : Nat → Int32) (X : List am_C) (q : Nat × Nat) (tl : List am_C) (E : ThT) (G : RtT) (A : PaT) (U : UnT) (Y : LiT) (K : KeT) (H : HlT) (oo : am_O) : Int32 × PoT × NuT → Prop
  | (ov, oQ, oN) => oo = (.inl (some (.int ov)), (zl sn sx, X, xr E G oQ oN A U Y K H tl, q))
theorem se_M_fault {fu : Nat} {sn : Nat} {sx : Nat → Int32} {X : List am_C} {q : Nat × Nat} {tl : List am_C} {E : ThT} {G : RtT} {Q : PoT} {N : NuT} {A : PaT} {U : UnT} {Y : LiT} {K : KeT} {H : HlT} {oo : am_O} {e : Int32 × PoT × NuT} (hx : y_M_fault sn sx X q tl E G A U Y K H oo e) (hM : f_M_fault fu G Q N = some e) : am_ev 6 k_M_fault (0, [.ref 1000, am_ju], [], (zl sn sx, X, xr E G Q N A U Y K H tl, q)) oo := by
  unfold f_M_fault at hM
  obtain ⟨rr, hc, hM⟩ := am_bind hM
  obtain ⟨r1, qg2⟩ := rr
  refine am_ev.kg 1 (pc' := 1) (lv' := [.ref 1000, am_ju]) (st' := [.ref 1000]) (h' := (zl sn sx, X, xr E G Q N A U Y K H tl, q)) (fun _ _ => rfl) ?_
  refine am_ev.call rfl rfl rfl ((s_M_readMen hc).mono (by decide)) ?_
  show am_ev _ k_M_fault (4, [.ref 1000, am_ju], [.int r1], (zl sn sx, X, xr E G qg2 N A U Y K H tl, q)) oo
  rcases am_if hM with ⟨c1, hM⟩ | ⟨c1, hM⟩
  · refine am_ev.kt 3 17 9 [.ref 1000, .int r1] [] (zl sn sx, X, xr E G qg2 N A U Y K H tl, q) c1 (fun _ _ => rfl) ?_
    cases hM
    cases hx
    exact am_ev.kf 2 (fun _ _ => rfl)
  · refine am_ev.ke 3 17 9 [.ref 1000, .int r1] [] (zl sn sx, X, xr E G qg2 N A U Y K H tl, q) c1 (fun _ _ => rfl) ?_
    obtain ⟨rr, hc, hM⟩ := am_bind hM
    obtain ⟨r3, qg4, ng5⟩ := rr
    refine am_ev.kg 2 (pc' := 11) (lv' := [.ref 1000, .int r1]) (st' := [.int r1, .ref 1000]) (h' := (zl sn sx, X, xr E G qg2 N A U Y K H tl, q)) (fun _ _ => rfl) ?_
    refine am_ev.call rfl rfl rfl ((s_M_readRest hc).mono (by decide)) ?_
    show am_ev _ k_M_fault (14, [.ref 1000, .int r1], [.int r3], (zl sn sx, X, xr E G qg4 ng5 A U Y K H tl, q)) oo
    rcases am_if hM with ⟨c2, hM⟩ | ⟨c2, hM⟩
    · refine am_ev.kt 1 19 17 [.ref 1000, .int r1] [] (zl sn sx, X, xr E G qg4 ng5 A U Y K H tl, q) c2 (fun _ _ => rfl) ?_
      obtain ⟨rr, hc, hM⟩ := am_bind hM
      obtain ⟨r6, rfl⟩ : ∃ z, z = rr := ⟨_, rfl⟩
      refine am_ev.kg 2 (pc' := 22) (lv' := [.ref 1000, .int r1]) (st' := [.int (6 : Int32), .ref 1000]) (h' := (zl sn sx, X, xr E G qg4 ng5 A U Y K H tl, q)) (fun _ _ => rfl) ?_
      refine am_ev.call rfl rfl rfl ((s_M_countOf hc).mono (by decide)) ?_
      show am_ev _ k_M_fault (25, [.ref 1000, .int r1], [.int r6], (zl sn sx, X, xr E G qg4 ng5 A U Y K H tl, q)) oo
      rcases am_if hM with ⟨c3, hM⟩ | ⟨c3, hM⟩
      · refine am_ev.kt 2 39 29 [.ref 1000, .int r1] [] (zl sn sx, X, xr E G qg4 ng5 A U Y K H tl, q) c3 (fun _ _ => rfl) ?_
        cases hM
        cases hx
        exact am_ev.kf 2 (fun _ _ => rfl)
      · refine am_ev.ke 2 39 29 [.ref 1000, .int r1] [] (zl sn sx, X, xr E G qg4 ng5 A U Y K H tl, q) c3 (fun _ _ => rfl) ?_
        obtain ⟨rr, hc, hM⟩ := am_bind hM
        obtain ⟨r7, rfl⟩ : ∃ z, z = rr := ⟨_, rfl⟩
        refine am_ev.kg 2 (pc' := 32) (lv' := [.ref 1000, .int r1]) (st' := [.int (14 : Int32), .ref 1000]) (h' := (zl sn sx, X, xr E G qg4 ng5 A U Y K H tl, q)) (fun _ _ => rfl) ?_
        refine am_ev.call rfl rfl rfl ((s_M_countOf hc).mono (by decide)) ?_
        show am_ev _ k_M_fault (35, [.ref 1000, .int r1], [.int r7], (zl sn sx, X, xr E G qg4 ng5 A U Y K H tl, q)) oo
        rcases am_if hM with ⟨c4, hM⟩ | ⟨c4, hM⟩
        · refine am_ev.kt 2 41 39 [.ref 1000, .int r1] [] (zl sn sx, X, xr E G qg4 ng5 A U Y K H tl, q) c4 (fun _ _ => rfl) ?_
          obtain ⟨rr, hc, hM⟩ := am_bind hM
          obtain ⟨r8, rfl⟩ : ∃ z, z = rr := ⟨_, rfl⟩
          refine am_ev.kg 1 (pc' := 42) (lv' := [.ref 1000, .int r1]) (st' := [.ref 1000]) (h' := (zl sn sx, X, xr E G qg4 ng5 A U Y K H tl, q)) (fun _ _ => rfl) ?_
          refine am_ev.call rfl rfl rfl ((s_M_hasPawnAtEnd hc).mono (by decide)) ?_
          show am_ev _ k_M_fault (45, [.ref 1000, .int r1], [.int r8], (zl sn sx, X, xr E G qg4 ng5 A U Y K H tl, q)) oo
          rcases am_if hM with ⟨c5, hM⟩ | ⟨c5, hM⟩
          · refine am_ev.kt 1 50 48 [.ref 1000, .int r1] [] (zl sn sx, X, xr E G qg4 ng5 A U Y K H tl, q) c5 (fun _ _ => rfl) ?_
            obtain ⟨rr, hc, hM⟩ := am_bind hM
            obtain ⟨r9, rfl⟩ : ∃ z, z = rr := ⟨_, rfl⟩
            refine am_ev.kg 5 (pc' := 57) (lv' := [.ref 1000, .int r1]) (st' := [.int ((1 : Int32) - (po_side qg4)), .ref 1000]) (h' := (zl sn sx, X, xr E G qg4 ng5 A U Y K H tl, q)) (fun _ _ => rfl) ?_
            refine am_ev.call rfl rfl rfl ((s_M_inCheck hc).mono (by decide)) ?_
            show am_ev _ k_M_fault (60, [.ref 1000, .int r1], [.int r9], (zl sn sx, X, xr E G qg4 ng5 A U Y K H tl, q)) oo
            rcases am_if hM with ⟨c6, hM⟩ | ⟨c6, hM⟩
            · refine am_ev.kt 1 67 63 [.ref 1000, .int r1] [] (zl sn sx, X, xr E G qg4 ng5 A U Y K H tl, q) c6 (fun _ _ => rfl) ?_
              obtain ⟨rr, hc, hM⟩ := am_bind hM
              obtain ⟨r10, rfl⟩ : ∃ z, z = rr := ⟨_, rfl⟩
              refine am_ev.kg 1 (pc' := 68) (lv' := [.ref 1000, .int r1]) (st' := [.ref 1000]) (h' := (zl sn sx, X, xr E G qg4 ng5 A U Y K H tl, q)) (fun _ _ => rfl) ?_
              refine am_ev.call rfl rfl rfl ((s_M_isRightWrong hc).mono (by decide)) ?_
              show am_ev _ k_M_fault (71, [.ref 1000, .int r1], [.int r10], (zl sn sx, X, xr E G qg4 ng5 A U Y K H tl, q)) oo
              rcases am_if hM with ⟨c7, hM⟩ | ⟨c7, hM⟩
              · refine am_ev.kt 1 78 74 [.ref 1000, .int r1] [] (zl sn sx, X, xr E G qg4 ng5 A U Y K H tl, q) c7 (fun _ _ => rfl) ?_
                obtain ⟨rr, hc, hM⟩ := am_bind hM
                obtain ⟨r11, rfl⟩ : ∃ z, z = rr := ⟨_, rfl⟩
                refine am_ev.kg 1 (pc' := 79) (lv' := [.ref 1000, .int r1]) (st' := [.ref 1000]) (h' := (zl sn sx, X, xr E G qg4 ng5 A U Y K H tl, q)) (fun _ _ => rfl) ?_
                refine am_ev.call rfl rfl rfl ((s_M_isPassedWrong hc).mono (by decide)) ?_
                show am_ev _ k_M_fault (82, [.ref 1000, .int r1], [.int r11], (zl sn sx, X, xr E G qg4 ng5 A U Y K H tl, q)) oo
                rcases am_if hM with ⟨c8, hM⟩ | ⟨c8, hM⟩
                · refine am_ev.kt 1 90 85 [.ref 1000, .int r1] [] (zl sn sx, X, xr E G qg4 ng5 A U Y K H tl, q) c8 (fun _ _ => rfl) ?_
                  cases hM
                  cases hx
                  exact am_ev.kf 2 (fun _ _ => rfl)
                · refine am_ev.ke 1 90 85 [.ref 1000, .int r1] [] (zl sn sx, X, xr E G qg4 ng5 A U Y K H tl, q) c8 (fun _ _ => rfl) ?_
                  cases hM
                  cases hx
                  exact am_ev.kf 3 (fun _ _ => rfl)
              · refine am_ev.ke 1 78 74 [.ref 1000, .int r1] [] (zl sn sx, X, xr E G qg4 ng5 A U Y K H tl, q) c7 (fun _ _ => rfl) ?_
                cases hM
                cases hx
                exact am_ev.kf 3 (fun _ _ => rfl)
            · refine am_ev.ke 1 67 63 [.ref 1000, .int r1] [] (zl sn sx, X, xr E G qg4 ng5 A U Y K H tl, q) c6 (fun _ _ => rfl) ?_
              cases hM
              cases hx
              exact am_ev.kf 3 (fun _ _ => rfl)
          · refine am_ev.ke 1 50 48 [.ref 1000, .int r1] [] (zl sn sx, X, xr E G qg4 ng5 A U Y K H tl, q) c5 (fun _ _ => rfl) ?_
            cases hM
            cases hx
            exact am_ev.kf 2 (fun _ _ => rfl)
        · refine am_ev.ke 2 41 39 [.ref 1000, .int r1] [] (zl sn sx, X, xr E G qg4 ng5 A U Y K H tl, q) c4 (fun _ _ => rfl) ?_
          cases hM
          cases hx
          exact am_ev.kf 2 (fun _ _ => rfl)
    · refine am_ev.ke 1 19 17 [.ref 1000, .int r1] [] (zl sn sx, X, xr E G qg4 ng5 A U Y K H tl, q) c2 (fun _ _ => rfl) ?_
      cases hM
      cases hx
      exact am_ev.kf 2 (fun _ _ => rfl)
theorem s_M_fault {fu : Nat} {sn : Nat} {sx : Nat → Int32} {X : List am_C} {q : Nat × Nat} {tl : List am_C} {E : ThT} {G : RtT} {Q : PoT} {N : NuT} {A : PaT} {U : UnT} {Y : LiT} {K : KeT} {H : HlT} {ov : Int32} {oQ : PoT} {oN : NuT} (hM : f_M_fault fu G Q N = some (ov, oQ, oN)) : am_cv 7 k_M_fault [.ref 1000] (zl sn sx, X, xr E G Q N A U Y K H tl, q) (.inl (some (.int ov)), (zl sn sx, X, xr E G oQ oN A U Y K H tl, q)) := am_cv.of rfl (se_M_fault (e := (ov, oQ, oN)) (show y_M_fault sn sx X q tl E G A U Y K H _ (ov, oQ, oN) from rfl) hM)
def y_M_load (sn : Nat) (sx : Nat → Int32) (X : List am_C) (q : Nat × Nat) (tl : List am_C) (U : UnT) (Y : LiT) (H : HlT) (oo : am_O) : Int32 × ThT × RtT × PoT × NuT × PaT × KeT → Prop
  | (ov, oE, oG, oQ, oN, oA, oK) => oo = (.inl (some (.int ov)), (zl sn sx, X, xr oE oG oQ oN oA U Y oK H tl, q))
theorem se_M_load {fu : Nat} {sn : Nat} {sx : Nat → Int32} {X : List am_C} {q : Nat × Nat} {tl : List am_C} {E : ThT} {G : RtT} {Q : PoT} {N : NuT} {A : PaT} {U : UnT} {Y : LiT} {K : KeT} {H : HlT} {oo : am_O} {e : Int32 × ThT × RtT × PoT × NuT × PaT × KeT} (hx : y_M_load sn sx X q tl U Y H oo e) (hM : f_M_load fu E G Q N A K = some e) : am_ev 7 k_M_load (0, [.ref 1000, am_ju], [], (zl sn sx, X, xr E G Q N A U Y K H tl, q)) oo := by
  unfold f_M_load at hM
  obtain ⟨rr, hc, hM⟩ := am_bind hM
  obtain ⟨r1, qg2, ng3⟩ := rr
  refine am_ev.kg 4 (pc' := 6) (lv' := [.ref 1000, am_ju]) (st' := [.ref 1000]) (h' := (zl sn sx, X, xr (0 : Int32) G Q N A U Y K H tl, q)) (fun _ _ => rfl) ?_
  refine am_ev.call rfl rfl rfl ((s_M_fault hc).mono (by decide)) ?_
  show am_ev _ k_M_load (9, [.ref 1000, am_ju], [.int r1], (zl sn sx, X, xr (0 : Int32) G qg2 ng3 A U Y K H tl, q)) oo
  rcases am_if hM with ⟨c1, hM⟩ | ⟨c1, hM⟩
  · refine am_ev.kt 3 24 14 [.ref 1000, .int r1] [] (zl sn sx, X, xr (0 : Int32) G qg2 ng3 A U Y K H tl, q) c1 (fun _ _ => rfl) ?_
    obtain ⟨rr, hc, hM⟩ := am_bind hM
    obtain ⟨ag4, kg5⟩ := rr
    refine am_ev.kg 7 (pc' := 35) (lv' := [.ref 1000, .int r1]) (st' := [.ref 1000]) (h' := (zl sn sx, X, xr (0 : Int32) ((rt_text G), (0 : Int32)) qg2 ng3 ((pa_pastMen A), (pa_pastSide A), (pa_pastRights A), (pa_pastPassed A), (0 : Int32)) U Y K H tl, q)) (fun _ _ => rfl) ?_
    refine am_ev.call rfl rfl rfl ((s_M_enter hc).mono (by decide)) ?_
    show am_ev _ k_M_load (38, [.ref 1000, .int r1], [], (zl sn sx, X, xr (0 : Int32) ((rt_text G), (0 : Int32)) qg2 ng3 ag4 U Y kg5 H tl, q)) oo
    cases hM
    cases hx
    exact am_ev.kf 2 (fun _ _ => rfl)
  · refine am_ev.ke 3 24 14 [.ref 1000, .int r1] [] (zl sn sx, X, xr (0 : Int32) G qg2 ng3 A U Y K H tl, q) c1 (fun _ _ => rfl) ?_
    obtain ⟨rr, hc, hM⟩ := am_bind hM
    obtain ⟨qg6, rfl⟩ : ∃ z, z = rr := ⟨_, rfl⟩
    refine am_ev.kg 3 (pc' := 19) (lv' := [.ref 1000, .int r1]) (st' := [.int (pa_plies A), .ref 1000]) (h' := (zl sn sx, X, xr (0 : Int32) G qg2 ng3 A U Y K H tl, q)) (fun _ _ => rfl) ?_
    refine am_ev.call rfl rfl rfl ((s_M_goTo hc).mono (by decide)) ?_
    show am_ev _ k_M_load (22, [.ref 1000, .int r1], [], (zl sn sx, X, xr (0 : Int32) G qg6 ng3 A U Y K H tl, q)) oo
    cases hM
    cases hx
    exact am_ev.kf 2 (fun _ _ => rfl)
theorem s_M_load {fu : Nat} {sn : Nat} {sx : Nat → Int32} {X : List am_C} {q : Nat × Nat} {tl : List am_C} {E : ThT} {G : RtT} {Q : PoT} {N : NuT} {A : PaT} {U : UnT} {Y : LiT} {K : KeT} {H : HlT} {ov : Int32} {oE : ThT} {oG : RtT} {oQ : PoT} {oN : NuT} {oA : PaT} {oK : KeT} (hM : f_M_load fu E G Q N A K = some (ov, oE, oG, oQ, oN, oA, oK)) : am_cv 8 k_M_load [.ref 1000] (zl sn sx, X, xr E G Q N A U Y K H tl, q) (.inl (some (.int ov)), (zl sn sx, X, xr oE oG oQ oN oA U Y oK H tl, q)) := am_cv.of rfl (se_M_load (e := (ov, oE, oG, oQ, oN, oA, oK)) (show y_M_load sn sx X q tl U Y H _ (ov, oE, oG, oQ, oN, oA, oK) from rfl) hM)
def y_M_new (sn : Nat) (sx : Nat → Int32) (X : List am_C) (q : Nat × Nat) (tl : List am_C) (E : ThT) (G : RtT) (N : NuT) (U : UnT) (Y : LiT) (H : HlT) (oo : am_O) : PoT × PaT × KeT → Prop
  | (oQ, oA, oK) => oo = (.inl none, (zl sn sx, X, xr E G oQ N oA U Y oK H tl, q))
def x_M_new_159 (sn : Nat) (sx : Nat → Int32) (X : List am_C) (q : Nat × Nat) (tl : List am_C) (E : ThT) (G : RtT) (N : NuT) (U : UnT) (Y : LiT) (H : HlT) (oo : am_O) : PoT × PaT × KeT → Prop
  | (oQ, oA, oK) => oo = (.inl none, (zl sn sx, X, xr E G oQ N oA U Y oK H tl, q))
theorem sj_M_new_219 {fu : Nat} {sn : Nat} {sx : Nat → Int32} {X : List am_C} {q : Nat × Nat} {tl : List am_C} {E : ThT} {G : RtT} {Q : PoT} {N : NuT} {A : PaT} {U : UnT} {Y : LiT} {K : KeT} {H : HlT} {x1 : Int32} {s0 : Int32} {oo : am_O} {e : PoT × PaT × KeT} {gg : Int32 → PoT → PaT → KeT → Option (PoT × PaT × KeT)} (hx : x_M_new_159 sn sx X q tl E G N U Y H oo e) (hg : ∀ (x1 : Int32) (Q : PoT) (A : PaT) (K : KeT), gg x1 Q A K = some e → am_ev 2 k_M_new (159, [.ref 1000, .int x1, am_ju], [], (zl sn sx, X, xr E G Q N A U Y K H tl, q)) oo) (hM : j_M_new_219 fu gg Q A K x1 s0 = some e) : am_ev 2 k_M_new (219, [.ref 1000, .int x1, am_ju], [.int s0], (zl sn sx, X, xr E G Q N A U Y K H tl, q)) oo := by
  unfold j_M_new_219 at hM
  obtain ⟨c1, hM⟩ := am_ifn hM
  refine am_ev.kc 6 227 [.ref 1000, .int x1, .int s0] [] (zl sn sx, X, xr E G ((upd (po_men Q) (x1).toNatClampNeg s0), (po_side Q), (po_rights Q), (po_passed Q), (po_clock Q)) N A U Y K H tl, q) c1 (fun _ _ => rfl) ?_
  obtain ⟨c2, hM⟩ := am_ifn hM
  refine am_ev.kc 7 237 [.ref 1000, .int x1, .int s0] [] (zl sn sx, X, xr E G ((upd (upd (po_men Q) (x1).toNatClampNeg s0) (((8 : Int32) + x1)).toNatClampNeg (1 : Int32)), (po_side Q), (po_rights Q), (po_passed Q), (po_clock Q)) N A U Y K H tl, q) c2 (fun _ _ => rfl) ?_
  obtain ⟨c3, hM⟩ := am_ifn hM
  refine am_ev.kc 7 248 [.ref 1000, .int x1, .int s0] [] (zl sn sx, X, xr E G ((upd (upd (upd (po_men Q) (x1).toNatClampNeg s0) (((8 : Int32) + x1)).toNatClampNeg (1 : Int32)) (((48 : Int32) + x1)).toNatClampNeg (9 : Int32)), (po_side Q), (po_rights Q), (po_passed Q), (po_clock Q)) N A U Y K H tl, q) c3 (fun _ _ => rfl) ?_
  obtain ⟨c4, hM⟩ := am_ifn hM
  refine am_ev.kc 9 261 [.ref 1000, .int x1, .int s0] [] (zl sn sx, X, xr E G ((upd (upd (upd (upd (po_men Q) (x1).toNatClampNeg s0) (((8 : Int32) + x1)).toNatClampNeg (1 : Int32)) (((48 : Int32) + x1)).toNatClampNeg (9 : Int32)) (((56 : Int32) + x1)).toNatClampNeg (s0 + (8 : Int32))), (po_side Q), (po_rights Q), (po_passed Q), (po_clock Q)) N A U Y K H tl, q) c4 (fun _ _ => rfl) ?_
  refine am_ev.kg 2 (pc' := 159) (lv' := [.ref 1000, .int (x1 + (1 : Int32)), .int s0]) (st' := []) (h' := (zl sn sx, X, xr E G ((upd (upd (upd (upd (po_men Q) (x1).toNatClampNeg s0) (((8 : Int32) + x1)).toNatClampNeg (1 : Int32)) (((48 : Int32) + x1)).toNatClampNeg (9 : Int32)) (((56 : Int32) + x1)).toNatClampNeg (s0 + (8 : Int32))), (po_side Q), (po_rights Q), (po_passed Q), (po_clock Q)) N A U Y K H tl, q)) (fun _ _ => rfl) ?_
  refine am_ev.wk (lv' := [.ref 1000, .int (x1 + (1 : Int32)), am_ju]) (am_lc (Or.inr rfl) (am_lc (Or.inr rfl) (am_lc (Or.inl rfl) am_ln))) ?_
  exact hg _ _ _ _ hM
theorem sj_M_new_175 {fu : Nat} {sn : Nat} {sx : Nat → Int32} {X : List am_C} {q : Nat × Nat} {tl : List am_C} {E : ThT} {G : RtT} {Q : PoT} {N : NuT} {A : PaT} {U : UnT} {Y : LiT} {K : KeT} {H : HlT} {x1 : Int32} {oo : am_O} {e : PoT × PaT × KeT} {gg : Int32 → PoT → PaT → KeT → Option (PoT × PaT × KeT)} (hx : x_M_new_159 sn sx X q tl E G N U Y H oo e) (hg : ∀ (x1 : Int32) (Q : PoT) (A : PaT) (K : KeT), gg x1 Q A K = some e → am_ev 2 k_M_new (159, [.ref 1000, .int x1, am_ju], [], (zl sn sx, X, xr E G Q N A U Y K H tl, q)) oo) (hM : j_M_new_175 fu gg Q A K x1 = some e) : am_ev 2 k_M_new (175, [.ref 1000, .int x1, am_ju], [], (zl sn sx, X, xr E G Q N A U Y K H tl, q)) oo := by
  unfold j_M_new_175 at hM
  refine am_ev.kg 2 (pc' := 219) (lv' := [.ref 1000, .int x1, am_ju]) (st' := [.int (4 : Int32)]) (h' := (zl sn sx, X, xr E G Q N A U Y K H tl, q)) (fun _ _ => rfl) ?_
  exact sj_M_new_219 hx hg hM
theorem sj_M_new_190 {fu : Nat} {sn : Nat} {sx : Nat → Int32} {X : List am_C} {q : Nat × Nat} {tl : List am_C} {E : ThT} {G : RtT} {Q : PoT} {N : NuT} {A : PaT} {U : UnT} {Y : LiT} {K : KeT} {H : HlT} {x1 : Int32} {oo : am_O} {e : PoT × PaT × KeT} {gg : Int32 → PoT → PaT → KeT → Option (PoT × PaT × KeT)} (hx : x_M_new_159 sn sx X q tl E G N U Y H oo e) (hg : ∀ (x1 : Int32) (Q : PoT) (A : PaT) (K : KeT), gg x1 Q A K = some e → am_ev 2 k_M_new (159, [.ref 1000, .int x1, am_ju], [], (zl sn sx, X, xr E G Q N A U Y K H tl, q)) oo) (hM : j_M_new_190 fu gg Q A K x1 = some e) : am_ev 2 k_M_new (190, [.ref 1000, .int x1, am_ju], [], (zl sn sx, X, xr E G Q N A U Y K H tl, q)) oo := by
  unfold j_M_new_190 at hM
  refine am_ev.kg 2 (pc' := 219) (lv' := [.ref 1000, .int x1, am_ju]) (st' := [.int (2 : Int32)]) (h' := (zl sn sx, X, xr E G Q N A U Y K H tl, q)) (fun _ _ => rfl) ?_
  exact sj_M_new_219 hx hg hM
theorem sj_M_new_204 {fu : Nat} {sn : Nat} {sx : Nat → Int32} {X : List am_C} {q : Nat × Nat} {tl : List am_C} {E : ThT} {G : RtT} {Q : PoT} {N : NuT} {A : PaT} {U : UnT} {Y : LiT} {K : KeT} {H : HlT} {x1 : Int32} {oo : am_O} {e : PoT × PaT × KeT} {gg : Int32 → PoT → PaT → KeT → Option (PoT × PaT × KeT)} (hx : x_M_new_159 sn sx X q tl E G N U Y H oo e) (hg : ∀ (x1 : Int32) (Q : PoT) (A : PaT) (K : KeT), gg x1 Q A K = some e → am_ev 2 k_M_new (159, [.ref 1000, .int x1, am_ju], [], (zl sn sx, X, xr E G Q N A U Y K H tl, q)) oo) (hM : j_M_new_204 fu gg Q A K x1 = some e) : am_ev 2 k_M_new (204, [.ref 1000, .int x1, am_ju], [], (zl sn sx, X, xr E G Q N A U Y K H tl, q)) oo := by
  unfold j_M_new_204 at hM
  refine am_ev.kg 2 (pc' := 219) (lv' := [.ref 1000, .int x1, am_ju]) (st' := [.int (3 : Int32)]) (h' := (zl sn sx, X, xr E G Q N A U Y K H tl, q)) (fun _ _ => rfl) ?_
  exact sj_M_new_219 hx hg hM
theorem sb_M_new_159 {fu : Nat} {sn : Nat} {sx : Nat → Int32} {X : List am_C} {q : Nat × Nat} {tl : List am_C} {E : ThT} {G : RtT} {N : NuT} {U : UnT} {Y : LiT} {H : HlT} {oo : am_O} {e : PoT × PaT × KeT} {gg : Int32 → PoT → PaT → KeT → Option (PoT × PaT × KeT)} (hx : x_M_new_159 sn sx X q tl E G N U Y H oo e) (hg : ∀ (x1 : Int32) (Q : PoT) (A : PaT) (K : KeT), gg x1 Q A K = some e → am_ev 2 k_M_new (159, [.ref 1000, .int x1, am_ju], [], (zl sn sx, X, xr E G Q N A U Y K H tl, q)) oo) {x1 : Int32} {Q : PoT} {A : PaT} {K : KeT} (hM : b_M_new_159 fu gg x1 Q A K = some e) : am_ev 2 k_M_new (159, [.ref 1000, .int x1, am_ju], [], (zl sn sx, X, xr E G Q N A U Y K H tl, q)) oo := by
  unfold b_M_new_159 at hM
  rcases am_if hM with ⟨c5, hM⟩ | ⟨c5, hM⟩
  · refine am_ev.kt 3 267 165 [.ref 1000, .int x1, am_ju] [] (zl sn sx, X, xr E G Q N A U Y K H tl, q) c5 (fun _ _ => rfl) ?_
    obtain ⟨rr, hc, hM⟩ := am_bind hM
    obtain ⟨ag1, kg2⟩ := rr
    refine am_ev.kg 1 (pc' := 268) (lv' := [.ref 1000, .int x1, am_ju]) (st' := [.ref 1000]) (h' := (zl sn sx, X, xr E G Q N A U Y K H tl, q)) (fun _ _ => rfl) ?_
    refine am_ev.call rfl rfl rfl ((s_M_enter hc).mono (by decide)) ?_
    show am_ev _ k_M_new (271, [.ref 1000, .int x1, am_ju], [], (zl sn sx, X, xr E G Q N ag1 U Y kg2 H tl, q)) oo
    cases hM
    cases hx
    exact am_ev.kf 1 (fun _ _ => rfl)
  · refine am_ev.ke 3 267 165 [.ref 1000, .int x1, am_ju] [] (zl sn sx, X, xr E G Q N A U Y K H tl, q) c5 (fun _ _ => rfl) ?_
    rcases am_if hM with ⟨c6, hM⟩ | ⟨c6, hM⟩
    · refine am_ev.kt 2 175 169 [.ref 1000, .int x1, am_ju] [] (zl sn sx, X, xr E G Q N A U Y K H tl, q) c6 (fun _ _ => rfl) ?_
      exact sj_M_new_175 hx hg hM
    · refine am_ev.ke 2 175 169 [.ref 1000, .int x1, am_ju] [] (zl sn sx, X, xr E G Q N A U Y K H tl, q) c6 (fun _ _ => rfl) ?_
      rcases am_if hM with ⟨c7, hM⟩ | ⟨c7, hM⟩
      · refine am_ev.kt 3 179 175 [.ref 1000, .int x1, am_ju] [] (zl sn sx, X, xr E G Q N A U Y K H tl, q) c7 (fun _ _ => rfl) ?_
        rcases am_if hM with ⟨c8, hM⟩ | ⟨c8, hM⟩
        · refine am_ev.kt 3 190 184 [.ref 1000, .int x1, am_ju] [] (zl sn sx, X, xr E G Q N A U Y K H tl, q) c8 (fun _ _ => rfl) ?_
          exact sj_M_new_190 hx hg hM
        · refine am_ev.ke 3 190 184 [.ref 1000, .int x1, am_ju] [] (zl sn sx, X, xr E G Q N A U Y K H tl, q) c8 (fun _ _ => rfl) ?_
          rcases am_if hM with ⟨c9, hM⟩ | ⟨c9, hM⟩
          · refine am_ev.kt 3 194 190 [.ref 1000, .int x1, am_ju] [] (zl sn sx, X, xr E G Q N A U Y K H tl, q) c9 (fun _ _ => rfl) ?_
            rcases am_if hM with ⟨c10, hM⟩ | ⟨c10, hM⟩
            · refine am_ev.kt 3 204 199 [.ref 1000, .int x1, am_ju] [] (zl sn sx, X, xr E G Q N A U Y K H tl, q) c10 (fun _ _ => rfl) ?_
              exact sj_M_new_204 hx hg hM
            · refine am_ev.ke 3 204 199 [.ref 1000, .int x1, am_ju] [] (zl sn sx, X, xr E G Q N A U Y K H tl, q) c10 (fun _ _ => rfl) ?_
              rcases am_if hM with ⟨c11, hM⟩ | ⟨c11, hM⟩
              · refine am_ev.kt 3 208 204 [.ref 1000, .int x1, am_ju] [] (zl sn sx, X, xr E G Q N A U Y K H tl, q) c11 (fun _ _ => rfl) ?_
                rcases am_if hM with ⟨c12, hM⟩ | ⟨c12, hM⟩
                · refine am_ev.kt 3 217 213 [.ref 1000, .int x1, am_ju] [] (zl sn sx, X, xr E G Q N A U Y K H tl, q) c12 (fun _ _ => rfl) ?_
                  refine am_ev.kg 1 (pc' := 219) (lv' := [.ref 1000, .int x1, am_ju]) (st' := [.int (6 : Int32)]) (h' := (zl sn sx, X, xr E G Q N A U Y K H tl, q)) (fun _ _ => rfl) ?_
                  exact sj_M_new_219 hx hg hM
                · refine am_ev.ke 3 217 213 [.ref 1000, .int x1, am_ju] [] (zl sn sx, X, xr E G Q N A U Y K H tl, q) c12 (fun _ _ => rfl) ?_
                  refine am_ev.kg 2 (pc' := 219) (lv' := [.ref 1000, .int x1, am_ju]) (st' := [.int (5 : Int32)]) (h' := (zl sn sx, X, xr E G Q N A U Y K H tl, q)) (fun _ _ => rfl) ?_
                  exact sj_M_new_219 hx hg hM
              · refine am_ev.ke 3 208 204 [.ref 1000, .int x1, am_ju] [] (zl sn sx, X, xr E G Q N A U Y K H tl, q) c11 (fun _ _ => rfl) ?_
                exact sj_M_new_204 hx hg hM
          · refine am_ev.ke 3 194 190 [.ref 1000, .int x1, am_ju] [] (zl sn sx, X, xr E G Q N A U Y K H tl, q) c9 (fun _ _ => rfl) ?_
            exact sj_M_new_190 hx hg hM
      · refine am_ev.ke 3 179 175 [.ref 1000, .int x1, am_ju] [] (zl sn sx, X, xr E G Q N A U Y K H tl, q) c7 (fun _ _ => rfl) ?_
        exact sj_M_new_175 hx hg hM
theorem sl_M_new_159 {fu : Nat} {sn : Nat} {sx : Nat → Int32} {X : List am_C} {q : Nat × Nat} {tl : List am_C} {E : ThT} {G : RtT} {N : NuT} {U : UnT} {Y : LiT} {H : HlT} {oo : am_O} {e : PoT × PaT × KeT} (hx : x_M_new_159 sn sx X q tl E G N U Y H oo e) : ∀ (n : Nat) (x1 : Int32) (Q : PoT) (A : PaT) (K : KeT), l_M_new_159 fu n x1 Q A K = some e → am_ev 2 k_M_new (159, [.ref 1000, .int x1, am_ju], [], (zl sn sx, X, xr E G Q N A U Y K H tl, q)) oo
  | 0, _, _, _, _, hM => by have h : (none : Option (PoT × PaT × KeT)) = some e := hM; cases h
  | n + 1, _, _, _, _, hM => sb_M_new_159 hx (fun _ _ _ _ hM => sl_M_new_159 hx n _ _ _ _ hM) hM
theorem se_M_new {fu : Nat} {sn : Nat} {sx : Nat → Int32} {X : List am_C} {q : Nat × Nat} {tl : List am_C} {E : ThT} {G : RtT} {Q : PoT} {N : NuT} {A : PaT} {U : UnT} {Y : LiT} {K : KeT} {H : HlT} {oo : am_O} {e : PoT × PaT × KeT} (hx : y_M_new sn sx X q tl E G N U Y H oo e) (hM : f_M_new fu Q A K = some e) : am_ev 2 k_M_new (157, [.ref 1000, am_ju, am_ju], [], (zl sn sx, X, xr E G Q N A U Y K H tl, q)) oo := by
  unfold f_M_new at hM
  refine am_ev.kg 2 (pc' := 159) (lv' := [.ref 1000, .int (0 : Int32), am_ju]) (st' := []) (h' := (zl sn sx, X, xr E G Q N A U Y K H tl, q)) (fun _ _ => rfl) ?_
  obtain ⟨oQ, oA, oK⟩ := e
  refine sl_M_new_159 ?_ _ _ _ _ _ hM
  exact hx
