/-! THE REFERENCE FINDS MOVES -/
theorem usm_r (U : UnT) (j : Nat) : usm U U j := ⟨rfl, rfl, rfl, rfl, rfl⟩
theorem usm_t {U V W : UnT} {j : Nat} (h : usm U V j) (g : usm V W j) : usm U W j := ⟨g.1.trans h.1, g.2.1.trans h.2.1, g.2.2.1.trans h.2.2.1, g.2.2.2.1.trans h.2.2.2.1, g.2.2.2.2.trans h.2.2.2.2⟩
theorem lgc (x y : Int64) : lg_cmp x y = 0 ↔ x = y := by
  unfold lg_cmp
  by_cases h1 : x > y
  · rw [if_pos h1]
    exact ⟨fun h => absurd h (by decide), fun h => absurd h1 (by rw [h]; exact Int64.lt_irrefl)⟩
  · rw [if_neg h1]
    by_cases h2 : x = y
    · rw [if_pos h2]; exact ⟨fun _ => h2, fun _ => rfl⟩
    · rw [if_neg h2]; exact ⟨fun h => absurd h (by decide), fun h => absurd h h2⟩
theorem bt1 : ∀ i : Fin 64, bt 1 i = decide (i.val = 0) := by decide +kernel
theorem sh_bit (x : Int64) {k : Nat} (hk : k < 64) : lg_cmp (am_shr x (nI k) &&& 1) 1 = 0 ↔ bt x k = true := by
  rw [lgc]
  have e0 : bt (am_shr x (nI k)) 0 = bt x k := by rw [bt_shr x hk (by omega), Nat.zero_add]
  constructor
  · intro h
    have := bt_and (am_shr x (nI k)) 1 0
    rw [h, e0, show bt 1 0 = true from by decide, Bool.and_true] at this
    exact this.symm
  · intro h
    refine bt_ext (fun i hi => ?_)
    rw [bt_and, bt1 ⟨i, hi⟩]
    by_cases h0 : i = 0
    · subst h0; rw [e0, h]; rfl
    · rw [decide_eq_false h0, Bool.and_false]
theorem sh_end (x : Int64) {k : Nat} (hk : k < 64) (h : lg_cmp (am_shr x (nI k)) 0 = 0) : ∀ i, k ≤ i → i < 64 → bt x i = false := by
  intro i h1 h2
  have := (bt_z _).mp ((lg0 _).mp h) (i - k) (by omega)
  rw [bt_shr x hk (by omega), show i - k + k = i by omega] at this
  exact this
def YL (Y Y0 : LiT) (far : Nat) (L : List Mv) : Prop := (∀ i v, L[i]? = some v → li_lists Y (2048 * far + i) = cd v) ∧ ∀ j, (j < 2048 * far ∨ 2048 * (far + 1) ≤ j) → li_lists Y j = li_lists Y0 j
theorem mul2048 : ∀ k : Fin 16, (2048 : Int32) * nI k = nI (2048 * k.val) := by decide +kernel
theorem yl_add {Y Y0 : LiT} {far : Nat} {L : List Mv} (h : YL Y Y0 far L) (hl : L.length < 2048) (v : Mv) (cs : Nat → Int32) : YL (upd (li_lists Y) (2048 * far + L.length) (cd v), cs) Y0 far (L ++ [v]) := by
  obtain ⟨h1, h2⟩ := h
  refine ⟨fun i u hu => ?_, fun j hj => ?_⟩
  · show upd (li_lists Y) (2048 * far + L.length) (cd v) (2048 * far + i) = cd u
    rw [List.getElem?_append] at hu
    by_cases hi : i < L.length
    · rw [if_pos hi] at hu
      rw [upd_o _ _ (by omega)]
      exact h1 i u hu
    · rw [if_neg hi] at hu
      have : i - L.length = 0 := by
        apply Classical.byContradiction
        intro q
        obtain ⟨k, hk⟩ : ∃ k, i - L.length = k + 1 := Nat.exists_eq_succ_of_ne_zero q
        rw [hk] at hu
        cases hu
      rw [this] at hu
      rw [show i = L.length by omega, upd_s]
      cases hu
      rfl
  · show upd (li_lists Y) (2048 * far + L.length) (cd v) j = li_lists Y0 j
    rw [upd_o _ _ (by omega)]
    exact h2 j hj
theorem rf_124 (fu : Nat) (hfu : 64 < fu) (z : Pz) (hG : Gz z) (far : Nat) (hfar : far < 10) (s t : Nat) (hs : s < 64) (ht : t < 64) (ho : own (zm z) (zc z) s = true) (htz : tz z s t = true) (l4 : Int64) (x7 : Int32) (e : Nat) (he : e = if x7 = 0 then 0 else 5) (hpw : ¬ x7 = 0 → zm z s &&& 7 = 1) (Y0 : LiT) : ∀ (j n : Nat) (Q : PoT) (U : UnT) (Y : LiT) (L : List Mv), j ≤ e + 1 → j < n → RQ Q z → YL Y Y0 far L → (L ++ ((List.range' (e + 1 - j) j).map (fun pr => (s, t, pr))).filter (lgv z)).length ≤ 2048 → ∃ Q' U' Y', l_M_list_124 fu (nI far) (nI s) l4 (nI t) x7 n (nI L.length) (nI (e + 1 - j)) Q U Y = some (nI (L ++ ((List.range' (e + 1 - j) j).map (fun pr => (s, t, pr))).filter (lgv z)).length, Q', U', Y') ∧ RQ Q' z ∧ (∀ i, ¬ i = 10 → usm U U' i) ∧ YL Y' Y0 far (L ++ ((List.range' (e + 1 - j) j).map (fun pr => (s, t, pr))).filter (lgv z)) := by
  have he5 : e ≤ 5 := by rw [he]; split <;> omega
  have h136 : ∀ gg Q U Y x2 x8, b_M_list_124 fu (nI far) (nI s) l4 (nI t) x7 gg x2 x8 Q U Y = j_M_list_136 fu gg Q U Y (nI far) x2 (nI s) l4 (nI t) x7 x8 x8 (nI e) := by
    intro gg Q U Y x2 x8
    unfold b_M_list_124
    by_cases h7 : x7 = 0
    · rw [if_pos h7, he, if_pos h7]; rfl
    · rw [if_neg h7, he, if_neg h7]; rfl
  intro j
  induction j with
  | zero =>
    intro n Q U Y L _ hn hQ hY hl
    obtain ⟨n, rfl⟩ : ∃ m, n = m + 1 := ⟨n - 1, by omega⟩
    refine ⟨Q, U, Y, ?_, hQ, fun i _ => usm_r U i, by simpa using hY⟩
    show b_M_list_124 fu (nI far) (nI s) l4 (nI t) x7 _ _ (nI (e + 1 - 0)) Q U Y = _
    rw [h136]
    unfold j_M_list_136
    rw [if_pos (nI_lt (by omega) (by omega))]
    simp
  | succ j ih =>
    intro n Q U Y L hj hn hQ hY hl
    obtain ⟨n, rfl⟩ : ∃ m, n = m + 1 := ⟨n - 1, by omega⟩
    show ∃ Q' U' Y', b_M_list_124 fu (nI far) (nI s) l4 (nI t) x7 (l_M_list_124 fu (nI far) (nI s) l4 (nI t) x7 n) (nI L.length) (nI (e + 1 - (j + 1))) Q U Y = _ ∧ _
    rw [h136]
    generalize hpr : e + 1 - (j + 1) = pr at hl ⊢
    have hp1 : e + 1 - j = pr + 1 := by omega
    rw [List.range'_succ, List.map_cons, List.filter_cons] at hl ⊢
    have hv : vm z s t pr := vm_tg hG hs ht ho htz (by omega) (fun q => hpw (fun w => by rw [if_pos w] at he; omega))
    obtain ⟨Q1, U1, e1, e2, e3⟩ := rf_legal fu hfu Q U z s t pr hQ hG.1.1 hG.1.2.2.1 hv
    have m1 := mul64 ⟨t, ht⟩
    have m2 := mul4096 ⟨pr, by omega⟩
    have m3 := mul2048 ⟨far, by omega⟩
    simp only at m1 m2 m3
    unfold j_M_list_136 j_M_list_181
    rw [if_neg (nI_nlt (by omega) (by omega)), m1, m2, nI_add, nI_add, e1]
    simp only [Option.bind_some]
    have hlv : lgv z (s, t, pr) = lg z s t pr := rfl
    rw [hlv] at hl ⊢
    cases hq : lg z s t pr with
    | false =>
      rw [hq] at hl
      simp only [Bool.false_eq_true, if_false] at hl ⊢
      rw [if_pos (by decide), nI_1]
      rw [← hp1] at hl ⊢
      obtain ⟨Q2, U2, Y2, a1, a2, a3, a4⟩ := ih n Q1 U1 Y L (by omega) (by omega) e2 hY hl
      exact ⟨Q2, U2, Y2, a1, a2, fun i hi => usm_t (e3 i hi) (a3 i hi), a4⟩
    | true =>
      rw [hq] at hl
      simp only [if_true] at hl ⊢
      have hlen : L.length < 2048 := by simp at hl; omega
      rw [if_neg (by decide), m3, nI_add, if_pos (pu_in (show 2048 * far + L.length < 20480 by omega) (by decide)), nI_clamp (show 2048 * far + L.length < _ by omega), nI_1, nI_1]
      have hY1 := yl_add hY hlen (s, t, pr) (li_counts Y)
      rw [← hp1] at hl ⊢
      have hap : L ++ (s, t, pr) :: ((List.range' (e + 1 - j) j).map (fun pr => (s, t, pr))).filter (lgv z) = (L ++ [(s, t, pr)]) ++ ((List.range' (e + 1 - j) j).map (fun pr => (s, t, pr))).filter (lgv z) := by simp
      rw [hap] at hl ⊢
      obtain ⟨Q2, U2, Y2, a1, a2, a3, a4⟩ := ih n Q1 U1 _ (L ++ [(s, t, pr)]) (by omega) (by omega) e2 hY1 hl
      refine ⟨Q2, U2, Y2, ?_, a2, fun i hi => usm_t (e3 i hi) (a3 i hi), a4⟩
      rw [← a1]
      simp only [List.length_append, List.length_cons, List.length_nil, Nat.zero_add]
      rfl
/-- the squares of a set that hold no man of the side to move -/
def sq (z : Pz) (x : Int64) (t : Nat) : Bool := bt x t && !own (zm z) (zc z) t
theorem rf_36 (fu : Nat) (hfu : 64 < fu) (z : Pz) (hG : Gz z) (far : Nat) (hfar : far < 10) (s : Nat) (hs : s < 64) (x : Int64) (hx : ∀ t, t < 64 → sq z x t = true → own (zm z) (zc z) s = true ∧ tz z s t = true) (Y0 : LiT) : ∀ (j n : Nat) (Q : PoT) (U : UnT) (Y : LiT) (L : List Mv), j ≤ 64 → j < n → RQ Q z → YL Y Y0 far L → (L ++ (((List.range' (64 - j) j).filter (sq z x)).flatMap (mvt z s)).filter (lgv z)).length ≤ 2048 → ∃ Q' U' Y', l_M_list_36 fu (nI far) (nI s) x n (nI L.length) (nI (64 - j)) Q U Y = some (nI (L ++ (((List.range' (64 - j) j).filter (sq z x)).flatMap (mvt z s)).filter (lgv z)).length, Q', U', Y') ∧ RQ Q' z ∧ (∀ i, ¬ i = 10 → usm U U' i) ∧ YL Y' Y0 far (L ++ (((List.range' (64 - j) j).filter (sq z x)).flatMap (mvt z s)).filter (lgv z)) := by
  have hc2 := hG.1.1.2.1
  intro j
  induction j with
  | zero =>
    intro n Q U Y L _ hn hQ hY hl
    obtain ⟨n, rfl⟩ : ∃ m, n = m + 1 := ⟨n - 1, by omega⟩
    refine ⟨Q, U, Y, ?_, hQ, fun i _ => usm_r U i, by simpa using hY⟩
    show b_M_list_36 fu (nI far) (nI s) x _ _ (nI 64) Q U Y = _
    unfold b_M_list_36
    rw [if_pos (by decide)]
    simp
  | succ j ih =>
    intro n Q U Y L hj hn hQ hY hl
    obtain ⟨n, rfl⟩ : ∃ m, n = m + 1 := ⟨n - 1, by omega⟩
    show ∃ Q' U' Y', b_M_list_36 fu (nI far) (nI s) x (l_M_list_36 fu (nI far) (nI s) x n) (nI L.length) (nI (64 - (j + 1))) Q U Y = _ ∧ _
    generalize htt : 64 - (j + 1) = t at hl ⊢
    have ht1 : 64 - j = t + 1 := by omega
    have ht : t < 64 := by omega
    unfold b_M_list_36
    rw [if_neg (show ¬ (64 : Int32) ≤ nI t from nI_ge (b := 64) ht (by decide))]
    by_cases hend : lg_cmp (am_shr x (nI t)) 0 = 0
    · rw [if_pos hend]
      have hnil : (List.range' t (j + 1)).filter (sq z x) = [] := List.filter_eq_nil_iff.mpr (fun i hi => by
        have := List.mem_range'_1.mp hi
        unfold sq
        rw [sh_end x ht hend i this.1 (by omega)]; simp)
      rw [hnil]
      exact ⟨Q, U, Y, by simp, hQ, fun i _ => usm_r U i, by simpa using hY⟩
    · rw [if_neg hend]
      rw [List.range'_succ, List.filter_cons] at hl ⊢
      rw [← ht1] at hl ⊢
      have next : sq z x t = false → ∃ Q' U' Y', j_M_list_187 fu (l_M_list_36 fu (nI far) (nI s) x n) Q U Y (nI far) (nI L.length) (nI s) x (nI t) = some (nI (L ++ (((List.range' (64 - j) j).filter (sq z x)).flatMap (mvt z s)).filter (lgv z)).length, Q', U', Y') ∧ RQ Q' z ∧ (∀ i, ¬ i = 10 → usm U U' i) ∧ YL Y' Y0 far (L ++ (((List.range' (64 - j) j).filter (sq z x)).flatMap (mvt z s)).filter (lgv z)) := by
        intro hsq
        rw [hsq] at hl
        simp only [Bool.false_eq_true, if_false] at hl
        unfold j_M_list_187
        rw [nI_1, ← ht1]
        exact ih n Q U Y L (by omega) (by omega) hQ hY hl
      by_cases hb : bt x t = true
      · rw [if_neg (fun q => q ((sh_bit x ht).mpr hb)), hQ.2.1, pu_isOf Q (by rw [hQ.1]; exact hG.1.1.1) ht hc2, hQ.1]
        simp only [Option.bind_some]
        cases hot : own (zm z) (zc z) t with
        | true =>
          have hsq : sq z x t = false := by unfold sq; rw [hot]; simp
          rw [if_pos (by decide)]
          have := next hsq
          rw [hsq]
          simpa using this
        | false =>
          have hsq : sq z x t = true := by unfold sq; rw [hb, hot]; rfl
          obtain ⟨ho, htz⟩ := hx t ht hsq
          rw [if_neg (by decide), if_pos (pu_in hs (by decide)), nI_clamp (by omega)]
          unfold f_M_kind
          simp only [Option.bind_some]
          rw [hsq] at hl ⊢
          simp only [if_true, List.flatMap_cons, List.filter_append] at hl ⊢
          have go : ∀ (x7 : Int32) (e i : Nat), i ≤ e + 1 → (e = if x7 = 0 then 0 else 5) → (¬ x7 = 0 → zm z s &&& 7 = 1) → mvt z s t = (List.range' (e + 1 - i) i).map (fun pr => (s, t, pr)) → ∃ Q' U' Y', j_M_list_122 fu (l_M_list_36 fu (nI far) (nI s) x n) Q U Y (nI far) (nI L.length) (nI s) x (nI t) x7 (nI (e + 1 - i)) = some (nI (L ++ ((mvt z s t).filter (lgv z) ++ (((List.range' (64 - j) j).filter (sq z x)).flatMap (mvt z s)).filter (lgv z))).length, Q', U', Y') ∧ RQ Q' z ∧ (∀ i, ¬ i = 10 → usm U U' i) ∧ YL Y' Y0 far (L ++ ((mvt z s t).filter (lgv z) ++ (((List.range' (64 - j) j).filter (sq z x)).flatMap (mvt z s)).filter (lgv z))) := by
            intro x7 e i hi he hpw hmv
            unfold j_M_list_122 j_M_list_187
            rw [hmv] at hl ⊢
            have he5 : e ≤ 5 := by rw [he]; split <;> omega
            obtain ⟨Q1, U1, Y1, a1, a2, a3, a4⟩ := rf_124 fu hfu z hG far hfar s t hs ht ho htz x x7 e he hpw Y0 i fu Q U Y L hi (by omega) hQ hY (by simp only [List.length_append] at hl ⊢; omega)
            rw [a1]
            simp only [Option.bind_some]
            rw [nI_1, ← ht1]
            rw [← List.append_assoc] at hl ⊢
            obtain ⟨Q2, U2, Y2, b1, b2, b3, b4⟩ := ih n Q1 U1 Y1 _ (by omega) (by omega) a2 a4 hl
            exact ⟨Q2, U2, Y2, b1, b2, fun i hi => usm_t (a3 i hi) (b3 i hi), b4⟩
          have no : ¬ (zm z s &&& 7 = 1 ∧ (t < 8 ∨ 55 < t)) → ∃ Q' U' Y', j_M_list_109 fu (l_M_list_36 fu (nI far) (nI s) x n) Q U Y (nI far) (nI L.length) (nI s) x (nI t) = some (nI (L ++ ((mvt z s t).filter (lgv z) ++ (((List.range' (64 - j) j).filter (sq z x)).flatMap (mvt z s)).filter (lgv z))).length, Q', U', Y') ∧ RQ Q' z ∧ (∀ i, ¬ i = 10 → usm U U' i) ∧ YL Y' Y0 far (L ++ ((mvt z s t).filter (lgv z) ++ (((List.range' (64 - j) j).filter (sq z x)).flatMap (mvt z s)).filter (lgv z))) := by
            intro hn
            unfold j_M_list_109 j_M_list_110
            rw [if_pos rfl]
            exact go 0 0 1 (by omega) rfl (fun q => absurd rfl q) (by unfold mvt prs; rw [if_neg hn]; rfl)
          have yes : (zm z s &&& 7 = 1 ∧ (t < 8 ∨ 55 < t)) → ∃ Q' U' Y', j_M_list_105 fu (l_M_list_36 fu (nI far) (nI s) x n) Q U Y (nI far) (nI L.length) (nI s) x (nI t) = some (nI (L ++ ((mvt z s t).filter (lgv z) ++ (((List.range' (64 - j) j).filter (sq z x)).flatMap (mvt z s)).filter (lgv z))).length, Q', U', Y') ∧ RQ Q' z ∧ (∀ i, ¬ i = 10 → usm U U' i) ∧ YL Y' Y0 far (L ++ ((mvt z s t).filter (lgv z) ++ (((List.range' (64 - j) j).filter (sq z x)).flatMap (mvt z s)).filter (lgv z))) := by
            intro hn
            unfold j_M_list_105 j_M_list_110
            rw [if_neg (by decide)]
            exact go 1 5 4 (by omega) rfl (fun _ => hn.1) (by unfold mvt prs; rw [if_pos hn]; rfl)
          by_cases h1 : zm z s &&& 7 = 1
          · rw [if_neg (fun q => q h1)]
            by_cases h8 : t < 8
            · rw [if_pos (show nI t < 8 from nI_lt (b := 8) h8 (by decide))]
              exact yes ⟨h1, Or.inl h8⟩
            · rw [if_neg (show ¬ nI t < 8 from nI_nlt (b := 8) (by omega) (by omega))]
              by_cases h55 : 55 < t
              · rw [if_neg (show ¬ nI t ≤ 55 from nI_ge (a := 55) h55 (by omega))]
                exact yes ⟨h1, Or.inr h55⟩
              · rw [if_pos (show nI t ≤ 55 from nI_le (b := 55) (by omega) (by decide))]
                exact no (fun q => by omega)
          · rw [if_pos h1]
            exact no (fun q => h1 q.1)
      · rw [if_pos (fun q => hb ((sh_bit x ht).mp q))]
        have hsq : sq z x t = false := by
          unfold sq
          rw [Bool.not_eq_true] at hb
          rw [hb]; rfl
        have := next hsq
        rw [hsq]
        simpa using this
theorem rf_4 (fu : Nat) (hfu : 64 < fu) (z : Pz) (hG : Gz z) (far : Nat) (hfar : far < 10) (Y0 : LiT) : ∀ (j n : Nat) (Q : PoT) (U : UnT) (Y : LiT) (L : List Mv), j ≤ 64 → j < n → RQ Q z → YL Y Y0 far L → (L ++ (((List.range' (64 - j) j).filter (fun s => own (zm z) (zc z) s)).flatMap (mvs z)).filter (lgv z)).length ≤ 2048 → ∃ Q' U' Y', l_M_list_4 fu (nI far) n (nI L.length) (nI (64 - j)) Q U Y = some (nI (L ++ (((List.range' (64 - j) j).filter (fun s => own (zm z) (zc z) s)).flatMap (mvs z)).filter (lgv z)).length, Q', U', Y') ∧ RQ Q' z ∧ (∀ i, ¬ i = 10 → usm U U' i) ∧ YL Y' Y0 far (L ++ (((List.range' (64 - j) j).filter (fun s => own (zm z) (zc z) s)).flatMap (mvs z)).filter (lgv z)) := by
  have hc2 := hG.1.1.2.1
  intro j
  induction j with
  | zero =>
    intro n Q U Y L _ hn hQ hY hl
    obtain ⟨n, rfl⟩ : ∃ m, n = m + 1 := ⟨n - 1, by omega⟩
    refine ⟨Q, U, Y, ?_, hQ, fun i _ => usm_r U i, by simpa using hY⟩
    show b_M_list_4 fu (nI far) _ _ (nI 64) Q U Y = _
    unfold b_M_list_4
    rw [if_pos (by decide)]
    simp
  | succ j ih =>
    intro n Q U Y L hj hn hQ hY hl
    obtain ⟨n, rfl⟩ : ∃ m, n = m + 1 := ⟨n - 1, by omega⟩
    show ∃ Q' U' Y', b_M_list_4 fu (nI far) (l_M_list_4 fu (nI far) n) (nI L.length) (nI (64 - (j + 1))) Q U Y = _ ∧ _
    generalize hss : 64 - (j + 1) = s at hl ⊢
    have hs1 : 64 - j = s + 1 := by omega
    have hs : s < 64 := by omega
    unfold b_M_list_4
    rw [if_neg (show ¬ (64 : Int32) ≤ nI s from nI_ge (b := 64) hs (by decide)), hQ.2.1, pu_isOf Q (by rw [hQ.1]; exact hG.1.1.1) hs hc2, hQ.1]
    simp only [Option.bind_some]
    rw [List.range'_succ, List.filter_cons, ← hs1] at hl
    rw [List.range'_succ, List.filter_cons, ← hs1]
    cases ho : own (zm z) (zc z) s with
    | false =>
      rw [ho] at hl
      simp only [Bool.false_eq_true, if_false] at hl ⊢
      rw [if_pos (by decide)]
      unfold j_M_list_31 j_M_list_193
      have hnil : (List.range' (64 - 64) 64).filter (sq z 0) = [] := List.filter_eq_nil_iff.mpr (fun i hi => by
        unfold sq; rw [bt_0]; simp)
      obtain ⟨Q1, U1, Y1, a1, a2, a3, a4⟩ := rf_36 fu hfu z hG far hfar s hs 0 (fun t _ h => by unfold sq at h; rw [bt_0] at h; cases h) Y0 64 fu Q U Y L (by omega) (by omega) hQ hY (by rw [hnil]; simp only [List.flatMap_nil, List.filter_nil, List.append_nil, List.length_append] at hl ⊢; omega)
      rw [hnil] at a1 a4
      simp only [List.flatMap_nil, List.filter_nil, List.append_nil] at a1 a4
      rw [show (0 : Int32) = nI (64 - 64) from rfl, a1]
      simp only [Option.bind_some]
      rw [nI_1, ← hs1]
      obtain ⟨Q2, U2, Y2, b1, b2, b3, b4⟩ := ih n Q1 U1 Y1 L (by omega) (by omega) a2 a4 hl
      exact ⟨Q2, U2, Y2, b1, b2, fun i hi => usm_t (a3 i hi) (b3 i hi), b4⟩
    | true =>
      rw [ho] at hl
      simp only [if_true, List.flatMap_cons, List.filter_append] at hl ⊢
      rw [if_neg (by decide)]
      obtain ⟨k, hk⟩ := hG.1.2.2.1 (zc z) hc2
      obtain ⟨x, g1, g2⟩ := pu_goals fu hfu Q (by rw [hQ.1]; exact hG.1.1.1) (zc z) s k (zr z) hc2 hs hG.1.1.2.2 hQ.2.1 hQ.2.2.1 (by rw [hQ.1]; exact hk) (by rw [hQ.1]; exact ho)
      rw [hQ.1, hQ.2.2.2] at g2
      rw [g1]
      simp only [Option.bind_some]
      unfold j_M_list_31 j_M_list_193
      have hsq : ∀ t, t < 64 → sq z x t = tz z s t := fun t ht => by unfold sq tz tg; rw [g2 t ht]
      have hmv : ((List.range' (64 - 64) 64).filter (sq z x)).flatMap (mvt z s) = mvs z s := by
        unfold mvs tgs
        rw [List.range_eq_range']
        congr 1
        exact List.filter_congr (fun i hi => hsq i (by have := (List.mem_range'_1.mp hi).2; omega))
      obtain ⟨Q1, U1, Y1, a1, a2, a3, a4⟩ := rf_36 fu hfu z hG far hfar s hs x (fun t ht h => ⟨ho, by rw [← hsq t ht]; exact h⟩) Y0 64 fu Q U Y L (by omega) (by omega) hQ hY (by rw [hmv]; simp only [List.length_append] at hl ⊢; omega)
      rw [hmv] at a1 a4
      rw [show (0 : Int32) = nI (64 - 64) from rfl, a1]
      simp only [Option.bind_some]
      rw [nI_1, ← hs1]
      rw [← List.append_assoc] at hl ⊢
      obtain ⟨Q2, U2, Y2, b1, b2, b3, b4⟩ := ih n Q1 U1 Y1 _ (by omega) (by omega) a2 a4 hl
      exact ⟨Q2, U2, Y2, b1, b2, fun i hi => usm_t (a3 i hi) (b3 i hi), b4⟩
theorem lgl_le (z : Pz) : (lgl z).length ≤ (pml z).length := List.length_filter_le _ _
theorem rf_list (fu : Nat) (hfu : 64 < fu) (z : Pz) (hG : Gz z) (hN : (pml z).length ≤ 704) (far : Nat) (hfar : far < 10) (Q : PoT) (U : UnT) (Y : LiT) (hQ : RQ Q z) : ∃ Q' U' Y', f_M_list fu (nI far) Q U Y = some (nI (lgl z).length, Q', U', Y') ∧ RQ Q' z ∧ (∀ i, ¬ i = 10 → usm U U' i) ∧ YL Y' Y far (lgl z) := by
  have hle := lgl_le z
  have hL : (((List.range' (64 - 64) 64).filter (fun s => own (zm z) (zc z) s)).flatMap (mvs z)).filter (lgv z) = lgl z := by
    unfold lgl pml ows
    rw [List.range_eq_range']
  obtain ⟨Q1, U1, Y1, a1, a2, a3, a4⟩ := rf_4 fu hfu z hG far hfar Y 64 fu Q U Y [] (by omega) (by omega) hQ ⟨(fun i v h => by simp at h), fun j _ => rfl⟩ (by rw [hL]; simp only [List.nil_append]; omega)
  rw [hL, List.nil_append] at a1 a4
  unfold f_M_list
  rw [show l_M_list_4 fu (nI far) fu (0 : Int32) (0 : Int32) Q U Y = _ from a1]
  simp only [Option.bind_some]
  unfold j_M_list_199
  rw [if_pos (pu_in hfar (by decide))]
  exact ⟨Q1, U1, _, rfl, a2, a3, a4⟩
/-! .. whether there is a move at all -/
theorem rf_h33 (fu : Nat) (hfu : 64 < fu) (z : Pz) (hG : Gz z) (s : Nat) (hs : s < 64) (x : Int64) (hx : ∀ t, t < 64 → sq z x t = true → own (zm z) (zc z) s = true ∧ tz z s t = true) : ∀ (j n : Nat) (Q : PoT) (U : UnT), j ≤ 64 → j < n → RQ Q z → ∃ Q' U', l_M_hasMove_33 fu (nI s) x n (nI (64 - j)) Q U = some (cond (((List.range' (64 - j) j).filter (sq z x)).any (fun t => lg z s t 0)) (.inr (1, Q', U')) (.inl (Q', U'))) ∧ RQ Q' z ∧ ∀ i, ¬ i = 10 → usm U U' i := by
  have hc2 := hG.1.1.2.1
  intro j
  induction j with
  | zero =>
    intro n Q U _ hn hQ
    obtain ⟨n, rfl⟩ : ∃ m, n = m + 1 := ⟨n - 1, by omega⟩
    refine ⟨Q, U, ?_, hQ, fun i _ => usm_r U i⟩
    show b_M_hasMove_33 fu (nI s) x _ (nI 64) Q U = _
    unfold b_M_hasMove_33
    rw [if_pos (by decide)]
    rfl
  | succ j ih =>
    intro n Q U hj hn hQ
    obtain ⟨n, rfl⟩ : ∃ m, n = m + 1 := ⟨n - 1, by omega⟩
    show ∃ Q' U', b_M_hasMove_33 fu (nI s) x (l_M_hasMove_33 fu (nI s) x n) (nI (64 - (j + 1))) Q U = _ ∧ _
    generalize htt : 64 - (j + 1) = t
    have ht1 : 64 - j = t + 1 := by omega
    have ht : t < 64 := by omega
    unfold b_M_hasMove_33
    rw [if_neg (show ¬ (64 : Int32) ≤ nI t from nI_ge (b := 64) ht (by decide))]
    by_cases hend : lg_cmp (am_shr x (nI t)) 0 = 0
    · rw [if_pos hend]
      have hnil : (List.range' t (j + 1)).filter (sq z x) = [] := List.filter_eq_nil_iff.mpr (fun i hi => by
        have := List.mem_range'_1.mp hi
        unfold sq
        rw [sh_end x ht hend i this.1 (by omega)]; simp)
      rw [hnil]
      exact ⟨Q, U, rfl, hQ, fun i _ => usm_r U i⟩
    · rw [if_neg hend]
      rw [List.range'_succ, List.filter_cons, ← ht1]
      have next : ∀ Q U, RQ Q z → ∃ Q' U', j_M_hasMove_89 fu (l_M_hasMove_33 fu (nI s) x n) Q U (nI s) x (nI t) = some (cond (((List.range' (64 - j) j).filter (sq z x)).any (fun t => lg z s t 0)) (.inr (1, Q', U')) (.inl (Q', U'))) ∧ RQ Q' z ∧ ∀ i, ¬ i = 10 → usm U U' i := by
        intro Q U hQ
        unfold j_M_hasMove_89
        rw [nI_1, ← ht1]
        exact ih n Q U (by omega) (by omega) hQ
      by_cases hb : bt x t = true
      · rw [if_neg (fun q => q ((sh_bit x ht).mpr hb)), hQ.2.1, pu_isOf Q (by rw [hQ.1]; exact hG.1.1.1) ht hc2, hQ.1]
        simp only [Option.bind_some]
        cases hot : own (zm z) (zc z) t with
        | true =>
          have hsq : sq z x t = false := by unfold sq; rw [hot]; simp
          rw [if_pos (by decide), hsq]
          have := next Q U hQ
          simpa using this
        | false =>
          have hsq : sq z x t = true := by unfold sq; rw [hb, hot]; rfl
          obtain ⟨ho, htz⟩ := hx t ht hsq
          have hv : vm z s t 0 := vm_tg hG hs ht ho htz (by omega) (fun q => absurd rfl q)
          obtain ⟨Q1, U1, e1, e2, e3⟩ := rf_legal fu hfu Q U z s t 0 hQ hG.1.1 hG.1.2.2.1 hv
          have m1 := mul64 ⟨t, ht⟩
          simp only at m1
          rw [if_neg (by decide), m1, nI_add, show nI (s + 64 * t) = nI (s + 64 * t + 4096 * 0) from rfl, e1, hsq]
          simp only [Option.bind_some, if_true, List.any_cons]
          cases hq : lg z s t 0 with
          | true =>
            rw [if_neg (by decide)]
            exact ⟨Q1, U1, rfl, e2, e3⟩
          | false =>
            rw [if_pos (by decide), Bool.false_or]
            obtain ⟨Q2, U2, a1, a2, a3⟩ := next Q1 U1 e2
            exact ⟨Q2, U2, a1, a2, fun i hi => usm_t (e3 i hi) (a3 i hi)⟩
      · rw [if_pos (fun q => hb ((sh_bit x ht).mp q))]
        have hsq : sq z x t = false := by
          unfold sq
          rw [Bool.not_eq_true] at hb
          rw [hb]; rfl
        have := next Q U hQ
        rw [hsq]
        simpa using this
theorem rf_h2 (fu : Nat) (hfu : 64 < fu) (z : Pz) (hG : Gz z) : ∀ (j n : Nat) (Q : PoT) (U : UnT), j ≤ 64 → j < n → RQ Q z → ∃ Q' U', l_M_hasMove_2 fu n (nI (64 - j)) Q U = some (cond (((List.range' (64 - j) j).filter (fun s => own (zm z) (zc z) s)).any (cgo z)) 1 0, Q', U') ∧ RQ Q' z ∧ ∀ i, ¬ i = 10 → usm U U' i := by
  have hc2 := hG.1.1.2.1
  intro j
  induction j with
  | zero =>
    intro n Q U _ hn hQ
    obtain ⟨n, rfl⟩ : ∃ m, n = m + 1 := ⟨n - 1, by omega⟩
    refine ⟨Q, U, ?_, hQ, fun i _ => usm_r U i⟩
    show b_M_hasMove_2 fu _ (nI 64) Q U = _
    unfold b_M_hasMove_2
    rw [if_pos (by decide)]
    rfl
  | succ j ih =>
    intro n Q U hj hn hQ
    obtain ⟨n, rfl⟩ : ∃ m, n = m + 1 := ⟨n - 1, by omega⟩
    show ∃ Q' U', b_M_hasMove_2 fu (l_M_hasMove_2 fu n) (nI (64 - (j + 1))) Q U = _ ∧ _
    generalize hss : 64 - (j + 1) = s
    have hs1 : 64 - j = s + 1 := by omega
    have hs : s < 64 := by omega
    unfold b_M_hasMove_2
    rw [if_neg (show ¬ (64 : Int32) ≤ nI s from nI_ge (b := 64) hs (by decide)), hQ.2.1, pu_isOf Q (by rw [hQ.1]; exact hG.1.1.1) hs hc2, hQ.1]
    simp only [Option.bind_some]
    rw [List.range'_succ, List.filter_cons, ← hs1]
    cases ho : own (zm z) (zc z) s with
    | false =>
      simp only [Bool.false_eq_true, if_false]
      rw [if_pos (by decide)]
      unfold j_M_hasMove_29 j_M_hasMove_95
      have hnil : (List.range' (64 - 64) 64).filter (sq z 0) = [] := List.filter_eq_nil_iff.mpr (fun i hi => by
        unfold sq; rw [bt_0]; simp)
      obtain ⟨Q1, U1, a1, a2, a3⟩ := rf_h33 fu hfu z hG s hs 0 (fun t _ h => by unfold sq at h; rw [bt_0] at h; cases h) 64 fu Q U (by omega) (by omega) hQ
      rw [hnil] at a1
      rw [show (0 : Int32) = nI (64 - 64) from rfl, a1]
      simp only [Option.bind_some, List.any_nil, cond_false]
      rw [nI_1, ← hs1]
      obtain ⟨Q2, U2, b1, b2, b3⟩ := ih n Q1 U1 (by omega) (by omega) a2
      exact ⟨Q2, U2, b1, b2, fun i hi => usm_t (a3 i hi) (b3 i hi)⟩
    | true =>
      simp only [if_true, List.any_cons]
      rw [if_neg (by decide)]
      obtain ⟨k, hk⟩ := hG.1.2.2.1 (zc z) hc2
      obtain ⟨x, g1, g2⟩ := pu_goals fu hfu Q (by rw [hQ.1]; exact hG.1.1.1) (zc z) s k (zr z) hc2 hs hG.1.1.2.2 hQ.2.1 hQ.2.2.1 (by rw [hQ.1]; exact hk) (by rw [hQ.1]; exact ho)
      rw [hQ.1, hQ.2.2.2] at g2
      rw [g1]
      simp only [Option.bind_some]
      unfold j_M_hasMove_29 j_M_hasMove_95
      have hsq : ∀ t, t < 64 → sq z x t = tz z s t := fun t ht => by unfold sq tz tg; rw [g2 t ht]
      have hmv : ((List.range' (64 - 64) 64).filter (sq z x)).any (fun t => lg z s t 0) = cgo z s := by
        unfold cgo tgs
        rw [List.range_eq_range']
        congr 1
        exact List.filter_congr (fun i hi => hsq i (by have := (List.mem_range'_1.mp hi).2; omega))
      obtain ⟨Q1, U1, a1, a2, a3⟩ := rf_h33 fu hfu z hG s hs x (fun t ht h => ⟨ho, by rw [← hsq t ht]; exact h⟩) 64 fu Q U (by omega) (by omega) hQ
      rw [hmv] at a1
      rw [show (0 : Int32) = nI (64 - 64) from rfl, a1]
      cases hq : cgo z s with
      | true => exact ⟨Q1, U1, rfl, a2, a3⟩
      | false =>
        simp only [Option.bind_some, cond_false, Bool.false_or]
        rw [nI_1, ← hs1]
        obtain ⟨Q2, U2, b1, b2, b3⟩ := ih n Q1 U1 (by omega) (by omega) a2
        exact ⟨Q2, U2, b1, b2, fun i hi => usm_t (a3 i hi) (b3 i hi)⟩
theorem rf_beaten (fu : Nat) (hfu : 64 < fu) (z : Pz) (hG : Gz z) (g : Nat) (hg : g < 2) (Q : PoT) (U : UnT) (hQ : RQ Q z) : ∃ Q' U', f_M_isBeaten fu (nI g) Q U = some (cond (btn z g) 1 0, Q', U') ∧ RQ Q' z ∧ ∀ i, ¬ i = 10 → usm U U' i := by
  unfold f_M_isBeaten
  rw [hQ.2.1, rf_chk fu hfu Q z hQ hG.1.1 hG.1.2.2.1 (zc z) hG.1.1.2.1]
  simp only [Option.bind_some]
  have h17 : ∀ s1 : Int32, (s1 = cond (decide (g = 0)) 1 0) → ∃ Q' U', j_M_isBeaten_17 fu Q U (cond (chk (zm z) (zc z)) 1 0) s1 = some (cond (btn z g) 1 0, Q', U') ∧ RQ Q' z ∧ ∀ i, ¬ i = 10 → usm U U' i := by
    intro s1 hs1
    unfold j_M_isBeaten_17 btn
    by_cases he : chk (zm z) (zc z) = decide (g = 0)
    · rw [if_neg (fun q => q (by rw [hs1, he])), decide_eq_true he, Bool.true_and]
      obtain ⟨Q1, U1, a1, a2, a3⟩ := rf_h2 fu hfu z hG 64 fu Q U (by omega) (by omega) hQ
      have hm : ((List.range' (64 - 64) 64).filter (fun s => own (zm z) (zc z) s)).any (cgo z) = hmv z := by
        unfold hmv ows
        rw [List.range_eq_range']
      rw [hm] at a1
      unfold f_M_hasMove
      rw [show l_M_hasMove_2 fu fu (0 : Int32) Q U = _ from a1]
      simp only [Option.bind_some]
      cases hmv z with
      | true => rw [if_pos (by decide)]; exact ⟨Q1, U1, rfl, a2, a3⟩
      | false => rw [if_neg (by decide)]; exact ⟨Q1, U1, rfl, a2, a3⟩
    · rw [if_pos (fun q => ?_), decide_eq_false he, Bool.false_and]
      · exact ⟨Q, U, rfl, hQ, fun i _ => usm_r U i⟩
      · apply he
        rw [hs1] at q
        revert q
        cases chk (zm z) (zc z) <;> cases decide (g = 0) <;> decide
  rcases (show g = 0 ∨ g = 1 by omega) with rfl | rfl
  · rw [if_neg (by decide)]
    exact h17 1 rfl
  · rw [if_pos (by decide)]
    exact h17 0 rfl
