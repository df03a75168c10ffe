/-! THE CLASS FINDS MOVES -/
theorem cb_targets (fu : Nat) (hfu : 64 < fu) (B : BdT) (z : Pz) (l : StT) (hC : CB B z l) (hG : Gw z) (s : Nat) (hs : s < 64) (ho : own (zm z) (zc z) s = true) : ∃ r, f_Mover_targets fu (nI s) B = some r ∧ bl r = tgs z s := by
  obtain ⟨⟨r1, r2, r3, r4, r5, r6⟩, -, -⟩ := hC
  obtain ⟨p1, p2⟩ := gw_okp hG
  obtain ⟨⟨hm, hc2, hr⟩, hkk, hkz, hpn, hri, hps, hout⟩ := hG
  obtain ⟨r, e1, e2⟩ := pu_targets fu (by omega) B (by rw [r1]; exact hm) (by rw [r1]; exact hkk) (zc z) s (zr z) hc2 hs hr r3 r2 r4 (by rw [r5]; exact p1) (by rw [r5, r1]; exact p2) (by rw [r1]; exact ho)
  rw [r1, r5] at e2
  exact ⟨r, e1, bl_eq e2⟩
theorem cb_fill24 (fu : Nat) (hfu : 64 < fu) (B : BdT) (z : Pz) (l : StT) (hC : CB B z l) (hG : Gw z) : ∀ (j n i : Nat) (x : Int64) (w : RwT) (L : List Mv), (bl x).length = j → j + i ≤ 64 → j < n → (∀ s ∈ bl x, s < 64 ∧ own (zm z) (zc z) s = true) → RW w L → (L ++ (bl x).flatMap (mvs z)).length ≤ 704 → ∃ w', l_Mover_fill_24 fu B n x (nI i) w = some w' ∧ RW w' (L ++ (bl x).flatMap (mvs z)) := by
  intro j
  induction j with
  | zero =>
    intro n i x w L hx hi hn _ h hl
    obtain ⟨n, rfl⟩ : ∃ m, n = m + 1 := ⟨n - 1, by omega⟩
    have hnil : bl x = [] := List.eq_nil_of_length_eq_zero hx
    refine ⟨w, ?_, by rw [hnil]; simpa using h⟩
    show b_Mover_fill_24 fu B _ x (nI i) w = _
    unfold b_Mover_fill_24
    by_cases h64 : (64 : Int32) ≤ nI i
    · rw [if_pos h64]
    · rw [if_neg h64, if_pos]
      apply Classical.byContradiction
      intro q
      obtain ⟨k, hk⟩ := bl_split q
      rw [bl_cons hk (fun i hi => bt_rm1 hk i hi)] at hnil
      cases hnil
  | succ j ih =>
    intro n i x w L hx hi hn hown h hl
    obtain ⟨n, rfl⟩ : ∃ m, n = m + 1 := ⟨n - 1, by omega⟩
    show ∃ w', b_Mover_fill_24 fu B (l_Mover_fill_24 fu B n) x (nI i) w = some w' ∧ _
    unfold b_Mover_fill_24
    rw [if_neg (show ¬ (64 : Int32) ≤ nI i from nI_ge (b := 64) (by omega) (by decide))]
    have hne : ¬ lg_cmp x 0 = 0 := fun q => by rw [bl_nil q] at hx; cases hx
    rw [if_neg hne]
    obtain ⟨k, hk⟩ := bl_split hne
    have hk64 := hk.1
    have hc := bl_cons hk (fun i hi => bt_rm1 hk i hi)
    rw [hc] at hx hl hown ⊢
    rw [pu_lowest hk]
    simp only [Option.bind_some]
    obtain ⟨o1, o2⟩ := hown k List.mem_cons_self
    obtain ⟨r, t1, t2⟩ := cb_targets fu hfu B z l hC hG k o1 o2
    rw [t1]
    simp only [Option.bind_some]
    rw [if_pos (pu_in o1 (by decide)), nI_clamp (by omega), hC.1.1]
    rw [List.length_cons] at hx
    rw [List.flatMap_cons] at hl ⊢
    have go : ∀ x4 : Int32, (x4 = 0 ↔ ¬ zm z k &&& 7 = 1) → ∃ w', j_Mover_fill_77 fu (l_Mover_fill_24 fu B n) w B (x &&& (x - 1)) (nI i) (nI k) r x4 = some w' ∧ RW w' (L ++ (mvs z k ++ (bl (x &&& (x - 1))).flatMap (mvs z))) := by
      intro x4 hx4
      have hm : (bl r).flatMap (mvt z k) = mvs z k := by rw [t2]; rfl
      obtain ⟨w1, a1, a2⟩ := rw_addAll fu hfu z k x4 hx4 r w L h (by rw [hm]; simp at hl ⊢; omega)
      unfold j_Mover_fill_77
      rw [a1]
      simp only [Option.bind_some]
      rw [hm] at a2
      obtain ⟨w2, b1, b2⟩ := ih n (i + 1) _ w1 _ (by omega) (by omega) (by omega) (fun s hs => hown s (List.mem_cons_of_mem _ hs)) a2 (by rw [List.append_assoc]; exact hl)
      refine ⟨w2, ?_, by rw [List.append_assoc] at b2; exact b2⟩
      rw [nI_1]; exact b1
    by_cases hp : zm z k &&& 7 = 1
    · rw [if_neg (fun q => q hp)]
      exact go 1 ⟨fun h => absurd h (by decide), fun h => absurd hp h⟩
    · rw [if_pos hp]
      exact go 0 ⟨fun _ => hp, fun _ => rfl⟩
theorem cb_held (B : BdT) (z : Pz) (l : StT) (hC : CB B z l) (hb : bz z) : am_in (bd_side B) 2 = true ∧ bl (bd_held B (bd_side B).toNatClampNeg) = ows z := by
  obtain ⟨⟨r1, r2, r3, r4, r5, r6⟩, -, -⟩ := hC
  have hc2 := hb.2.1
  rw [r3, nI_clamp (by omega)]
  refine ⟨pu_in hc2 (by decide), bl_eq (fun i hi => ?_)⟩
  rw [r2 _ hc2 i hi, r1]
theorem rw_nil (w : RwT) : RW (rw_told w, 0) [] := ⟨rfl, fun i v h => by cases h⟩
theorem cb_fill (fu : Nat) (hfu : 64 < fu) (B : BdT) (z : Pz) (l : StT) (hC : CB B z l) (hG : Gw z) (hN : (pml z).length ≤ 704) (w : RwT) : ∃ w', f_Mover_fill fu w B = some w' ∧ RW w' (pml z) := by
  obtain ⟨h1, h2⟩ := cb_held B z l hC hG.1
  have hlen := bl_len (bd_held B (bd_side B).toNatClampNeg)
  unfold f_Mover_fill
  rw [if_pos h1]
  obtain ⟨w', e1, e2⟩ := cb_fill24 fu hfu B z l hC hG _ fu 0 _ (rw_told w, 0) [] rfl (by omega) (by omega) (fun s hs => by rw [h2] at hs; exact mem_ows hs) (rw_nil w) (by rw [h2]; exact hN)
  rw [h2] at e2
  exact ⟨w', e1, e2⟩
theorem cb_fillFrom (fu : Nat) (hfu : 64 < fu) (B : BdT) (z : Pz) (l : StT) (hC : CB B z l) (hG : Gw z) (s : Nat) (hs : s < 64) (ho : own (zm z) (zc z) s = true) (hN : (mvs z s).length ≤ 704) (w : RwT) : ∃ w', f_Mover_fillFrom fu (nI s) w B = some w' ∧ RW w' (mvs z s) := by
  obtain ⟨r, t1, t2⟩ := cb_targets fu hfu B z l hC hG s hs ho
  unfold f_Mover_fillFrom
  rw [t1]
  simp only [Option.bind_some]
  rw [if_pos (pu_in hs (by decide)), nI_clamp (by omega), hC.1.1]
  have hm : (bl r).flatMap (mvt z s) = mvs z s := by rw [t2]; rfl
  have go : ∀ x4 : Int32, (x4 = 0 ↔ ¬ zm z s &&& 7 = 1) → ∃ w', f_MoveRow_addAll fu (nI s) r x4 (rw_told w, 0) = some w' ∧ RW w' (mvs z s) := by
    intro x4 hx4
    obtain ⟨w1, a1, a2⟩ := rw_addAll fu hfu z s x4 hx4 r (rw_told w, 0) [] (rw_nil w) (by rw [hm]; exact hN)
    rw [hm] at a2
    exact ⟨w1, a1, a2⟩
  by_cases hp : zm z s &&& 7 = 1
  · rw [if_neg (fun q => q hp)]
    obtain ⟨w1, a1, a2⟩ := go 1 ⟨fun h => absurd h (by decide), fun h => absurd hp h⟩
    rw [a1]
    exact ⟨w1, rfl, a2⟩
  · rw [if_pos hp]
    obtain ⟨w1, a1, a2⟩ := go 0 ⟨fun _ => hp, fun _ => rfl⟩
    rw [a1]
    exact ⟨w1, rfl, a2⟩
/-- a move of the list is tried -/
theorem cb_tryv (fu : Nat) (hfu : 64 < fu) (B : BdT) (z : Pz) (l : StT) (hC : CB B z l) (hl : l.length < 16) (hG : Gz z) (v : Mv) (hv : pmv z v) : ∃ B1, f_Board_make (cd v) B = some B1 ∧ CB B1 (mkv v z) ((v.1, v.2.1, v.2.2, z) :: l) ∧ f_Board_isLegal fu B1 = some (cond (lgv z v) 1 0) :=
  cb_try fu hfu B z l hC hl hG.1.1 hG.1.2.2.1 v.1 v.2.1 v.2.2 (pmv_vm hG hv)
theorem cb_unv (B : BdT) (z : Pz) (l : StT) (hl : l.length < 16) (hG : Gz z) (v : Mv) (hv : pmv z v) (hC : CB B (mkv v z) ((v.1, v.2.1, v.2.2, z) :: l)) : ∃ B', f_Board_unmake B = some B' ∧ CB B' z l :=
  cb_unmake B z l v.1 v.2.1 v.2.2 hC hl hG.1.1 hG.1.2.2.1 (pmv_vm hG hv)
theorem getq {α : Type} {P : List α} {i : Nat} (h : i < P.length) : ∃ v, P[i]? = some v ∧ v ∈ P ∧ P.take (i + 1) = P.take i ++ [v] :=
  ⟨P[i], List.getElem?_eq_getElem h, List.getElem_mem h, by rw [List.take_succ_eq_append_getElem h]⟩
theorem cb_fl9 (fu : Nat) (hfu : 64 < fu) (z : Pz) (l : StT) (hl : l.length < 16) (hG : Gz z) (hN : (pml z).length ≤ 704) : ∀ (r n i : Nat) (w : RwT) (B : BdT), i + r = (pml z).length → r < n → CB B z l → rw_count w = nI (pml z).length → (∀ j v, i ≤ j → (pml z)[j]? = some v → rw_told w j = cd v) → (∀ j v, (((pml z).take i).filter (lgv z))[j]? = some v → rw_told w j = cd v) → ∃ w' B', l_Mover_fillLegal_9 fu n (nI (((pml z).take i).filter (lgv z)).length) (nI i) w B = some (w', B') ∧ RW w' (lgl z) ∧ CB B' z l := by
  intro r
  induction r with
  | zero =>
    intro n i w B hi hn hC hc h1 h2
    obtain ⟨n, rfl⟩ : ∃ m, n = m + 1 := ⟨n - 1, by omega⟩
    have hti : (pml z).take i = pml z := List.take_of_length_le (by omega)
    show ∃ w' B', b_Mover_fillLegal_9 fu _ _ (nI i) w B = some (w', B') ∧ _
    unfold b_Mover_fillLegal_9
    rw [hc, if_pos (nI_le (by omega) (by omega))]
    rw [hti] at h2 ⊢
    exact ⟨_, _, rfl, ⟨rfl, h2⟩, hC⟩
  | succ r ih =>
    intro n i w B hi hn hC hc h1 h2
    obtain ⟨n, rfl⟩ : ∃ m, n = m + 1 := ⟨n - 1, by omega⟩
    show ∃ w' B', b_Mover_fillLegal_9 fu (l_Mover_fillLegal_9 fu n) _ (nI i) w B = some (w', B') ∧ _
    unfold b_Mover_fillLegal_9
    obtain ⟨v, g1, g2, g3⟩ := getq (P := pml z) (i := i) (by omega)
    rw [hc, if_neg (nI_ge (by omega) (by omega)), if_pos (pu_in (show i < 704 by omega) (by decide)), nI_clamp (by omega), h1 i v (Nat.le_refl _) g1]
    have hv := mem_pml g2
    obtain ⟨B1, e1, e2, e3⟩ := cb_tryv fu hfu B z l hC hl hG v hv
    obtain ⟨B2, e4, e5⟩ := cb_unv B1 z l hl hG v hv e2
    rw [e1]
    simp only [Option.bind_some]
    rw [e3]
    simp only [Option.bind_some]
    unfold j_Mover_fillLegal_55
    rw [e4]
    simp only [Option.bind_some]
    have hD : ((pml z).take i).length = i := by rw [List.length_take]; omega
    have hDl : (((pml z).take i).filter (lgv z)).length ≤ i := by
      have := List.length_filter_le (lgv z) ((pml z).take i)
      omega
    have hf : ((pml z).take (i + 1)).filter (lgv z) = ((pml z).take i).filter (lgv z) ++ (if lgv z v = true then [v] else []) := by
      rw [g3, List.filter_append]
      congr 1
      cases hq : lgv z v <;> simp [hq]
    cases hq : lgv z v with
    | false =>
      rw [if_pos (by decide), nI_1]
      rw [hq] at hf
      simp only [Bool.false_eq_true, if_false, List.append_nil] at hf
      rw [← hf]
      exact ih n (i + 1) w B2 (by omega) (by omega) e5 hc (fun j u hj hu => h1 j u (by omega) hu) (by rw [hf]; exact h2)
    | true =>
      rw [if_neg (by decide), nI_1, nI_1, if_pos (pu_in (show i < 704 by omega) (by decide)), if_pos (pu_in (show (((pml z).take i).filter (lgv z)).length < 704 by omega) (by decide)), nI_clamp (show (((pml z).take i).filter (lgv z)).length < _ by omega)]
      rw [hq] at hf
      simp only [if_true] at hf
      have hlen : (((pml z).take (i + 1)).filter (lgv z)).length = (((pml z).take i).filter (lgv z)).length + 1 := by rw [hf]; simp
      rw [← hlen]
      refine ih n (i + 1) _ B2 (by omega) (by omega) e5 rfl (fun j u hj hu => ?_) (fun j u hu => ?_)
      · show upd (rw_told w) _ (cd v) j = cd u
        rw [upd_o _ _ (by omega)]
        exact h1 j u (by omega) hu
      · show upd (rw_told w) _ (cd v) j = cd u
        rw [hf, List.getElem?_append] at hu
        by_cases hj : j < (((pml z).take i).filter (lgv z)).length
        · rw [if_pos hj] at hu
          rw [upd_o _ _ (by omega)]
          exact h2 j u hu
        · rw [if_neg hj] at hu
          have : j - (((pml z).take i).filter (lgv z)).length = 0 := by
            apply Classical.byContradiction
            intro q
            obtain ⟨k, hk⟩ : ∃ k, j - (((pml z).take i).filter (lgv z)).length = k + 1 := Nat.exists_eq_succ_of_ne_zero q
            rw [hk] at hu
            cases hu
          rw [this] at hu
          rw [show j = (((pml z).take i).filter (lgv z)).length by omega, upd_s]
          cases hu
          rfl
theorem cb_fillLegal (fu : Nat) (hfu : 704 < fu) (B : BdT) (z : Pz) (l : StT) (hC : CB B z l) (hl : l.length < 16) (hG : Gz z) (hN : (pml z).length ≤ 704) (w : RwT) : ∃ w' B', f_Mover_fillLegal fu w B = some (w', B') ∧ RW w' (lgl z) ∧ CB B' z l := by
  obtain ⟨w1, a1, a2⟩ := cb_fill fu (by omega) B z l hC hG.1 hN w
  unfold f_Mover_fillLegal
  rw [a1]
  simp only [Option.bind_some]
  exact cb_fl9 fu (by omega) z l hl hG hN (pml z).length fu 0 w1 B (by omega) (by omega) hC a2.1 (fun j v _ hv => a2.2 j v hv) (fun j v hv => by simp at hv)
/-! .. whether a side can move at all -/
theorem flt_mid (p : Nat → Bool) {n k : Nat} (hk : k < n) (h1 : p k = true) : ∃ A C, (List.range n).filter p = A ++ k :: C ∧ (List.range n).filter (fun i => p i && !decide (i = k)) = A ++ C := by
  have e : List.range n = List.range' 0 k ++ k :: List.range' (k + 1) (n - k - 1) := by
    rw [List.range_eq_range', ← List.range'_succ, show n - k - 1 + 1 = n - k by omega]
    have := List.range'_append_1 (s := 0) (m := k) (n := n - k)
    rw [Nat.zero_add, show k + (n - k) = n by omega] at this
    exact this.symm
  refine ⟨(List.range' 0 k).filter p, (List.range' (k + 1) (n - k - 1)).filter p, ?_, ?_⟩
  · rw [e, List.filter_append, List.filter_cons, h1]; simp
  · have b : (List.range' 0 k).filter (fun i => p i && !decide (i = k)) = (List.range' 0 k).filter p := List.filter_congr (fun i hi => by
      have := (List.mem_range'_1.mp hi).2
      rw [decide_eq_false (show ¬ i = k by omega)]; simp)
    have c : (List.range' (k + 1) (n - k - 1)).filter (fun i => p i && !decide (i = k)) = (List.range' (k + 1) (n - k - 1)).filter p := List.filter_congr (fun i hi => by
      have := (List.mem_range'_1.mp hi).1
      rw [decide_eq_false (show ¬ i = k by omega)]; simp)
    rw [e, List.filter_append, List.filter_cons, b, c]; simp
theorem bl_mid {x : Int64} {k : Nat} (hk : k < 64) (h1 : bt x k = true) {y : Int64} (hy : ∀ i, i < 64 → bt y i = (bt x i && !decide (i = k))) : ∃ A C, bl x = A ++ k :: C ∧ bl y = A ++ C := by
  obtain ⟨A, C, e1, e2⟩ := flt_mid (fun i => bt x i) hk h1
  exact ⟨A, C, e1, (bl_eq hy).trans e2⟩
theorem bl_mem {x : Int64} {k : Nat} : k ∈ bl x ↔ k < 64 ∧ bt x k = true := by
  unfold bl
  rw [List.mem_filter, List.mem_range]
/-- a man of that square has a legal move -/
def cgo (z : Pz) (s : Nat) : Bool := (tgs z s).any (fun t => lg z s t 0)
/-- the side to move has a legal move -/
def hmv (z : Pz) : Bool := (ows z).any (cgo z)
theorem cb_can9 (fu : Nat) (hfu : 64 < fu) (z : Pz) (l : StT) (hl : l.length < 16) (hG : Gz z) (s : Nat) (hs : s < 64) (ho : own (zm z) (zc z) s = true) : ∀ (j n i : Nat) (x : Int64) (B : BdT), (bl x).length = j → j + i ≤ 64 → j < n → (∀ t ∈ bl x, t < 64 ∧ tz z s t = true) → CB B z l → ∃ B', l_Mover_canGo_9 fu (nI s) n x (nI i) B = some (cond ((bl x).any (fun t => lg z s t 0)) 1 0, B') ∧ CB B' z l := by
  intro j
  induction j with
  | zero =>
    intro n i x B hx hi hn _ hC
    obtain ⟨n, rfl⟩ : ∃ m, n = m + 1 := ⟨n - 1, by omega⟩
    have hnil : bl x = [] := List.eq_nil_of_length_eq_zero hx
    refine ⟨B, ?_, hC⟩
    show b_Mover_canGo_9 fu (nI s) _ x (nI i) B = _
    unfold b_Mover_canGo_9
    rw [hnil]
    by_cases h64 : (64 : Int32) ≤ nI i
    · rw [if_pos h64]; rfl
    · rw [if_neg h64, if_pos]
      · rfl
      · apply Classical.byContradiction
        intro q
        obtain ⟨k, hk⟩ := bl_split q
        rw [bl_cons hk (fun i hi => bt_rm1 hk i hi)] at hnil
        cases hnil
  | succ j ih =>
    intro n i x B hx hi hn htz hC
    obtain ⟨n, rfl⟩ : ∃ m, n = m + 1 := ⟨n - 1, by omega⟩
    show ∃ B', b_Mover_canGo_9 fu (nI s) (l_Mover_canGo_9 fu (nI s) n) x (nI i) B = some (_, B') ∧ _
    unfold b_Mover_canGo_9
    rw [if_neg (show ¬ (64 : Int32) ≤ nI i from nI_ge (b := 64) (by omega) (by decide))]
    have hne : ¬ lg_cmp x 0 = 0 := fun q => by rw [bl_nil q] at hx; cases hx
    rw [if_neg hne]
    obtain ⟨k, hk⟩ := bl_split hne
    have hk64 := hk.1
    have hc := bl_cons hk (fun i hi => bt_rm1 hk i hi)
    rw [hc] at hx htz ⊢
    rw [List.length_cons] at hx
    rw [pu_lowest hk]
    simp only [Option.bind_some]
    have e64 := mul64 ⟨k, hk64⟩
    simp only at e64
    rw [e64, nI_add]
    obtain ⟨t1, t2⟩ := htz k List.mem_cons_self
    have hv := vm_tg hG hs t1 ho t2 (pr := 0) (by omega) (fun q => absurd rfl q)
    obtain ⟨B1, e1, e2, e3⟩ := cb_try fu hfu B z l hC hl hG.1.1 hG.1.2.2.1 s k 0 hv
    obtain ⟨B2, e4, e5⟩ := cb_unmake B1 z l s k 0 e2 hl hG.1.1 hG.1.2.2.1 hv
    rw [show nI (s + 64 * k) = nI (s + 64 * k + 4096 * 0) from rfl, e1]
    simp only [Option.bind_some]
    rw [e3]
    simp only [Option.bind_some]
    rw [e4]
    simp only [Option.bind_some]
    rw [List.any_cons]
    cases hq : lg z s k 0 with
    | true =>
      rw [if_neg (by decide)]
      exact ⟨B2, rfl, e5⟩
    | false =>
      rw [if_pos (by decide), nI_1, Bool.false_or]
      exact ih n (i + 1) _ B2 (by omega) (by omega) (by omega) (fun t ht => htz t (List.mem_cons_of_mem _ ht)) e5
theorem cb_canGo (fu : Nat) (hfu : 64 < fu) (B : BdT) (z : Pz) (l : StT) (hC : CB B z l) (hl : l.length < 16) (hG : Gz z) (s : Nat) (hs : s < 64) (ho : own (zm z) (zc z) s = true) : ∃ B', f_Mover_canGo fu (nI s) B = some (cond (cgo z s) 1 0, B') ∧ CB B' z l := by
  obtain ⟨r, t1, t2⟩ := cb_targets fu hfu B z l hC hG.1 s hs ho
  unfold f_Mover_canGo
  rw [t1]
  simp only [Option.bind_some]
  have hlen := bl_len r
  obtain ⟨B', e1, e2⟩ := cb_can9 fu hfu z l hl hG s hs ho _ fu 0 r B rfl (by omega) (by omega) (fun t ht => by rw [t2] at ht; exact mem_tgs ht) hC
  rw [t2] at e1
  exact ⟨B', e1, e2⟩
theorem low_sh {k : Nat} (hk : k < 64) : low (am_shl 1 (nI k)) k := ⟨hk, by rw [bt_sh hk, decide_eq_true rfl], fun i hi => by rw [bt_sh hk, decide_eq_false (by omega)]⟩
theorem cb_b69 (fu : Nat) (hfu : 64 < fu) (z : Pz) (l : StT) (hl : l.length < 16) (hG : Gz z) : ∀ (j n i : Nat) (x f : Int64) (B : BdT), (bl x).length = j → j + i ≤ 64 → j < n → (∀ s ∈ bl x, s < 64 ∧ own (zm z) (zc z) s = true) → (f = 0 ∨ ∃ k, k < 64 ∧ f = am_shl 1 (nI k) ∧ bt x k = true) → CB B z l → ∃ B', l_Mover_isBeaten_69 fu n x f (nI i) B = some (cond ((bl x).any (cgo z)) 0 1, B') ∧ CB B' z l := by
  intro j
  induction j with
  | zero =>
    intro n i x f B hx hi hn _ hf hC
    obtain ⟨n, rfl⟩ : ∃ m, n = m + 1 := ⟨n - 1, by omega⟩
    have hnil : bl x = [] := List.eq_nil_of_length_eq_zero hx
    refine ⟨B, ?_, hC⟩
    show b_Mover_isBeaten_69 fu _ x f (nI i) B = _
    unfold b_Mover_isBeaten_69
    rw [hnil]
    by_cases h64 : (64 : Int32) ≤ nI i
    · rw [if_pos h64]; rfl
    · rw [if_neg h64, if_pos]
      · rfl
      · apply Classical.byContradiction
        intro q
        obtain ⟨k, hk⟩ := bl_split q
        rw [bl_cons hk (fun i hi => bt_rm1 hk i hi)] at hnil
        cases hnil
  | succ j ih =>
    intro n i x f B hx hi hn hown hf hC
    obtain ⟨n, rfl⟩ : ∃ m, n = m + 1 := ⟨n - 1, by omega⟩
    show ∃ B', b_Mover_isBeaten_69 fu (l_Mover_isBeaten_69 fu n) x f (nI i) B = some (_, B') ∧ _
    unfold b_Mover_isBeaten_69
    rw [if_neg (show ¬ (64 : Int32) ≤ nI i from nI_ge (b := 64) (by omega) (by decide))]
    have hne : ¬ lg_cmp x 0 = 0 := fun q => by rw [bl_nil q] at hx; cases hx
    rw [if_neg hne]
    have go : ∀ (t0 : Int64) (k : Nat), low t0 k → bt x k = true → ∃ B', j_Mover_isBeaten_95 fu (l_Mover_isBeaten_69 fu n) B x (nI i) t0 = some (cond ((bl x).any (cgo z)) 0 1, B') ∧ CB B' z l := by
      intro t0 k hk hb
      obtain ⟨A, C, q1, q2⟩ := bl_mid hk.1 hb (fun i hi => bt_rm3 (x := x) hk.1 i hi)
      obtain ⟨o1, o2⟩ := hown k (by rw [q1]; simp)
      unfold j_Mover_isBeaten_95
      rw [pu_lowest hk]
      simp only [Option.bind_some]
      obtain ⟨B1, e1, e2⟩ := cb_canGo fu hfu B z l hC hl hG k o1 o2
      rw [e1]
      simp only [Option.bind_some]
      have hany : (bl x).any (cgo z) = (cgo z k || (bl (x &&& (am_shl 1 (nI k) ^^^ (-1)))).any (cgo z)) := by
        rw [q1, q2, List.any_append, List.any_append, List.any_cons]
        cases A.any (cgo z) <;> cases cgo z k <;> rfl
      rw [hany]
      cases hq : cgo z k with
      | true =>
        rw [if_neg (by decide)]
        exact ⟨B1, rfl, e2⟩
      | false =>
        rw [if_pos (by decide), nI_1, Bool.false_or]
        refine ih n (i + 1) _ 0 B1 ?_ (by omega) (by omega) (fun s hs => hown s ?_) (Or.inl rfl) e2
        · rw [q1] at hx
          rw [q2]
          simp at hx ⊢
          omega
        · rw [q2] at hs
          rw [q1]
          rcases List.mem_append.mp hs with hs | hs
          · exact List.mem_append.mpr (Or.inl hs)
          · exact List.mem_append.mpr (Or.inr (List.mem_cons_of_mem _ hs))
    rcases hf with rfl | ⟨k, hk, rfl, hb⟩
    · rw [if_pos ((lg0 0).mpr rfl)]
      obtain ⟨k, hk⟩ := bl_split hne
      exact go x k hk hk.2.1
    · rw [if_neg (fun q => ?_)]
      · exact go _ k (low_sh hk) hb
      · have := (bt_z _).mp ((lg0 _).mp q) k hk
        rw [bt_sh hk, decide_eq_true rfl] at this
        cases this
/-- beaten by that goal: 0 mate, 1 stalemate -/
def btn (z : Pz) (g : Nat) : Bool := decide (chk (zm z) (zc z) = decide (g = 0)) && !hmv z
theorem cb_beaten (fu : Nat) (hfu : 64 < fu) (B : BdT) (z : Pz) (l : StT) (hC : CB B z l) (hl : l.length < 16) (hG : Gz z) (g : Nat) (hg : g < 2) : ∃ B', f_Mover_isBeaten fu (nI g) B = some (cond (btn z g) 1 0, B') ∧ CB B' z l := by
  unfold f_Mover_isBeaten
  rw [cb_check fu hfu B z l hC hG.1.1 hG.1.2.2.1]
  simp only [Option.bind_some]
  obtain ⟨h1, h2⟩ := cb_held B z l hC hG.1.1
  have hlen := bl_len (bd_held B (bd_side B).toNatClampNeg)
  have hc2 := hG.1.1.2.1
  obtain ⟨k, g1, g2⟩ := hC.1.2.2.2.2.2 (zc z) hc2
  have hside := hC.1.2.2.1
  have hown : own (zm z) (zc z) k = true := decide_eq_true ⟨by rw [g1.2.1]; exact fun q => (mfc ⟨0, by decide⟩ ⟨zc z, hc2⟩).2.1 q.symm, by rw [g1.2.1]; exact (mfc ⟨0, by decide⟩ ⟨zc z, hc2⟩).2.2.2.2.1⟩
  have hbk : bt (bd_held B (bd_side B).toNatClampNeg) k = true := by
    have : k ∈ ows z := List.mem_filter.mpr ⟨List.mem_range.mpr g1.1, hown⟩
    rw [← h2] at this
    exact (bl_mem.mp this).2
  have h18 : ∀ s1 : Int32, (s1 = cond (decide (g = 0)) 1 0) → ∃ B', j_Mover_isBeaten_18 fu B (cond (chk (zm z) (zc z)) 1 0) (cond (chk (zm z) (zc z)) 1 0) s1 = some (cond (btn z g) 1 0, B') ∧ CB B' z l := by
    intro s1 hs1
    unfold j_Mover_isBeaten_18 j_Mover_isBeaten_64 btn
    by_cases he : chk (zm z) (zc z) = decide (g = 0)
    · rw [if_pos (by rw [hs1, he]), if_pos h1, decide_eq_true he, Bool.true_and]
      have fin : ∀ f : Int64, (f = 0 ∨ ∃ k, k < 64 ∧ f = am_shl 1 (nI k) ∧ bt (bd_held B (bd_side B).toNatClampNeg) k = true) → ∃ B', l_Mover_isBeaten_69 fu fu (bd_held B (bd_side B).toNatClampNeg) f 0 B = some (cond (!hmv z) 1 0, B') ∧ CB B' z l := by
        intro f hf
        obtain ⟨B', e1, e2⟩ := cb_b69 fu hfu z l hl hG _ fu 0 _ f B rfl (by omega) (by omega) (fun s hs => by rw [h2] at hs; exact mem_ows hs) hf hC
        refine ⟨B', ?_, e2⟩
        rw [h2] at e1
        have e1' : l_Mover_isBeaten_69 fu fu (bd_held B (bd_side B).toNatClampNeg) f 0 B = some (cond (hmv z) 0 1, B') := e1
        rw [e1']
        cases hmv z <;> rfl
      by_cases hz : (cond (chk (zm z) (zc z)) (1 : Int32) 0) = 0
      · rw [if_pos hz]
        exact fin 0 (Or.inl rfl)
      · rw [if_neg hz, if_pos h1]
        refine fin _ (Or.inr ⟨k, g1.1, ?_, hbk⟩)
        rw [hside, nI_clamp (show zc z < _ by omega), g2]
    · rw [if_neg (fun q => ?_), decide_eq_false he, Bool.false_and]
      · exact ⟨B, rfl, hC⟩
      · apply he
        rw [hs1] at q
        revert q
        cases chk (zm z) (zc z) <;> cases decide (g = 0) <;> decide
  rcases (show g = 0 ∨ g = 1 by omega) with rfl | rfl
  · rw [if_neg (by decide)]
    exact h18 1 rfl
  · rw [if_pos (by decide)]
    exact h18 0 rfl
