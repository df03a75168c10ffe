/-! .. what refutes, and what solves -/
theorem btn_e {z : Pz} (hG : Gz z) (g : Nat) : btn z g = (decide (chk (zm z) (zc z) = decide (g = 0)) && (lgl z).isEmpty) := by
  unfold btn
  rw [hmv_lgl hG, Bool.not_not]
theorem any_pml (z : Pz) : (pml z).any (lgv z) = !(lgl z).isEmpty := by
  unfold lgl
  generalize pml z = L
  induction L with
  | nil => rfl
  | cons a L ih =>
    rw [List.any_cons, List.filter_cons]
    cases h : lgv z a with
    | true => simp
    | false => simpa using ih
theorem solP_no {k g : Nat} {f : Pz → Bool} {z : Pz} (hG : Gz z) {v : Mv} (hv : v ∈ lgl z) (ha : ansP k g f (mkv v z) = false) : solP k g f z = false := by
  unfold solP
  rw [btn_e hG]
  have h1 : (lgl z).isEmpty = false := by
    cases hL : lgl z with
    | nil => rw [hL] at hv; cases hv
    | cons a L => rfl
  have h2 : (lgl z).all (fun v => ansP k g f (mkv v z)) = false := by
    rw [Bool.eq_false_iff]
    intro q
    have := List.all_eq_true.mp q v hv
    rw [ha] at this
    cases this
  rw [h1, h2]
  simp
theorem cs_ref (hN : okN) (fu : Nat) (hfu : 704 < fu) (c1 c2 : FHk) (k g n ply : Nat) (hk : k < 2) (hg : g < 2) (hn : n ≤ 2) (hply : ply + 2 * n ≤ 5) (h1 : KHas c1 k g n (ply + 1)) : KRef (e_Solver_refutation fu c1 c2) k g n ply := by
  intro z l B V R S hG hC hl hS
  obtain ⟨hd1, hd2⟩ := cb_held B z l hC hG.1.1
  have hp6 : am_in (nI ply) 6 = true := pu_in (by omega) (by decide)
  have hlen := bl_len (bd_held B (bd_side B).toNatClampNeg)
  have hFM : FM z (bd_held B (bd_side B).toNatClampNeg) = pml z := by unfold FM; rw [hd2]; rfl
  have hfind : (lgl z).find? (fun v => !ansP k g (slv k g n) (mkv v z)) = (pml z).find? (fun v => lgv z v && !ansP k g (slv k g n) (mkv v z)) := by
    unfold lgl
    rw [List.find?_filter]
    congr 1
    funext v
    cases lgv z v <;> simp
  have key : ∀ f : Int64, (f = 0 ∨ ∃ k, k < 64 ∧ f = am_shl 1 (nI k) ∧ bt (bd_held B (bd_side B).toNatClampNeg) k = true) → (so_hints S ply < 0 → f = 0) → ∃ r B' V' R' S', j_Solver_refutation_63 fu c1 c2 B V R S (nI (n + 1)) (nI ply) (0 : Int32) (bd_held B (bd_side B).toNatClampNeg) (so_hints S ply) f = some (r, B', V', R', S') ∧ (r = -1 ↔ solP k g (slv k g n) z = true) ∧ (so_hints S ply < 0 → r = rft k g n z) ∧ CB B' z l ∧ SK S' k g ∧ ∀ i, i < ply → R' i = R i := by
    intro f hf hh
    obtain ⟨o, B1, V1, R1, S1, e1, e2, e3, e4, e5, e6, e7⟩ := cs_68 fu hfu c1 c2 k g n ply hk hg hn hply h1 z l hG (hN z hG) hl (so_hints S ply) _ fu 0 (bd_held B (bd_side B).toNatClampNeg) f false B V R S rfl (by omega) (by omega) (fun s hs => by rw [hd2] at hs; exact hs) hf hC hS
    rw [hFM] at e1 e2 e3 e4
    unfold j_Solver_refutation_63
    rw [show l_Solver_refutation_68 fu c1 c2 (nI (n + 1)) (nI ply) (so_hints S ply) fu (0 : Int32) (bd_held B (bd_side B).toNatClampNeg) f (0 : Int32) B V R S = _ from e1]
    cases o with
    | some v =>
      obtain ⟨p1, p2⟩ := e3 v rfl
      rw [Bool.and_eq_true, Bool.not_eq_true'] at p2
      have hvl : v ∈ lgl z := List.mem_filter.mpr ⟨p1, p2.1⟩
      simp only [Option.bind_some]
      unfold j_Solver_refutation_236
      rw [if_pos hp6]
      refine ⟨_, _, _, _, _, rfl, ?_, fun hx => ?_, e5, e6, e7⟩
      · rw [solP_no hG hvl p2.2]
        exact ⟨fun q => absurd q (fun q => cd_ne (mem_pml p1) (by rw [q]; decide)), fun q => by cases q⟩
      · unfold rft
        rw [hfind, ← e4 hx (hh hx)]
    | none =>
      have hall : (lgl z).all (fun v => ansP k g (slv k g n) (mkv v z)) = true := List.all_eq_true.mpr (fun v hv => by
        obtain ⟨q1, q2⟩ := List.mem_filter.mp hv
        have := e2 rfl v q1
        rw [q2, Bool.true_and, Bool.not_eq_false'] at this
        exact this)
      have hnone : (lgl z).find? (fun v => !ansP k g (slv k g n) (mkv v z)) = none := List.find?_eq_none.mpr (fun v hv => by
        rw [List.all_eq_true.mp hall v hv]; decide)
      simp only [Option.bind_some, Bool.false_or]
      rw [any_pml]
      have hsol : solP k g (slv k g n) z = ((decide (k = 0) && (decide (chk (zm z) (zc z) = decide (g = 0)) && (lgl z).isEmpty)) || !(lgl z).isEmpty) := by
        unfold solP
        rw [btn_e hG, hall, Bool.and_true]
      have fin : ∀ r : Int32, r = (if solP k g (slv k g n) z = true then -1 else -2) → ∃ r' B' V' R' S', some (r, B1, V1, R1, S1) = some (r', B', V', R', S') ∧ (r' = -1 ↔ solP k g (slv k g n) z = true) ∧ (so_hints S ply < 0 → r' = rft k g n z) ∧ CB B' z l ∧ SK S' k g ∧ ∀ i, i < ply → R' i = R i := by
        intro r hr
        refine ⟨r, B1, V1, R1, S1, rfl, ?_, fun _ => ?_, e5, e6, e7⟩
        · rw [hr]
          cases solP k g (slv k g n) z <;> decide
        · unfold rft
          rw [hnone, hr]
      have h310 : ∀ (s0 : Bool), ((lgl z).isEmpty = true → s0 = (decide (k = 0) && decide (chk (zm z) (zc z) = decide (g = 0)))) → ∃ r B' V' R' S', j_Solver_refutation_310 fu c1 c2 B1 V1 R1 S1 (cond (!(lgl z).isEmpty) 1 0) (cond s0 1 0) = some (r, B', V', R', S') ∧ (r = -1 ↔ solP k g (slv k g n) z = true) ∧ (so_hints S ply < 0 → r = rft k g n z) ∧ CB B' z l ∧ SK S' k g ∧ ∀ i, i < ply → R' i = R i := by
        intro s0 hs0
        unfold j_Solver_refutation_310
        cases he : (lgl z).isEmpty with
        | false =>
          rw [if_pos (by decide)]
          exact fin _ (by rw [hsol, he]; simp)
        | true =>
          rw [if_neg (by decide)]
          rw [he] at hsol
          cases hq : s0 with
          | true =>
            rw [if_neg (by decide)]
            exact fin _ (by rw [hsol, Bool.and_true, ← hs0 he, hq]; rfl)
          | false =>
            rw [if_pos (by decide)]
            exact fin _ (by rw [hsol, Bool.and_true, ← hs0 he, hq]; rfl)
      unfold j_Solver_refutation_276 j_Solver_refutation_309
      rw [e6.1, e6.2]
      rcases (show k = 0 ∨ k = 1 by omega) with rfl | rfl
      · rw [if_neg (fun q => q rfl), cb_check fu (by omega) B1 z l e5 hG.1.1 hG.1.2.2.1]
        simp only [Option.bind_some]
        have h302 : ∀ s1 : Int32, s1 = cond (decide (g = 0)) 1 0 → ∃ r B' V' R' S', j_Solver_refutation_302 fu c1 c2 B1 V1 R1 S1 (cond (!(lgl z).isEmpty) 1 0) (cond (chk (zm z) (zc z)) 1 0) s1 = some (r, B', V', R', S') ∧ (r = -1 ↔ solP 0 g (slv 0 g n) z = true) ∧ (so_hints S ply < 0 → r = rft 0 g n z) ∧ CB B' z l ∧ SK S' 0 g ∧ ∀ i, i < ply → R' i = R i := by
          intro s1 hs1
          unfold j_Solver_refutation_302 j_Solver_refutation_309
          by_cases he : chk (zm z) (zc z) = decide (g = 0)
          · rw [if_neg (fun q => q (by rw [hs1, he]))]
            exact h310 true (fun _ => by rw [decide_eq_true he]; rfl)
          · rw [if_pos (fun q => he ?_)]
            · exact h310 false (fun _ => by rw [decide_eq_false he]; rfl)
            · rw [hs1] at q
              revert q
              cases chk (zm z) (zc z) <;> cases decide (g = 0) <;> decide
        rcases (show g = 0 ∨ g = 1 by omega) with rfl | rfl
        · rw [if_neg (fun q => q rfl)]
          exact h302 1 rfl
        · rw [if_pos (by decide)]
          exact h302 0 rfl
      · rw [if_pos (by decide)]
        exact h310 false (fun _ => rfl)
  unfold e_Solver_refutation
  rw [if_pos (show nI ply < 6 from nI_lt (b := 6) (by omega) (by decide)), if_pos hp6, if_pos hd1, if_pos hp6, nI_clamp (show ply < _ by omega)]
  by_cases hh : so_hints S ply < 0
  · rw [if_pos hh]
    exact key 0 (Or.inl rfl) (fun _ => rfl)
  · rw [if_neg hh]
    obtain ⟨q, hq, e⟩ : ∃ q, q < 64 ∧ so_hints S ply &&& 63 = nI q := by
      obtain ⟨q, h1, h2⟩ := pk_andE (so_hints S ply) (m := 63) 6 (by decide)
      exact ⟨q, h1, h2⟩
    rw [e]
    refine key _ ?_ (fun h => absurd h hh)
    cases hb : bt (bd_held B (bd_side B).toNatClampNeg) q with
    | true =>
      right
      refine ⟨q, hq, bt_ext (fun i hi => ?_), hb⟩
      rw [bt_and, bt_sh hq]
      by_cases hi : i = q
      · subst hi; rw [hb]; rfl
      · rw [decide_eq_false hi, Bool.and_false]
    | false =>
      left
      refine bt_ext (fun i hi => ?_)
      rw [bt_and, bt_sh hq, bt_0]
      by_cases hi : i = q
      · subst hi; rw [hb]; rfl
      · rw [decide_eq_false hi, Bool.and_false]
/-! .. keys -/
theorem cs_83 (fu : Nat) (hfu : 704 < fu) (c1 c2 : FHk) (k g n ply : Nat) (hg : g < 2) (hn : n ≤ 2) (hply : ply + 2 * n ≤ 4) (x4 : Int32) (h2 : (x4 = 0 ∧ KRef c2 k g n (ply + 1)) ∨ (x4 = 1 ∧ ∀ z, solP k g (slv k g n) z = btn z g)) (z : Pz) (l : StT) (hG : Gz z) (hl : l.length ≤ 8 + ply) (L : List Mv) (hL : L.length ≤ 704) (hLp : ∀ v ∈ L, pmv z v) : ∀ (r m i : Nat) (B : BdT) (V : MvT) (R : Nat → RwT) (S : SoT), i + r = L.length → r < m → CB B z l → SK S k g → RW (R ply) L → ∃ B' V' R' S', l_Solver_hasKey_83 fu c1 c2 (nI (n + 1)) (nI ply) x4 m (nI i) B V R S = some (match (L.drop i).find? (fun v => lgv z v && solP k g (slv k g n) (mkv v z)) with
    | some v => .inl (cd v, B', V', R', S')
    | none => .inr (0, B', V', R', S')) ∧ CB B' z l ∧ SK S' k g ∧ ∀ i, i < ply → R' i = R i := by
  intro r
  induction r with
  | zero =>
    intro m i B V R S hi hm hC hS hR
    obtain ⟨m, rfl⟩ : ∃ x, m = x + 1 := ⟨m - 1, by omega⟩
    refine ⟨B, V, R, S, ?_, hC, hS, fun _ _ => rfl⟩
    show b_Solver_hasKey_83 fu c1 c2 (nI (n + 1)) (nI ply) x4 _ (nI i) B V R S = _
    unfold b_Solver_hasKey_83
    rw [nI_clamp (show ply < _ by omega), hR.1, if_pos (nI_le (by omega) (by omega)), List.drop_of_length_le (by omega)]
    rfl
  | succ r ih =>
    intro m i B V R S hi hm hC hS hR
    obtain ⟨m, rfl⟩ : ∃ x, m = x + 1 := ⟨m - 1, by omega⟩
    show ∃ B' V' R' S', b_Solver_hasKey_83 fu c1 c2 (nI (n + 1)) (nI ply) x4 (l_Solver_hasKey_83 fu c1 c2 (nI (n + 1)) (nI ply) x4 m) (nI i) B V R S = _ ∧ _
    unfold b_Solver_hasKey_83
    obtain ⟨v, g1, g2, g3⟩ := drq (P := L) (i := i) (by omega)
    rw [nI_clamp (show ply < _ by omega), hR.1, if_neg (nI_ge (by omega) (by omega)), if_pos (pu_in (show i < 704 by omega) (by decide)), nI_clamp (show i < _ by omega), hR.2 i v g1]
    have hv := hLp v g2
    obtain ⟨B1, e1, e2, e3⟩ := cb_tryv fu (by omega) B z l hC (by omega) hG v hv
    rw [e1]
    simp only [Option.bind_some]
    rw [e3]
    simp only [Option.bind_some]
    rw [g3, List.find?_cons]
    have h159 : ∀ (y : Bool) (B2 : BdT) (V2 : MvT) (R2 : Nat → RwT) (S2 : SoT), CB B2 (mkv v z) ((v.1, v.2.1, v.2.2, z) :: l) → SK S2 k g → (∀ i, i < ply + 1 → R2 i = R i) → y = (lgv z v && solP k g (slv k g n) (mkv v z)) → ∃ B' V' R' S', j_Solver_hasKey_159 fu c1 c2 (l_Solver_hasKey_83 fu c1 c2 (nI (n + 1)) (nI ply) x4 m) B2 V2 R2 S2 (nI (n + 1)) (nI ply) x4 (nI i) (cd v) (cond y 1 0) = some (match (match lgv z v && solP k g (slv k g n) (mkv v z) with
            | true => some v
            | false => (L.drop (i + 1)).find? (fun v => lgv z v && solP k g (slv k g n) (mkv v z))) with
        | some v => .inl (cd v, B', V', R', S')
        | none => .inr (0, B', V', R', S')) ∧ CB B' z l ∧ SK S' k g ∧ ∀ i, i < ply → R' i = R i := by
      intro y B2 V2 R2 S2 c2' s2 r2 hy
      obtain ⟨B3, f1, f2⟩ := cb_unv B2 z l (by omega) hG v hv c2'
      unfold j_Solver_hasKey_159
      rw [f1, ← hy]
      simp only [Option.bind_some]
      cases y with
      | true =>
        rw [if_neg (by decide)]
        exact ⟨B3, V2, R2, S2, rfl, f2, s2, fun i hi => r2 i (by omega)⟩
      | false =>
        rw [if_pos (by decide), nI_1]
        obtain ⟨B4, V4, R4, S4, a1, a2, a3, a4⟩ := ih m (i + 1) B3 V2 R2 S2 (by omega) (by omega) f2 s2 (by rw [r2 ply (by omega)]; exact hR)
        exact ⟨B4, V4, R4, S4, a1, a2, a3, fun i hi => (a4 i hi).trans (r2 i (by omega))⟩
    unfold j_Solver_hasKey_158 j_Solver_hasKey_154
    cases hlv : lgv z v with
    | false =>
      rw [if_pos (by decide)]
      have := h159 false B1 V R S e2 hS (fun _ _ => rfl) (by rw [hlv]; rfl)
      rw [hlv] at this
      exact this
    | true =>
      have hGv : Gz (mkv v z) := pmv_gz hG hv hlv
      rw [hlv] at h159
      simp only [Bool.true_and] at h159 ⊢
      rw [if_neg (by decide)]
      rcases h2 with ⟨hx, hr⟩ | ⟨hx, hr⟩
      · rw [if_pos hx, nI_1]
        obtain ⟨rr, B2, V2, R2, S2, a1, a2, -, a4, a5, a6⟩ := hr (mkv v z) _ B1 V R S hGv e2 (by simp only [List.length_cons]; omega) hS
        rw [a1]
        simp only [Option.bind_some]
        by_cases hm1 : rr = -1
        · rw [if_neg (fun q => q hm1)]
          exact h159 true B2 V2 R2 S2 a4 a5 a6 (a2.mp hm1).symm
        · rw [if_pos hm1]
          refine h159 false B2 V2 R2 S2 a4 a5 a6 ?_
          cases hs : solP k g (slv k g n) (mkv v z) with
          | false => rfl
          | true => exact absurd (a2.mpr hs) hm1
      · rw [if_neg (by rw [hx]; decide), hS.2]
        obtain ⟨B2, b1, b2⟩ := cb_beaten fu (by omega) B1 (mkv v z) _ e2 (by simp only [List.length_cons]; omega) hGv g hg
        rw [b1]
        simp only [Option.bind_some]
        cases hbt : btn (mkv v z) g with
        | true =>
          rw [if_neg (by decide)]
          exact h159 true B2 V R S b2 hS (fun _ _ => rfl) (by rw [hr, hbt])
        | false =>
          rw [if_pos (by decide)]
          exact h159 false B2 V R S b2 hS (fun _ _ => rfl) (by rw [hr, hbt])
theorem solP_last (g : Nat) (z : Pz) : solP 0 g (slv 0 g 0) z = btn z g := by
  unfold solP
  rw [decide_eq_true rfl, Bool.true_and]
  have : (!(lgl z).isEmpty && (lgl z).all (fun v => ansP 0 g (slv 0 g 0) (mkv v z))) = false := by
    cases lgl z with
    | nil => rfl
    | cons a L => rw [List.all_cons]; rfl
  rw [this, Bool.or_false]
theorem cs_has (hN : okN) (fu : Nat) (hfu : 704 < fu) (hK : okC fu) (c1 c2 : FHk) (k g n ply : Nat) (hk : k < 2) (hg : g < 2) (hn : n ≤ 2) (hply : ply + 2 * n ≤ 4) (h2 : KRef c2 k g n (ply + 1)) : KHas (e_Solver_hasKey fu c1 c2) k g (n + 1) ply := by
  intro z l B V R S hG hC hl hS
  have hN' := hN z hG
  have hp6 : am_in (nI ply) 6 = true := pu_in (by omega) (by decide)
  have h70 : ∀ (x4 : Int32) (V : MvT) (R1 : Nat → RwT) (L : List Mv), ((x4 = 0 ∧ KRef c2 k g n (ply + 1)) ∨ (x4 = 1 ∧ ∀ z, solP k g (slv k g n) z = btn z g)) → L.length ≤ 704 → (∀ v ∈ L, v ∈ pml z) → (∀ v ∈ lgl z, solP k g (slv k g n) (mkv v z) = true → v ∈ L) → RW (R1 ply) L → (∀ i, i < ply → R1 i = R i) → ∃ B' V' R' S', j_Solver_hasKey_70 fu c1 c2 B V R1 S (nI (n + 1)) (nI ply) x4 = some (cond (slv k g (n + 1) z) 1 0, B', V', R', S') ∧ CB B' z l ∧ SK S' k g ∧ ∀ i, i < ply → R' i = R i := by
    intro x4 V R1 L hx4 hLl hLm hLs hR hR1
    unfold j_Solver_hasKey_70
    rw [if_pos hp6, nI_clamp (show ply < _ by omega)]
    obtain ⟨w2, L', b1, b2, b3, b4, -⟩ := rw_bring fu (by omega) (R1 ply) L hR hLl (so_hints S ply) (fun v hv => cd_ne (mem_pml (hLm v hv)))
    rw [b1]
    simp only [Option.bind_some]
    obtain ⟨B1, V1, R2, S1, a1, a2, a3, a4⟩ := cs_83 fu hfu c1 c2 k g n ply hg hn hply x4 hx4 z l hG hl L' (by omega) (fun v hv => mem_pml (hLm v ((b4 v).mp hv))) L'.length fu 0 B V (va_up R1 ply w2) S (by omega) (by omega) hC hS (by rw [va_s]; exact b2)
    rw [List.drop_zero] at a1
    rw [show l_Solver_hasKey_83 fu c1 c2 (nI (n + 1)) (nI ply) x4 fu (0 : Int32) B V (va_up R1 ply w2) S = _ from a1]
    have a4' : ∀ i, i < ply → R2 i = R i := fun i hi => by rw [a4 i hi, va_o _ _ (by omega), hR1 i hi]
    show ∃ B' V' R' S', _ = some (cond ((lgl z).any (fun v => solP k g (slv k g n) (mkv v z))) 1 0, B', V', R', S') ∧ _
    cases hfd : L'.find? (fun v => lgv z v && solP k g (slv k g n) (mkv v z)) with
    | some v =>
      have hvm := List.mem_of_find?_eq_some hfd
      have hvp := List.find?_some hfd
      rw [Bool.and_eq_true] at hvp
      have : (lgl z).any (fun v => solP k g (slv k g n) (mkv v z)) = true := List.any_eq_true.mpr ⟨v, List.mem_filter.mpr ⟨hLm v ((b4 v).mp hvm), hvp.1⟩, hvp.2⟩
      rw [this]
      simp only [Option.bind_some]
      unfold j_Solver_hasKey_173
      rw [if_pos hp6]
      exact ⟨_, _, _, _, rfl, a2, a3, a4'⟩
    | none =>
      have hnone := List.find?_eq_none.mp hfd
      have : (lgl z).any (fun v => solP k g (slv k g n) (mkv v z)) = false := by
        rw [Bool.eq_false_iff]
        intro q
        obtain ⟨v, v1, v2⟩ := List.any_eq_true.mp q
        have := hnone v ((b4 v).mpr (hLs v v1 v2))
        rw [(List.mem_filter.mp v1).2, v2] at this
        exact this rfl
      rw [this]
      exact ⟨B1, V1, R2, S1, rfl, a2, a3, a4'⟩
  have h62 : ∀ (x4 : Int32), ((x4 = 0 ∧ KRef c2 k g n (ply + 1)) ∨ (x4 = 1 ∧ ∀ z, solP k g (slv k g n) z = btn z g)) → ∃ B' V' R' S', j_Solver_hasKey_62 fu c1 c2 B V R S (nI (n + 1)) (nI ply) x4 = some (cond (slv k g (n + 1) z) 1 0, B', V', R', S') ∧ CB B' z l ∧ SK S' k g ∧ ∀ i, i < ply → R' i = R i := by
    intro x4 hx4
    unfold j_Solver_hasKey_62
    rw [nI_clamp (show ply < _ by omega)]
    obtain ⟨w1, a1, a2⟩ := cb_fill fu (by omega) B z l hC hG.1 hN' (R ply)
    rw [a1]
    simp only [Option.bind_some]
    exact h70 x4 V _ (pml z) hx4 hN' (fun v hv => hv) (fun v hv _ => (List.mem_filter.mp hv).1) (by rw [va_s]; exact a2) (fun i hi => va_o _ _ (by omega))
  have h36 : ∃ B' V' R' S', j_Solver_hasKey_36 fu c1 c2 B V R S (nI (n + 1)) (nI ply) = some (cond (slv k g (n + 1) z) 1 0, B', V', R', S') ∧ CB B' z l ∧ SK S' k g ∧ ∀ i, i < ply → R' i = R i := by
    unfold j_Solver_hasKey_36 j_Solver_hasKey_37
    rw [if_pos rfl]
    exact h62 0 (Or.inl ⟨rfl, h2⟩)
  unfold e_Solver_hasKey
  rw [if_neg (show ¬ nI (n + 1) < 1 from nI_nlt (b := 1) (by omega) (by omega)), if_pos (show nI ply < 6 from nI_lt (b := 6) (by omega) (by decide)), if_pos hp6, hS.1]
  rcases (show k = 0 ∨ k = 1 by omega) with rfl | rfl
  · rw [if_neg (fun q => q rfl)]
    by_cases hn0 : n = 0
    · subst hn0
      rw [if_neg (fun q => q rfl)]
      unfold j_Solver_hasKey_37
      rw [if_neg (by decide), hS.2]
      rcases (show g = 0 ∨ g = 1 by omega) with rfl | rfl
      · rw [if_neg (fun q => q rfl), nI_clamp (show ply < _ by omega)]
        obtain ⟨w1, V1, q, a1, a2, a3⟩ := hK z l B (R ply) V hG hC
        rw [a1]
        simp only [Option.bind_some]
        refine h70 1 V1 _ ((pml z).filter q) (Or.inr ⟨rfl, solP_last 0⟩) (by have := List.length_filter_le q (pml z); omega) (fun v hv => (List.mem_filter.mp hv).1) (fun v hv hs => ?_) (by rw [va_s]; exact a2) (fun i hi => va_o _ _ (by omega))
        refine List.mem_filter.mpr ⟨(List.mem_filter.mp hv).1, a3 v hv ?_⟩
        rw [solP_last] at hs
        unfold btn at hs
        rw [Bool.and_eq_true, decide_eq_true_eq] at hs
        rw [hs.1]; rfl
      · rw [if_pos (by decide)]
        exact h62 1 (Or.inr ⟨rfl, solP_last 1⟩)
    · rw [if_pos (show ¬ nI (n + 1) = (1 : Int32) from fun q => by have := (nI_eq (b := 1) (by omega) (by decide)).mp q; omega)]
      exact h36
  · rw [if_pos (by decide)]
    exact h36
theorem cs_has0 (fu : Nat) (c1 c2 : FHk) (k g ply : Nat) : KHas (e_Solver_hasKey fu c1 c2) k g 0 ply := by
  intro z l B V R S hG hC hl hS
  unfold e_Solver_hasKey
  rw [if_pos (by decide)]
  exact ⟨B, V, R, S, rfl, hC, hS, fun _ _ => rfl⟩
theorem cs_all (hN : okN) (fu : Nat) (hfu : 704 < fu) (hK : okC fu) (k g : Nat) (hk : k < 2) (hg : g < 2) : ∀ n, n ≤ 2 → (∀ d ply, 2 * n + 1 ≤ d → ply + 2 * n ≤ 6 → KHas (g_Solver fu d).1 k g n ply) ∧ (∀ d ply, 2 * n + 2 ≤ d → ply + 2 * n ≤ 5 → KRef (g_Solver fu d).2 k g n ply) ∧ (∀ d ply, 2 * n + 3 ≤ d → ply + 2 * n ≤ 4 → KHas (g_Solver fu d).1 k g (n + 1) ply) := by
  intro n
  induction n with
  | zero =>
    intro _
    have a : ∀ d ply, 2 * 0 + 1 ≤ d → ply + 2 * 0 ≤ 6 → KHas (g_Solver fu d).1 k g 0 ply := by
      intro d ply hd hp
      obtain ⟨d, rfl⟩ : ∃ e, d = e + 1 := ⟨d - 1, by omega⟩
      exact cs_has0 fu _ _ k g ply
    have b : ∀ d ply, 2 * 0 + 2 ≤ d → ply + 2 * 0 ≤ 5 → KRef (g_Solver fu d).2 k g 0 ply := by
      intro d ply hd hp
      obtain ⟨d, rfl⟩ : ∃ e, d = e + 1 := ⟨d - 1, by omega⟩
      exact cs_ref hN fu hfu _ _ k g 0 ply hk hg (by omega) (by omega) (a d (ply + 1) (by omega) (by omega))
    refine ⟨a, b, fun d ply hd hp => ?_⟩
    obtain ⟨d, rfl⟩ : ∃ e, d = e + 1 := ⟨d - 1, by omega⟩
    exact cs_has hN fu hfu hK _ _ k g 0 ply hk hg (by omega) (by omega) (b d (ply + 1) (by omega) (by omega))
  | succ n ih =>
    intro hn
    obtain ⟨-, -, i3⟩ := ih (by omega)
    have a : ∀ d ply, 2 * (n + 1) + 1 ≤ d → ply + 2 * (n + 1) ≤ 6 → KHas (g_Solver fu d).1 k g (n + 1) ply := fun d ply hd hp => i3 d ply (by omega) (by omega)
    have b : ∀ d ply, 2 * (n + 1) + 2 ≤ d → ply + 2 * (n + 1) ≤ 5 → KRef (g_Solver fu d).2 k g (n + 1) ply := by
      intro d ply hd hp
      obtain ⟨d, rfl⟩ : ∃ e, d = e + 1 := ⟨d - 1, by omega⟩
      exact cs_ref hN fu hfu _ _ k g (n + 1) ply hk hg (by omega) (by omega) (a d (ply + 1) (by omega) (by omega))
    refine ⟨a, b, fun d ply hd hp => ?_⟩
    obtain ⟨d, rfl⟩ : ∃ e, d = e + 1 := ⟨d - 1, by omega⟩
    exact cs_has hN fu hfu hK _ _ k g (n + 1) ply hk hg (by omega) (by omega) (b d (ply + 1) (by omega) (by omega))
