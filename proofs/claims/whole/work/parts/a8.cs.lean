/-! SOLVING: the class -/
theorem va_s (R : Nat → RwT) (k : Nat) (w : RwT) : va_up R k w k = w := if_pos rfl
theorem va_o (R : Nat → RwT) {k j : Nat} (w : RwT) (h : ¬ j = k) : va_up R k w j = R j := if_neg h
abbrev FHk : Type := Int32 → Int32 → BdT → MvT → (Nat → RwT) → SoT → Option (Int32 × BdT × MvT × (Nat → RwT) × SoT)
def SK (S : SoT) (k g : Nat) : Prop := so_kind S = nI k ∧ so_goal S = nI g
def KHas (f : FHk) (k g n ply : Nat) : Prop := ∀ z l B V R S, Gz z → CB B z l → l.length ≤ 8 + ply → SK S k g → ∃ B' V' R' S', f (nI n) (nI ply) B V R S = some (cond (slv k g n z) 1 0, B', V', R', S') ∧ CB B' z l ∧ SK S' k g ∧ ∀ i, i < ply → R' i = R i
/-- the first reply that refutes -/
def rft (k g n : Nat) (z : Pz) : Int32 := match (lgl z).find? (fun v => !ansP k g (slv k g n) (mkv v z)) with
  | some v => cd v
  | none => if solP k g (slv k g n) z = true then -1 else -2
def KRef (f : FHk) (k g n ply : Nat) : Prop := ∀ z l B V R S, Gz z → CB B z l → l.length ≤ 8 + ply → SK S k g → ∃ r B' V' R' S', f (nI (n + 1)) (nI ply) B V R S = some (r, B', V', R', S') ∧ (r = -1 ↔ solP k g (slv k g n) z = true) ∧ (so_hints S ply < 0 → r = rft k g n z) ∧ CB B' z l ∧ SK S' k g ∧ ∀ i, i < ply → R' i = R i
/-- the moves that may give check are found -/
def okC (fu : Nat) : Prop := ∀ z l B w V, Gz z → CB B z l → ∃ w' V' q, f_Mover_fillChecks fu w B V = some (w', V') ∧ RW w' ((pml z).filter q) ∧ ∀ v ∈ lgl z, chk (zm (mkv v z)) (zc (mkv v z)) = true → q v = true
theorem cs_136 (fu : Nat) (hfu : 704 < fu) (c1 c2 : FHk) (k g n ply : Nat) (hk : k < 2) (hg : g < 2) (hn : n ≤ 2) (hply : ply + 2 * n ≤ 5) (h1 : KHas c1 k g n (ply + 1)) (z : Pz) (l : StT) (hG : Gz z) (hl : l.length ≤ 8 + ply) (L : List Mv) (hL : L.length ≤ 704) (hLp : ∀ v ∈ L, pmv z v) (l5 l8 : Int64) (x7 x10 : Int32) : ∀ (r m i : Nat) (b : Bool) (B : BdT) (V : MvT) (R : Nat → RwT) (S : SoT), i + r = L.length → r < m → CB B z l → SK S k g → RW (R ply) L → ∃ B' V' R' S', l_Solver_refutation_136 fu c1 c2 (nI (n + 1)) (nI ply) l5 x7 l8 x10 m (cond b 1 0) (nI i) B V R S = some (match (L.drop i).find? (fun v => lgv z v && !ansP k g (slv k g n) (mkv v z)) with
    | some v => .inl (cd v, B', V', R', S')
    | none => .inr (cond (b || (L.drop i).any (lgv z)) 1 0, B', V', R', S')) ∧ CB B' z l ∧ SK S' k g ∧ ∀ i, i < ply → R' i = R i := by
  intro r
  induction r with
  | zero =>
    intro m i b B V R S hi hm hC hS hR
    obtain ⟨m, rfl⟩ : ∃ x, m = x + 1 := ⟨m - 1, by omega⟩
    refine ⟨B, V, R, S, ?_, hC, hS, fun _ _ => rfl⟩
    show b_Solver_refutation_136 fu c1 c2 (nI (n + 1)) (nI ply) l5 x7 l8 x10 _ (cond b 1 0) (nI i) B V R S = _
    unfold b_Solver_refutation_136
    rw [nI_clamp (show ply < _ by omega), hR.1, if_pos (nI_le (by omega) (by omega)), List.drop_of_length_le (by omega)]
    simp
  | succ r ih =>
    intro m i b B V R S hi hm hC hS hR
    obtain ⟨m, rfl⟩ : ∃ x, m = x + 1 := ⟨m - 1, by omega⟩
    show ∃ B' V' R' S', b_Solver_refutation_136 fu c1 c2 (nI (n + 1)) (nI ply) l5 x7 l8 x10 (l_Solver_refutation_136 fu c1 c2 (nI (n + 1)) (nI ply) l5 x7 l8 x10 m) (cond b 1 0) (nI i) B V R S = _ ∧ _
    unfold b_Solver_refutation_136
    obtain ⟨v, g1, g2, g3⟩ := drq (P := L) (i := i) (by omega)
    rw [nI_clamp (show ply < _ by omega), hR.1, if_neg (nI_ge (by omega) (by omega)), if_pos (pu_in (show i < 704 by omega) (by decide)), nI_clamp (show i < _ by omega), hR.2 i v g1]
    have hv := hLp v g2
    obtain ⟨B1, e1, e2, e3⟩ := cb_tryv fu (by omega) B z l hC (by omega) hG v hv
    rw [e1]
    simp only [Option.bind_some]
    rw [e3]
    simp only [Option.bind_some]
    rw [g3, List.find?_cons, List.any_cons]
    -- the loop goes on
    have go : ∀ (b' : Bool) (x14 : Int32) (B2 : BdT) (V2 : MvT) (R2 : Nat → RwT) (S2 : SoT), CB B2 z l → SK S2 k g → (∀ i, i < ply + 1 → R2 i = R i) → (x14 = cond (lgv z v) 1 0) → b' = (b || lgv z v) → ∃ B' V' R' S', j_Solver_refutation_247 fu c1 c2 (l_Solver_refutation_136 fu c1 c2 (nI (n + 1)) (nI ply) l5 x7 l8 x10 m) B2 V2 R2 S2 (nI (n + 1)) (nI ply) (cond b 1 0) l5 x7 l8 x10 (nI i) x14 = some (match (L.drop (i + 1)).find? (fun v => lgv z v && !ansP k g (slv k g n) (mkv v z)) with
        | some v => .inl (cd v, B', V', R', S')
        | none => .inr (cond (b || (lgv z v || (L.drop (i + 1)).any (lgv z))) 1 0, B', V', R', S')) ∧ CB B' z l ∧ SK S' k g ∧ ∀ i, i < ply → R' i = R i := by
      intro b' x14 B2 V2 R2 S2 c2' s2 r2 hx hb
      obtain ⟨B3, V3, R3, S3, a1, a2, a3, a4⟩ := ih m (i + 1) b' B2 V2 R2 S2 (by omega) (by omega) c2' s2 (by rw [r2 ply (by omega)]; exact hR)
      refine ⟨B3, V3, R3, S3, ?_, a2, a3, fun i hi => (a4 i hi).trans (r2 i (by omega))⟩
      rw [← Bool.or_assoc, ← hb, ← a1]
      unfold j_Solver_refutation_247 j_Solver_refutation_257 j_Solver_refutation_262
      rw [nI_1, hx, hb]
      cases b <;> cases lgv z v <;> rfl
    -- the move is taken back
    have h217 : ∀ (y : Bool) (x14 : Int32) (B2 : BdT) (V2 : MvT) (R2 : Nat → RwT) (S2 : SoT), CB B2 (mkv v z) ((v.1, v.2.1, v.2.2, z) :: l) → SK S2 k g → (∀ i, i < ply + 1 → R2 i = R i) → x14 = cond (lgv z v) 1 0 → (lgv z v = true → y = ansP k g (slv k g n) (mkv v z)) → ∃ B' V' R' S', j_Solver_refutation_217 fu c1 c2 (l_Solver_refutation_136 fu c1 c2 (nI (n + 1)) (nI ply) l5 x7 l8 x10 m) B2 V2 R2 S2 (nI (n + 1)) (nI ply) (cond b 1 0) l5 x7 l8 x10 (nI i) (cd v) x14 (cond y 1 0) = some (match (match lgv z v && !ansP k g (slv k g n) (mkv v z) with
            | true => some v
            | false => (L.drop (i + 1)).find? (fun v => lgv z v && !ansP k g (slv k g n) (mkv v z))) with
        | some v => .inl (cd v, B', V', R', S')
        | none => .inr (cond (b || (lgv z v || (L.drop (i + 1)).any (lgv z))) 1 0, B', V', R', S')) ∧ CB B' z l ∧ SK S' k g ∧ ∀ i, i < ply → R' i = R i := by
      intro y x14 B2 V2 R2 S2 c2' s2 r2 hx hy
      obtain ⟨B3, f1, f2⟩ := cb_unv B2 z l (by omega) hG v hv c2'
      unfold j_Solver_refutation_217
      rw [f1]
      simp only [Option.bind_some]
      have gg := go (b || lgv z v) x14 B3 V2 R2 S2 f2 s2 r2 hx rfl
      rw [hx]
      rw [hx] at gg
      cases hlv : lgv z v with
      | false =>
        rw [if_pos (by decide), Bool.false_and]
        rw [hlv] at gg
        exact gg
      | true =>
        rw [if_neg (by decide), ← hy hlv, Bool.true_and]
        rw [hlv] at gg
        cases y with
        | true =>
          rw [if_pos (by decide)]
          exact gg
        | false =>
          rw [if_neg (by decide)]
          exact ⟨B3, V2, R2, S2, rfl, f2, s2, fun i hi => r2 i (by omega)⟩
    have hGv : lgv z v = true → Gz (mkv v z) := fun h => pmv_gz hG hv h
    -- the reply is followed up
    have h199 : ∀ (B2 : BdT), lgv z v = true → CB B2 (mkv v z) ((v.1, v.2.1, v.2.2, z) :: l) → (ansP k g (slv k g n) (mkv v z) = slv k g n (mkv v z)) → ∃ B' V' R' S', j_Solver_refutation_199 fu c1 c2 (l_Solver_refutation_136 fu c1 c2 (nI (n + 1)) (nI ply) l5 x7 l8 x10 m) B2 V R S (nI (n + 1)) (nI ply) (cond b 1 0) l5 x7 l8 x10 (nI i) (cd v) (cond (lgv z v) 1 0) = some (match (match lgv z v && !ansP k g (slv k g n) (mkv v z) with
            | true => some v
            | false => (L.drop (i + 1)).find? (fun v => lgv z v && !ansP k g (slv k g n) (mkv v z))) with
        | some v => .inl (cd v, B', V', R', S')
        | none => .inr (cond (b || (lgv z v || (L.drop (i + 1)).any (lgv z))) 1 0, B', V', R', S')) ∧ CB B' z l ∧ SK S' k g ∧ ∀ i, i < ply → R' i = R i := by
      intro B2 hlv c2' hans
      unfold j_Solver_refutation_199 j_Solver_refutation_216 j_Solver_refutation_212
      rw [nI_pred, nI_1]
      obtain ⟨B3, V3, R3, S3, a1, a2, a3, a4⟩ := h1 (mkv v z) _ B2 V R S (hGv hlv) c2' (by simp only [List.length_cons]; omega) hS
      rw [a1]
      simp only [Option.bind_some]
      cases hs : slv k g n (mkv v z) with
      | true =>
        rw [if_neg (by decide)]
        exact h217 true _ B3 V3 R3 S3 a2 a3 a4 rfl (fun _ => by rw [hans, hs])
      | false =>
        rw [if_pos (by decide)]
        exact h217 false _ B3 V3 R3 S3 a2 a3 a4 rfl (fun _ => by rw [hans, hs])
    cases hlv : lgv z v with
    | false =>
      rw [if_pos (by decide)]
      unfold j_Solver_refutation_216
      have := h217 false (cond (lgv z v) 1 0) B1 V R S e2 hS (fun _ _ => rfl) rfl (fun q => by rw [hlv] at q; cases q)
      rw [hlv] at this
      exact this
    | true =>
      rw [if_neg (by decide), hS.1, hS.2]
      have h199' := h199
      rw [hlv] at h199'
      rcases (show k = 0 ∨ k = 1 by omega) with rfl | rfl
      · rw [if_pos (by decide)]
        exact h199' B1 rfl e2 rfl
      · rw [if_neg (fun q => q rfl)]
        obtain ⟨B2, b1, b2⟩ := cb_beaten fu (by omega) B1 (mkv v z) _ e2 (by simp only [List.length_cons]; omega) (hGv hlv) g hg
        rw [b1]
        simp only [Option.bind_some]
        cases hbt : btn (mkv v z) g with
        | true =>
          rw [if_pos (by decide)]
          unfold j_Solver_refutation_212
          have := h217 true (cond (lgv z v) 1 0) B2 V R S b2 hS (fun _ _ => rfl) rfl (fun _ => by unfold ansP; rw [hbt]; rfl)
          rw [hlv] at this
          exact this
        | false =>
          rw [if_neg (by decide)]
          exact h199' B2 rfl b2 (by unfold ansP; rw [hbt]; rfl)
/-- the moves from some squares -/
def FM (z : Pz) (x : Int64) : List Mv := (bl x).flatMap (mvs z)
theorem mvs_le {z : Pz} {s : Nat} (h : s ∈ ows z) : (mvs z s).length ≤ (pml z).length := by
  unfold pml
  generalize ows z = l at h ⊢
  induction l with
  | nil => cases h
  | cons a l ih =>
    rw [List.flatMap_cons, List.length_append]
    rcases List.mem_cons.mp h with rfl | h
    · omega
    · have := ih h; omega
theorem cs_68 (fu : Nat) (hfu : 704 < fu) (c1 c2 : FHk) (k g n ply : Nat) (hk : k < 2) (hg : g < 2) (hn : n ≤ 2) (hply : ply + 2 * n ≤ 5) (h1 : KHas c1 k g n (ply + 1)) (z : Pz) (l : StT) (hG : Gz z) (hN : (pml z).length ≤ 704) (hl : l.length ≤ 8 + ply) (x7 : Int32) : ∀ (j m i : Nat) (x f : Int64) (b : Bool) (B : BdT) (V : MvT) (R : Nat → RwT) (S : SoT), (bl x).length = j → j + i ≤ 64 → j < m → (∀ s ∈ bl x, s ∈ ows z) → (f = 0 ∨ ∃ k, k < 64 ∧ f = am_shl 1 (nI k) ∧ bt x k = true) → CB B z l → SK S k g → ∃ (o : Option Mv) (B' : BdT) (V' : MvT) (R' : Nat → RwT) (S' : SoT), l_Solver_refutation_68 fu c1 c2 (nI (n + 1)) (nI ply) x7 m (cond b 1 0) x f (nI i) B V R S = some (match o with
    | some v => .inl (cd v, B', V', R', S')
    | none => .inr (cond (b || (FM z x).any (lgv z)) 1 0, B', V', R', S')) ∧ (o = none → ∀ v ∈ FM z x, (lgv z v && !ansP k g (slv k g n) (mkv v z)) = false) ∧ (∀ v, o = some v → v ∈ FM z x ∧ (lgv z v && !ansP k g (slv k g n) (mkv v z)) = true) ∧ (x7 < 0 → f = 0 → o = (FM z x).find? (fun v => lgv z v && !ansP k g (slv k g n) (mkv v z))) ∧ CB B' z l ∧ SK S' k g ∧ ∀ i, i < ply → R' i = R i := by
  intro j
  induction j with
  | zero =>
    intro m i x f b B V R S hx hi hm _ hf hC hS
    obtain ⟨m, rfl⟩ : ∃ y, m = y + 1 := ⟨m - 1, by omega⟩
    have hnil : bl x = [] := List.eq_nil_of_length_eq_zero hx
    have hFM : FM z x = [] := by unfold FM; rw [hnil]; rfl
    refine ⟨none, B, V, R, S, ?_, (fun _ v hv => by rw [hFM] at hv; cases hv), (fun v h => by cases h), (fun _ _ => by rw [hFM]; rfl), hC, hS, fun _ _ => rfl⟩
    show b_Solver_refutation_68 fu c1 c2 (nI (n + 1)) (nI ply) x7 _ (cond b 1 0) x f (nI i) B V R S = _
    unfold b_Solver_refutation_68
    rw [hFM]
    simp only [List.any_nil, Bool.or_false]
    by_cases h64 : (64 : Int32) ≤ nI i
    · rw [if_pos h64]
    · rw [if_neg h64, if_pos]
      apply Classical.byContradiction
      intro q
      obtain ⟨k, hk⟩ := bl_split q
      rw [bl_cons hk (fun i hi => bt_rm1 hk i hi)] at hnil
      cases hnil
  | succ j ih =>
    intro m i x f b B V R S hx hi hm hown hf hC hS
    obtain ⟨m, rfl⟩ : ∃ y, m = y + 1 := ⟨m - 1, by omega⟩
    show ∃ (o : Option Mv) (B' : BdT) (V' : MvT) (R' : Nat → RwT) (S' : SoT), b_Solver_refutation_68 fu c1 c2 (nI (n + 1)) (nI ply) x7 (l_Solver_refutation_68 fu c1 c2 (nI (n + 1)) (nI ply) x7 m) (cond b 1 0) x f (nI i) B V R S = _ ∧ _
    unfold b_Solver_refutation_68
    rw [if_neg (show ¬ (64 : Int32) ≤ nI i from nI_ge (b := 64) (by omega) (by decide))]
    have hne : ¬ lg_cmp x 0 = 0 := fun q => by rw [bl_nil q] at hx; cases hx
    rw [if_neg hne]
    have go : ∀ (t0 : Int64) (q : Nat), low t0 q → bt x q = true → (x7 < 0 → f = 0 → low x q) → ∃ (o : Option Mv) (B' : BdT) (V' : MvT) (R' : Nat → RwT) (S' : SoT), j_Solver_refutation_96 fu c1 c2 (l_Solver_refutation_68 fu c1 c2 (nI (n + 1)) (nI ply) x7 m) B V R S (nI (n + 1)) (nI ply) (cond b 1 0) x x7 (nI i) t0 = some (match o with
        | some v => .inl (cd v, B', V', R', S')
        | none => .inr (cond (b || (FM z x).any (lgv z)) 1 0, B', V', R', S')) ∧ (o = none → ∀ v ∈ FM z x, (lgv z v && !ansP k g (slv k g n) (mkv v z)) = false) ∧ (∀ v, o = some v → v ∈ FM z x ∧ (lgv z v && !ansP k g (slv k g n) (mkv v z)) = true) ∧ (x7 < 0 → f = 0 → o = (FM z x).find? (fun v => lgv z v && !ansP k g (slv k g n) (mkv v z))) ∧ CB B' z l ∧ SK S' k g ∧ ∀ i, i < ply → R' i = R i := by
      intro t0 q hq hb hlow
      obtain ⟨A, C, q1, q2⟩ := bl_mid hq.1 hb (fun i hi => bt_rm3 (x := x) hq.1 i hi)
      have hqo : q ∈ ows z := hown q (by rw [q1]; simp)
      obtain ⟨o1, o2⟩ := mem_ows hqo
      have hqN := mvs_le hqo
      generalize hy : x &&& (am_shl 1 (nI q) ^^^ (-1)) = y at q2
      have hFx : ∀ v, v ∈ FM z x ↔ v ∈ mvs z q ∨ v ∈ FM z y := by
        intro v
        unfold FM
        rw [q1, q2]
        simp only [List.flatMap_append, List.flatMap_cons, List.mem_append]
        constructor
        · rintro (h | h | h)
          · exact Or.inr (Or.inl h)
          · exact Or.inl h
          · exact Or.inr (Or.inr h)
        · rintro (h | h | h)
          · exact Or.inr (Or.inl h)
          · exact Or.inl h
          · exact Or.inr (Or.inr h)
      have hany : ∀ L' : List Mv, (∀ v, v ∈ L' ↔ v ∈ mvs z q) → (FM z x).any (lgv z) = (L'.any (lgv z) || (FM z y).any (lgv z)) := by
        intro L' hL'
        rw [Bool.eq_iff_iff, Bool.or_eq_true, List.any_eq_true, List.any_eq_true, List.any_eq_true]
        constructor
        · rintro ⟨v, h1, h2⟩
          rcases (hFx v).mp h1 with h | h
          · exact Or.inl ⟨v, (hL' v).mpr h, h2⟩
          · exact Or.inr ⟨v, h, h2⟩
        · rintro (⟨v, h1, h2⟩ | ⟨v, h1, h2⟩)
          · exact ⟨v, (hFx v).mpr (Or.inl ((hL' v).mp h1)), h2⟩
          · exact ⟨v, (hFx v).mpr (Or.inr h1), h2⟩
      unfold j_Solver_refutation_96
      rw [pu_lowest hq]
      simp only [Option.bind_some]
      rw [nI_clamp (show ply < _ by omega)]
      obtain ⟨w1, a1, a2⟩ := cb_fillFrom fu (by omega) B z l hC hG.1 q o1 o2 (by omega) (R ply)
      rw [a1]
      simp only [Option.bind_some]
      rw [va_s]
      obtain ⟨w2, L', b1, b2, b3, b4, b5⟩ := rw_bring fu (by omega) w1 (mvs z q) a2 (by omega) x7 (fun v hv => cd_ne (mem_mvs o1 o2 hv).1)
      rw [b1]
      simp only [Option.bind_some]
      rw [hy]
      obtain ⟨B3, V3, R3, S3, d1, d2, d3, d4⟩ := cs_136 fu hfu c1 c2 k g n ply hk hg hn hply h1 z l hG hl L' (by omega) (fun v hv => (mem_mvs o1 o2 ((b4 v).mp hv)).1) y 0 x7 (nI i) L'.length fu 0 b B V (va_up (va_up R ply w1) ply w2) S (by omega) (by omega) hC hS (by rw [va_s]; exact b2)
      have d4' : ∀ i, i < ply → R3 i = R i := fun i hi => by rw [d4 i hi, va_o _ _ (by omega), va_o _ _ (by omega)]
      rw [List.drop_zero] at d1
      rw [show l_Solver_refutation_136 fu c1 c2 (nI (n + 1)) (nI ply) y x7 0 (nI i) fu (cond b 1 0) (0 : Int32) B V (va_up (va_up R ply w1) ply w2) S = _ from d1]
      cases hfd : L'.find? (fun v => lgv z v && !ansP k g (slv k g n) (mkv v z)) with
      | some v =>
        have hvm := List.mem_of_find?_eq_some hfd
        have hvp := List.find?_some hfd
        refine ⟨some v, B3, V3, R3, S3, rfl, (fun h => by cases h), fun u hu => ?_, fun hx7 hf0 => ?_, d2, d3, d4'⟩
        · cases hu
          exact ⟨(hFx v).mpr (Or.inl ((b4 v).mp hvm)), hvp⟩
        · have hlw := hlow hx7 hf0
          have hcons := bl_cons hlw (fun i hi => bt_rm3 (x := x) hq.1 i hi)
          unfold FM
          rw [hcons, List.flatMap_cons, List.find?_append, ← b5 hx7, hfd]
          rfl
      | none =>
        have hnone := List.find?_eq_none.mp hfd
        simp only [Option.bind_some]
        unfold j_Solver_refutation_270
        rw [nI_1]
        obtain ⟨o, B4, V4, R4, S4, e1, e2, e3, e4, e5, e6, e7⟩ := ih m (i + 1) y 0 (b || L'.any (lgv z)) B3 V3 R3 S3 (by rw [q1] at hx; rw [q2]; simp at hx ⊢; omega) (by omega) (by omega) (fun s hs => hown s (by
          rw [q2] at hs; rw [q1]
          rcases List.mem_append.mp hs with hs | hs
          · exact List.mem_append.mpr (Or.inl hs)
          · exact List.mem_append.mpr (Or.inr (List.mem_cons_of_mem _ hs)))) (Or.inl rfl) d2 d3
        refine ⟨o, B4, V4, R4, S4, ?_, fun ho v hv => ?_, fun v hv => ?_, fun hx7 hf0 => ?_, e5, e6, fun i hi => (e7 i hi).trans (d4' i hi)⟩
        · rw [e1, hany L' b4, Bool.or_assoc]
        · rcases (hFx v).mp hv with h | h
          · have := hnone v ((b4 v).mpr h)
            simpa using this
          · exact e2 ho v h
        · obtain ⟨p1, p2⟩ := e3 v hv
          exact ⟨(hFx v).mpr (Or.inr p1), p2⟩
        · have hlw := hlow hx7 hf0
          have hcons := bl_cons hlw (fun i hi => bt_rm3 (x := x) hq.1 i hi)
          rw [e4 hx7 rfl]
          unfold FM
          rw [hcons, List.flatMap_cons, List.find?_append, ← b5 hx7, hfd, hy]
          rfl
    rcases hf with rfl | ⟨q, hq, rfl, hb⟩
    · rw [if_pos ((lg0 0).mpr rfl)]
      obtain ⟨q, hq⟩ := bl_split hne
      exact go x q hq hq.2.1 (fun _ _ => hq)
    · have hnz : ¬ lg_cmp (am_shl 1 (nI q)) 0 = 0 := fun h => by
        have := (bt_z _).mp ((lg0 _).mp h) q hq
        rw [bt_sh hq, decide_eq_true rfl] at this
        cases this
      rw [if_neg hnz]
      exact go _ q (low_sh hq) hb (fun _ h0 => absurd ((lg0 _).mpr h0) hnz)
