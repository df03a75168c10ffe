/-! .. and the class -/
theorem nI_inj32 {a b : Nat} (ha : a < 2 ^ 32) (hb : b < 2 ^ 32) (h : nI a = nI b) : a = b := by
  have h2 : (nI a).toBitVec.toNat = (nI b).toBitVec.toNat := by rw [h]
  have e : ∀ n, (nI n).toBitVec.toNat = n % 2 ^ 32 := fun n => by
    show (BitVec.ofNat 32 n).toNat = _
    rw [BitVec.toNat_ofNat]
  rw [e, e, Nat.mod_eq_of_lt ha, Nat.mod_eq_of_lt hb] at h2
  exact h2
theorem mul4 (k : Nat) : (4 : Int32) * nI k = nI (4 * k) := (Int32.ofNat_mul 4 k).symm
def HI (P : HeT) (g n2 fk : Nat) (D : List (List Mv)) : Prop := he_firstKept P = nI fk ∧ he_known P = 1 ∧ he_goal P = nI g ∧ he_plies P = nI n2 ∧ he_count P = nI D.length ∧ ∀ i x, fk ≤ i → i < fk + 1024 → D[i]? = some x → ∀ j v, j < n2 → x[j]? = some v → he_kept P (4 * (i - fk) + j) = cd v
def PT (P : HeT) (p : List Mv) : Prop := ∀ j v, p[j]? = some v → he_path P j = cd v
theorem hc_23 (fu k : Nat) (hk : k < 1024) : ∀ (r m i : Nat) (P : HeT), i + r = 4 → r < m → ∃ k', l_HelpLines_keepPath_23 fu (nI k) m (nI i) P = some (he_path P, k', he_firstKept P, he_known P, he_goal P, he_plies P, he_count P) ∧ (∀ j, i ≤ j → j < 4 → k' (4 * k + j) = he_path P j) ∧ ∀ q, (q < 4 * k + i ∨ 4 * k + 4 ≤ q) → k' q = he_kept P q := by
  intro r
  induction r with
  | zero =>
    intro m i P hi hm
    obtain ⟨m, rfl⟩ : ∃ x, m = x + 1 := ⟨m - 1, by omega⟩
    refine ⟨he_kept P, ?_, fun j h1 h2 => by omega, fun _ _ => rfl⟩
    show b_HelpLines_keepPath_23 fu (nI k) _ (nI i) P = _
    unfold b_HelpLines_keepPath_23
    rw [if_pos (show (4 : Int32) ≤ nI i from nI_le (a := 4) (by omega) (by omega))]
  | succ r ih =>
    intro m i P hi hm
    obtain ⟨m, rfl⟩ : ∃ x, m = x + 1 := ⟨m - 1, by omega⟩
    show ∃ k', b_HelpLines_keepPath_23 fu (nI k) (l_HelpLines_keepPath_23 fu (nI k) m) (nI i) P = _ ∧ _
    unfold b_HelpLines_keepPath_23
    rw [if_neg (show ¬ (4 : Int32) ≤ nI i from nI_ge (b := 4) (by omega) (by decide)), if_pos (pu_in (show i < 4 by omega) (by decide)), mul4, nI_add, if_pos (pu_in (show 4 * k + i < 4096 by omega) (by decide)), nI_clamp (show 4 * k + i < _ by omega), nI_clamp (show i < _ by omega), nI_1]
    obtain ⟨k', e1, e2, e3⟩ := ih m (i + 1) (he_path P, upd (he_kept P) (4 * k + i) (he_path P i), he_firstKept P, he_known P, he_goal P, he_plies P, he_count P) (by omega) (by omega)
    refine ⟨k', e1, fun j h1 h2 => ?_, fun q hq => ?_⟩
    · by_cases hji : j = i
      · rw [e3 _ (by omega), hji]
        exact upd_s _ _ _
      · exact e2 j (by omega) h2
    · rw [e3 q (by omega)]
      exact upd_o _ _ (by omega)
theorem hc_keep (fu : Nat) (hfu : 4 < fu) (P : HeT) (g n2 fk : Nat) (hn2 : n2 ≤ 4) (hfk : fk < 2 ^ 31) (D : List (List Mv)) (p : List Mv) (hI : HI P g n2 fk D) (hT : PT P p) (hp : p.length = n2) (hD : D.length < 2 ^ 32) : ∃ P', f_HelpLines_keepPath fu P = some P' ∧ HI P' g n2 fk (D ++ [p]) ∧ he_path P' = he_path P := by
  obtain ⟨i1, i2, i3, i4, i5, i6⟩ := hI
  have hcnt : he_count P + 1 = nI (D ++ [p]).length := by rw [i5, nI_1]; simp
  -- where the line lies
  have hat : ∀ i x, fk ≤ i → (D ++ [p])[i]? = some x → ¬ i = D.length → D[i]? = some x := by
    intro i x _ hx hne
    rw [List.getElem?_append] at hx
    by_cases hi : i < D.length
    · rw [if_pos hi] at hx; exact hx
    · rw [if_neg hi] at hx
      obtain ⟨k, hk⟩ : ∃ k, i - D.length = k + 1 := ⟨i - D.length - 1, by omega⟩
      rw [hk] at hx
      cases hx
  have hskip : (D.length < fk ∨ fk + 1024 ≤ D.length) → HI (he_path P, he_kept P, he_firstKept P, he_known P, he_goal P, he_plies P, he_count P + 1) g n2 fk (D ++ [p]) := by
    intro hs
    refine ⟨i1, i2, i3, i4, hcnt, fun i x h1 h2 hx j v hj hv => ?_⟩
    exact i6 i x h1 h2 (hat i x h1 hx (by omega)) j v hj hv
  unfold f_HelpLines_keepPath j_HelpLines_keepPath_50
  rw [i1, i5]
  rw [i1, i5] at hskip
  by_cases hneg : nI D.length - nI fk < 0
  · rw [if_pos hneg]
    refine ⟨_, rfl, hskip ?_, rfl⟩
    apply Classical.byContradiction
    intro q
    rw [nI_sub (by omega)] at hneg
    exact nI_pos (n := D.length - fk) (by omega) hneg
  · rw [if_neg hneg]
    obtain ⟨k, hk, e⟩ := nI_of hneg
    have hlen : D.length = k + fk := by
      have : nI D.length = nI (k + fk) := by
        rw [← nI_add, ← e, Int32.sub_add_cancel]
      exact nI_inj32 hD (by omega) this
    rw [e]
    by_cases hbig : 1024 ≤ k
    · rw [if_pos (show (1024 : Int32) ≤ nI k from nI_le (a := 1024) hbig hk)]
      exact ⟨_, rfl, hskip (by omega), rfl⟩
    · rw [if_neg (show ¬ (1024 : Int32) ≤ nI k from nI_ge (b := 1024) (by omega) (by decide))]
      obtain ⟨k', e1, e2, e3⟩ := hc_23 fu k (by omega) 4 fu 0 P (by omega) (by omega)
      rw [show l_HelpLines_keepPath_23 fu (nI k) fu (0 : Int32) P = _ from e1]
      simp only [Option.bind_some]
      refine ⟨_, rfl, ⟨i1, i2, i3, i4, hcnt, fun i x h1 h2 hx j v hj hv => ?_⟩, rfl⟩
      show k' (4 * (i - fk) + j) = cd v
      by_cases hi : i = D.length
      · have hxp : x = p := by
          rw [hi] at hx
          simp at hx
          exact hx.symm
        rw [hi, show D.length - fk = k by omega, e2 j (by omega) (by omega)]
        rw [hxp] at hv
        exact hT j v hv
      · rw [e3 _ (by omega)]
        exact i6 i x h1 h2 (hat i x h1 hx hi) j v hj hv
/-- lines of a row in which there may be moves that are not legal -/
def lnl (g r : Nat) (z : Pz) (L : List Mv) : List (List Mv) := L.flatMap (fun v => if lgv z v = true then (hln g r (mkv v z)).map (fun x => v :: x) else [])
theorem lnl_cons (g r : Nat) (z : Pz) (v : Mv) (L : List Mv) : lnl g r z (v :: L) = (if lgv z v = true then (hln g r (mkv v z)).map (fun x => v :: x) else []) ++ lnl g r z L := List.flatMap_cons
theorem lnl_pml (g r : Nat) (z : Pz) : lnl g r z (pml z) = hln g (r + 1) z := by
  show _ = (lgl z).flatMap _
  unfold lgl
  generalize pml z = L
  induction L with
  | nil => rfl
  | cons a L ih =>
    rw [lnl_cons, List.filter_cons, ih]
    cases lgv z a with
    | true => rw [if_pos rfl, if_pos rfl, List.flatMap_cons]
    | false => rw [if_neg (by decide), if_neg (by decide)]; rfl
theorem lnl_flt (g r : Nat) (z : Pz) (q : Mv → Bool) (L : List Mv) (h : ∀ v ∈ L, lgv z v = true → q v = false → hln g r (mkv v z) = []) : lnl g r z (L.filter q) = lnl g r z L := by
  induction L with
  | nil => rfl
  | cons a L ih =>
    have ih := ih (fun v hv => h v (List.mem_cons_of_mem _ hv))
    rw [List.filter_cons, lnl_cons]
    cases hq : q a with
    | true => rw [if_pos rfl, lnl_cons, ih]
    | false =>
      rw [if_neg (by decide), ih]
      by_cases hl : lgv z a = true
      · rw [if_pos hl, h a List.mem_cons_self hl hq]; rfl
      · rw [if_neg hl]; rfl
abbrev FWk : Type := Int32 → BdT → MvT → (Nat → RwT) → HeT → Option (BdT × MvT × (Nat → RwT) × HeT)
def KWk (f : FWk) (g n2 fk ply : Nat) : Prop := ∀ z l B V R P p D, Gz z → CB B z l → l.length ≤ 8 + ply → p.length = ply → PT P p → HI P g n2 fk D → (D ++ pfx p (hln g (n2 - ply) z)).length < 2 ^ 32 → ∃ B' V' R' P', f (nI ply) B V R P = some (B', V', R', P') ∧ CB B' z l ∧ (∀ i, i < ply → R' i = R i) ∧ HI P' g n2 fk (D ++ pfx p (hln g (n2 - ply) z)) ∧ PT P' p
theorem hi_path {P : HeT} {g n2 fk : Nat} {D : List (List Mv)} (h : HI P g n2 fk D) (f : Nat → Int32) : HI (f, he_kept P, he_firstKept P, he_known P, he_goal P, he_plies P, he_count P) g n2 fk D := h
theorem hc_70 (fu : Nat) (hfu : 704 < fu) (c : FWk) (g n2 fk ply : Nat) (hg : g < 2) (hn2 : n2 ≤ 4) (hply : ply < n2) (hfk : fk < 2 ^ 31) (x3 : Int32) (h3 : (x3 = 0 ∧ KWk c g n2 fk (ply + 1)) ∨ (x3 = 1 ∧ ply + 1 = n2)) (z : Pz) (l : StT) (hG : Gz z) (hl : l.length ≤ 8 + ply) (p : List Mv) (hp : p.length = ply) (L : List Mv) (hL : L.length ≤ 704) (hLp : ∀ v ∈ L, pmv z v) : ∀ (r m i : Nat) (B : BdT) (V : MvT) (R : Nat → RwT) (P : HeT) (D : List (List Mv)), i + r = L.length → r < m → CB B z l → RW (R ply) L → PT P p → HI P g n2 fk D → (D ++ pfx p (lnl g (n2 - (ply + 1)) z (L.drop i))).length < 2 ^ 32 → ∃ B' V' R' P', l_HelpLines_walk_70 fu c (nI ply) x3 m (nI i) B V R P = some (B', V', R', P') ∧ CB B' z l ∧ (∀ i, i < ply → R' i = R i) ∧ HI P' g n2 fk (D ++ pfx p (lnl g (n2 - (ply + 1)) z (L.drop i))) ∧ PT P' p := by
  intro r
  induction r with
  | zero =>
    intro m i B V R P D hi hm hC hR hT hI hD
    obtain ⟨m, rfl⟩ : ∃ x, m = x + 1 := ⟨m - 1, by omega⟩
    refine ⟨B, V, R, P, ?_, hC, fun _ _ => rfl, ?_, hT⟩
    · show b_HelpLines_walk_70 fu c (nI ply) x3 _ (nI i) B V R P = _
      unfold b_HelpLines_walk_70
      rw [nI_clamp (show ply < _ by omega), hR.1, if_pos (nI_le (by omega) (by omega))]
    · rw [List.drop_of_length_le (by omega)]
      simpa [lnl] using hI
  | succ r ih =>
    intro m i B V R P D hi hm hC hR hT hI hD
    obtain ⟨m, rfl⟩ : ∃ x, m = x + 1 := ⟨m - 1, by omega⟩
    show ∃ B' V' R' P', b_HelpLines_walk_70 fu c (nI ply) x3 (l_HelpLines_walk_70 fu c (nI ply) x3 m) (nI i) B V R P = _ ∧ _
    unfold b_HelpLines_walk_70
    obtain ⟨v, g1, g2, g3⟩ := drq (P := L) (i := i) (by omega)
    have hi704 : am_in (nI i) 704 = true := pu_in (by omega) (by decide)
    rw [nI_clamp (show ply < _ by omega), hR.1, if_neg (nI_ge (by omega) (by omega)), if_pos hi704, if_pos (pu_in (show ply < 4 by omega) (by decide)), if_pos hi704, nI_clamp (show i < _ by omega), hR.2 i v g1]
    have hv := hLp v g2
    obtain ⟨B1, e1, e2, e3⟩ := cb_tryv fu (by omega) B z l hC (by omega) hG v hv
    rw [e1]
    simp only [Option.bind_some]
    rw [e3]
    simp only [Option.bind_some]
    rw [g3, lnl_cons] at hD ⊢
    rw [pfx_app, ← List.append_assoc] at hD ⊢
    have hTv : PT (upd (he_path P) ply (cd v), he_kept P, he_firstKept P, he_known P, he_goal P, he_plies P, he_count P) (p ++ [v]) := by
      intro j u hu
      show upd (he_path P) ply (cd v) j = cd u
      rw [List.getElem?_append] at hu
      by_cases hj : j < p.length
      · rw [if_pos hj] at hu
        rw [upd_o _ _ (by omega)]
        exact hT j u hu
      · rw [if_neg hj] at hu
        have : j - p.length = 0 := by
          apply Classical.byContradiction
          intro q
          obtain ⟨k, hk⟩ : ∃ k, j - p.length = k + 1 := Nat.exists_eq_succ_of_ne_zero q
          rw [hk] at hu
          cases hu
        rw [this] at hu
        cases hu
        rw [show j = ply by omega, upd_s]
    have hback : ∀ (P' : HeT), PT P' (p ++ [v]) → PT P' p := fun P' h j u hu => h j u (by rw [List.getElem?_append_left (List.getElem?_eq_some_iff.mp hu).1]; exact hu)
    have h148 : ∀ (B2 : BdT) (V2 : MvT) (R2 : Nat → RwT) (P2 : HeT), CB B2 (mkv v z) ((v.1, v.2.1, v.2.2, z) :: l) → (∀ i, i < ply + 1 → R2 i = R i) → PT P2 (p ++ [v]) → HI P2 g n2 fk (D ++ pfx p (if lgv z v = true then (hln g (n2 - (ply + 1)) (mkv v z)).map (fun x => v :: x) else [])) → ∃ B' V' R' P', j_HelpLines_walk_148 fu c (l_HelpLines_walk_70 fu c (nI ply) x3 m) B2 V2 R2 P2 (nI ply) x3 (nI i) = some (B', V', R', P') ∧ CB B' z l ∧ (∀ i, i < ply → R' i = R i) ∧ HI P' g n2 fk (D ++ pfx p (if lgv z v = true then (hln g (n2 - (ply + 1)) (mkv v z)).map (fun x => v :: x) else []) ++ pfx p (lnl g (n2 - (ply + 1)) z (L.drop (i + 1)))) ∧ PT P' p := by
      intro B2 V2 R2 P2 c2 r2 t2 i2
      obtain ⟨B3, f1, f2⟩ := cb_unv B2 z l (by omega) hG v hv c2
      unfold j_HelpLines_walk_148
      rw [f1]
      simp only [Option.bind_some]
      rw [nI_1]
      obtain ⟨B4, V4, R4, P4, a1, a2, a3, a4, a5⟩ := ih m (i + 1) B3 V2 R2 P2 _ (by omega) (by omega) f2 (by rw [r2 ply (by omega)]; exact hR) (hback P2 t2) i2 hD
      exact ⟨B4, V4, R4, P4, a1, a2, fun i hi => (a3 i hi).trans (r2 i (by omega)), a4, a5⟩
    cases hlv : lgv z v with
    | false =>
      rw [hlv] at h148
      rw [if_pos (by decide)]
      exact h148 B1 V R _ e2 (fun _ _ => rfl) hTv (by simpa using hi_path hI _)
    | true =>
      have hGv : Gz (mkv v z) := pmv_gz hG hv hlv
      rw [hlv] at h148 hD
      rw [if_pos rfl] at h148 hD ⊢
      rw [pfx_cons] at h148 hD ⊢
      rw [if_neg (by decide)]
      rcases h3 with ⟨hx, hk⟩ | ⟨hx, hlast⟩
      · rw [if_neg (fun q => q hx), nI_1]
        obtain ⟨B2, V2, R2, P2, a1, a2, a3, a4, a5⟩ := hk (mkv v z) _ B1 V R (upd (he_path P) ply (cd v), he_kept P, he_firstKept P, he_known P, he_goal P, he_plies P, he_count P) (p ++ [v]) D hGv e2 (by simp only [List.length_cons]; omega) (by simp; omega) hTv (hi_path hI _) (by simp only [List.length_append] at hD ⊢; omega)
        rw [a1]
        simp only [Option.bind_some]
        exact h148 B2 V2 R2 P2 a2 a3 a5 a4
      · rw [if_pos (by rw [hx]; decide)]
        obtain ⟨B2, b1, b2⟩ := cb_beaten fu (by omega) B1 (mkv v z) _ e2 (by simp only [List.length_cons]; omega) hGv g hg
        rw [← hI.2.2.1] at b1
        show ∃ B' V' R' P', ((f_Mover_isBeaten fu (he_goal P) B1).bind _) = _ ∧ _
        rw [b1]
        simp only [Option.bind_some]
        rw [hlast, Nat.sub_self] at h148 hD ⊢
        unfold hln at h148 hD ⊢
        cases hbt : btn (mkv v z) g with
        | false =>
          rw [hbt] at h148 hD
          rw [if_pos (by decide)]
          rw [if_neg (by decide)] at h148 ⊢
          exact h148 B2 V R _ b2 (fun _ _ => rfl) hTv (by simpa [pfx] using hi_path hI _)
        | true =>
          rw [hbt] at h148 hD
          rw [if_neg (by decide)]
          rw [if_pos rfl] at h148 hD ⊢
          simp only [pfx, List.map_cons, List.map_nil, List.append_nil] at h148 hD ⊢
          obtain ⟨P2, a1, a2, a3⟩ := hc_keep fu (by omega) (upd (he_path P) ply (cd v), he_kept P, he_firstKept P, he_known P, he_goal P, he_plies P, he_count P) g n2 fk hn2 hfk D (p ++ [v]) (hi_path hI _) hTv (by simp; omega) (by simp only [List.length_append] at hD; omega)
          rw [a1]
          simp only [Option.bind_some]
          refine h148 B2 V R P2 b2 (fun _ _ => rfl) (fun j u hu => ?_) a2
          rw [a3]
          exact hTv j u hu
theorem hc_walk (hN : okN) (fu : Nat) (hfu : 704 < fu) (hK : okC fu) (c : FWk) (g n2 fk ply : Nat) (hg : g < 2) (hn2 : n2 ≤ 4) (hply : ply < n2) (hfk : fk < 2 ^ 31) (hc : ply + 1 < n2 → KWk c g n2 fk (ply + 1)) : KWk (e_HelpLines_walk fu c) g n2 fk ply := by
  intro z l B V R P p D hG hC hl hp hT hI hD
  have hN' := hN z hG
  have hr : n2 - ply = n2 - (ply + 1) + 1 := by omega
  rw [hr] at hD ⊢
  rw [← lnl_pml] at hD ⊢
  have h67 : ∀ (x3 : Int32) (V : MvT) (R1 : Nat → RwT) (L : List Mv), ((x3 = 0 ∧ KWk c g n2 fk (ply + 1)) ∨ (x3 = 1 ∧ ply + 1 = n2)) → L.length ≤ 704 → (∀ v ∈ L, v ∈ pml z) → lnl g (n2 - (ply + 1)) z L = lnl g (n2 - (ply + 1)) z (pml z) → RW (R1 ply) L → (∀ i, i < ply → R1 i = R i) → ∃ B' V' R' P', j_HelpLines_walk_67 fu c B V R1 P (nI ply) x3 = some (B', V', R', P') ∧ CB B' z l ∧ (∀ i, i < ply → R' i = R i) ∧ HI P' g n2 fk (D ++ pfx p (lnl g (n2 - (ply + 1)) z (pml z))) ∧ PT P' p := by
    intro x3 V R1 L hx3 hLl hLm hLe hR hR1
    unfold j_HelpLines_walk_67
    rw [← hLe] at hD ⊢
    obtain ⟨B1, V1, R2, P1, a1, a2, a3, a4, a5⟩ := hc_70 fu hfu c g n2 fk ply hg hn2 hply hfk x3 hx3 z l hG hl p hp L hLl (fun v hv => mem_pml (hLm v hv)) L.length fu 0 B V R1 P D (by omega) (by omega) hC hR hT hI (by rw [List.drop_zero]; exact hD)
    rw [List.drop_zero] at a4
    exact ⟨B1, V1, R2, P1, a1, a2, fun i hi => (a3 i hi).trans (hR1 i hi), a4, a5⟩
  have h59 : ∀ (x3 : Int32), ((x3 = 0 ∧ KWk c g n2 fk (ply + 1)) ∨ (x3 = 1 ∧ ply + 1 = n2)) → ∃ B' V' R' P', j_HelpLines_walk_59 fu c B V R P (nI ply) x3 = some (B', V', R', P') ∧ CB B' z l ∧ (∀ i, i < ply → R' i = R i) ∧ HI P' g n2 fk (D ++ pfx p (lnl g (n2 - (ply + 1)) z (pml z))) ∧ PT P' p := by
    intro x3 hx3
    unfold j_HelpLines_walk_59
    rw [nI_clamp (show ply < _ by omega)]
    obtain ⟨w1, a1, a2⟩ := cb_fill fu (by omega) B z l hC hG.1 hN' (R ply)
    rw [a1]
    simp only [Option.bind_some]
    exact h67 x3 V _ (pml z) hx3 hN' (fun v hv => hv) rfl (by rw [va_s]; exact a2) (fun i hi => va_o _ _ (by omega))
  unfold e_HelpLines_walk
  rw [hI.2.2.2.1, if_neg (nI_ge hply (by omega)), if_pos (show nI ply < 4 from nI_lt (b := 4) (by omega) (by decide)), if_pos (pu_in (show ply < 6 by omega) (by decide)), show nI n2 - (1 : Int32) = nI (n2 - 1) from nI_sub (b := 1) (by omega)]
  by_cases hlast : ply + 1 = n2
  · rw [if_neg (fun q => q (by rw [show n2 - 1 = ply by omega]))]
    unfold j_HelpLines_walk_36
    rw [if_neg (by decide), hI.2.2.1]
    rcases (show g = 0 ∨ g = 1 by omega) with rfl | rfl
    · rw [if_neg (fun q => q rfl), nI_clamp (show ply < _ by omega)]
      obtain ⟨w1, V1, q, a1, a2, a3⟩ := hK z l B (R ply) V hG hC
      rw [a1]
      simp only [Option.bind_some]
      refine h67 1 V1 _ ((pml z).filter q) (Or.inr ⟨rfl, hlast⟩) (by have := List.length_filter_le q (pml z); omega) (fun v hv => (List.mem_filter.mp hv).1) (lnl_flt _ _ _ _ _ (fun v hv hlv hqv => ?_)) (by rw [va_s]; exact a2) (fun i hi => va_o _ _ (by omega))
      rw [hlast, Nat.sub_self]
      unfold hln
      rw [if_neg (fun hb => ?_)]
      unfold btn at hb
      rw [Bool.and_eq_true, decide_eq_true_eq] at hb
      have := a3 v (List.mem_filter.mpr ⟨hv, hlv⟩) (by rw [hb.1]; rfl)
      rw [hqv] at this
      cases this
    · rw [if_pos (by decide)]
      exact h59 1 (Or.inr ⟨rfl, hlast⟩)
  · rw [if_pos (fun q => hlast (by have := (nI_eq (show ply < 2 ^ 31 by omega) (show n2 - 1 < 2 ^ 31 by omega)).mp q; omega))]
    unfold j_HelpLines_walk_36
    rw [if_pos rfl]
    exact h59 0 (Or.inl ⟨rfl, hc (by omega)⟩)
theorem hc_all (hN : okN) (fu : Nat) (hfu : 704 < fu) (hK : okC fu) (g n2 fk : Nat) (hg : g < 2) (hn2 : n2 ≤ 4) (hfk : fk < 2 ^ 31) : ∀ r d ply, ply + r = n2 → 0 < r → r ≤ d → KWk (g_HelpLines fu d) g n2 fk ply := by
  intro r
  induction r with
  | zero => intro d ply _ h; omega
  | succ r ih =>
    intro d ply hp _ hd
    obtain ⟨d, rfl⟩ : ∃ e, d = e + 1 := ⟨d - 1, by omega⟩
    exact hc_walk hN fu hfu hK _ g n2 fk ply hg hn2 (by omega) hfk (fun h => ih d (ply + 1) (by omega) (by omega) (by omega))
