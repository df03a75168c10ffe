/-! MOVES IN ORDER -/
abbrev Mv : Type := Nat × Nat × Nat
def cn (v : Mv) : Nat := v.1 + 64 * v.2.1 + 4096 * v.2.2
def cd (v : Mv) : Int32 := nI (cn v)
def prs (z : Pz) (s t : Nat) : List Nat := if zm z s &&& 7 = 1 ∧ (t < 8 ∨ 55 < t) then [2, 3, 4, 5] else [0]
def mvt (z : Pz) (s t : Nat) : List Mv := (prs z s t).map (fun pr => (s, t, pr))
def ows (z : Pz) : List Nat := (List.range 64).filter (fun s => own (zm z) (zc z) s)
def tgs (z : Pz) (s : Nat) : List Nat := (List.range 64).filter (fun t => tz z s t)
def mvs (z : Pz) (s : Nat) : List Mv := (tgs z s).flatMap (mvt z s)
/-- all moves, those too that leave the king in check -/
def pml (z : Pz) : List Mv := (ows z).flatMap (mvs z)
def lgv (z : Pz) (v : Mv) : Bool := lg z v.1 v.2.1 v.2.2
/-- the legal moves -/
def lgl (z : Pz) : List Mv := (pml z).filter (lgv z)
def pmv (z : Pz) (v : Mv) : Prop := v.1 < 64 ∧ v.2.1 < 64 ∧ own (zm z) (zc z) v.1 = true ∧ tz z v.1 v.2.1 = true ∧ v.2.2 ≤ 5 ∧ (¬ v.2.2 = 0 → 2 ≤ v.2.2 ∧ zm z v.1 &&& 7 = 1 ∧ (v.2.1 < 8 ∨ 55 < v.2.1)) ∧ (zm z v.1 &&& 7 = 1 → (v.2.1 < 8 ∨ 55 < v.2.1) → 2 ≤ v.2.2)
theorem mem_ows {z : Pz} {s : Nat} (h : s ∈ ows z) : s < 64 ∧ own (zm z) (zc z) s = true := by
  obtain ⟨h1, h2⟩ := List.mem_filter.mp h
  exact ⟨List.mem_range.mp h1, h2⟩
theorem mem_tgs {z : Pz} {s t : Nat} (h : t ∈ tgs z s) : t < 64 ∧ tz z s t = true := by
  obtain ⟨h1, h2⟩ := List.mem_filter.mp h
  exact ⟨List.mem_range.mp h1, h2⟩
theorem mem_mvt {z : Pz} {s t : Nat} {v : Mv} (h : v ∈ mvt z s t) : v.1 = s ∧ v.2.1 = t ∧ v.2.2 ≤ 5 ∧ (¬ v.2.2 = 0 → 2 ≤ v.2.2 ∧ zm z s &&& 7 = 1 ∧ (t < 8 ∨ 55 < t)) ∧ (zm z s &&& 7 = 1 → (t < 8 ∨ 55 < t) → 2 ≤ v.2.2) := by
  obtain ⟨pr, h1, h2⟩ := List.mem_map.mp h
  subst h2
  unfold prs at h1
  by_cases q : zm z s &&& 7 = 1 ∧ (t < 8 ∨ 55 < t)
  · rw [if_pos q] at h1
    have : 2 ≤ pr ∧ pr ≤ 5 := by
      simp only [List.mem_cons, List.not_mem_nil, or_false] at h1
      omega
    exact ⟨rfl, rfl, this.2, fun _ => ⟨this.1, q⟩, fun _ _ => this.1⟩
  · rw [if_neg q] at h1
    have : pr = 0 := List.mem_singleton.mp h1
    subst this
    exact ⟨rfl, rfl, by show 0 ≤ 5; omega, fun w => absurd rfl w, fun a b => absurd ⟨a, b⟩ q⟩
theorem mem_mvs {z : Pz} {s : Nat} {v : Mv} (hs : s < 64) (ho : own (zm z) (zc z) s = true) (h : v ∈ mvs z s) : pmv z v ∧ v.1 = s := by
  obtain ⟨t, h1, h2⟩ := List.mem_flatMap.mp h
  obtain ⟨t1, t2⟩ := mem_tgs h1
  obtain ⟨e1, e2, e3, e4, e5⟩ := mem_mvt h2
  obtain ⟨a, b, c⟩ := v
  simp only at e1 e2
  subst e1; subst e2
  exact ⟨⟨hs, t1, ho, t2, e3, e4, e5⟩, rfl⟩
theorem mem_pml {z : Pz} {v : Mv} (h : v ∈ pml z) : pmv z v := by
  obtain ⟨s, h1, h2⟩ := List.mem_flatMap.mp h
  obtain ⟨s1, s2⟩ := mem_ows h1
  exact (mem_mvs s1 s2 h2).1
theorem pml_mem {z : Pz} {v : Mv} (h : pmv z v) : v ∈ pml z := by
  obtain ⟨h1, h2, h3, h4, h5, h6, h7⟩ := h
  refine List.mem_flatMap.mpr ⟨v.1, List.mem_filter.mpr ⟨List.mem_range.mpr h1, h3⟩, List.mem_flatMap.mpr ⟨v.2.1, List.mem_filter.mpr ⟨List.mem_range.mpr h2, h4⟩, List.mem_map.mpr ⟨v.2.2, ?_, rfl⟩⟩⟩
  unfold prs
  by_cases q : zm z v.1 &&& 7 = 1 ∧ (v.2.1 < 8 ∨ 55 < v.2.1)
  · rw [if_pos q]
    have := h7 q.1 q.2
    simp only [List.mem_cons, List.not_mem_nil, or_false]
    omega
  · rw [if_neg q]
    have : v.2.2 = 0 := by
      apply Classical.byContradiction
      intro w; exact q (h6 w).2
    rw [this]; simp
theorem pmv_vm {z : Pz} (hG : Gz z) {v : Mv} (h : pmv z v) : vm z v.1 v.2.1 v.2.2 := by
  obtain ⟨h1, h2, h3, h4, h5, h6, h7⟩ := h
  exact vm_tg hG h1 h2 h3 h4 h5 (fun q => (h6 q).2.1)
/-- a move by its three numbers -/
def mkv (v : Mv) (z : Pz) : Pz := mk3 v.1 v.2.1 v.2.2 z
theorem pmv_gz {z : Pz} (hG : Gz z) {v : Mv} (h : pmv z v) (hl : lgv z v = true) : Gz (mkv v z) := by
  obtain ⟨h1, h2, h3, h4, h5, h6, h7⟩ := h
  exact gz_mk hG h1 h2 h3 h4 h5 h6 h7 hl
theorem lgl_gz {z : Pz} (hG : Gz z) {v : Mv} (h : v ∈ lgl z) : Gz (mkv v z) := by
  obtain ⟨h1, h2⟩ := List.mem_filter.mp h
  exact pmv_gz hG (mem_pml h1) h2
/-! sets in order -/
theorem flt_low (p : Nat → Bool) {n k : Nat} (hk : k < n) (h1 : p k = true) (h2 : ∀ i, i < k → p i = false) : (List.range n).filter p = k :: (List.range n).filter (fun i => p i && !decide (i = k)) := by
  have e : List.range n = List.range' 0 k ++ k :: List.range' (k + 1) (n - k - 1) := by
    rw [List.range_eq_range', ← List.range'_succ, show n - k - 1 + 1 = n - k by omega]
    have := List.range'_append_1 (s := 0) (m := k) (n := n - k)
    rw [Nat.zero_add, show k + (n - k) = n by omega] at this
    exact this.symm
  have a : (List.range' 0 k).filter p = [] := List.filter_eq_nil_iff.mpr (fun i hi => by
    have := (List.mem_range'_1.mp hi).2
    rw [h2 i (by omega)]; decide)
  have b : (List.range' 0 k).filter (fun i => p i && !decide (i = k)) = [] := List.filter_eq_nil_iff.mpr (fun i hi => by
    have := (List.mem_range'_1.mp hi).2
    rw [h2 i (by omega)]; simp)
  have c : (List.range' (k + 1) (n - k - 1)).filter p = (List.range' (k + 1) (n - k - 1)).filter (fun i => p i && !decide (i = k)) := List.filter_congr (fun i hi => by
    have := (List.mem_range'_1.mp hi).1
    rw [decide_eq_false (show ¬ i = k by omega)]; simp)
  rw [e, List.filter_append, List.filter_append, List.filter_cons, List.filter_cons, h1, a, b, c]
  simp
def bl (x : Int64) : List Nat := (List.range 64).filter (fun i => bt x i)
theorem bl_eq {x : Int64} {p : Nat → Bool} (h : ∀ i, i < 64 → bt x i = p i) : bl x = (List.range 64).filter p :=
  List.filter_congr (fun i hi => h i (List.mem_range.mp hi))
theorem bl_len (x : Int64) : (bl x).length ≤ 64 := by
  have := List.length_filter_le (fun i => bt x i) (List.range 64)
  rw [List.length_range] at this
  exact this
theorem bl_nil {x : Int64} (h : lg_cmp x 0 = 0) : bl x = [] := by
  have hz := (bt_z x).mp ((lg0 x).mp h)
  exact List.filter_eq_nil_iff.mpr (fun i hi => by rw [hz i (List.mem_range.mp hi)]; decide)
theorem bl_cons {x : Int64} {k : Nat} (h : low x k) {y : Int64} (hy : ∀ i, i < 64 → bt y i = (bt x i && !decide (i = k))) : bl x = k :: bl y := by
  unfold bl
  rw [flt_low (fun i => bt x i) h.1 h.2.1 h.2.2]
  congr 1
  exact List.filter_congr (fun i hi => (hy i (List.mem_range.mp hi)).symm)
theorem bl_split {x : Int64} (h : ¬ lg_cmp x 0 = 0) : ∃ k, low x k := low_ex (fun q => h ((lg0 x).mpr q))
theorem bt_rm2 {x : Int64} {k : Nat} (h : low x k) (i : Nat) (hi : i < 64) : bt (x ^^^ (x &&& (-x))) i = (bt x i && !decide (i = k)) := by
  rw [bt_xor, bt_low h, bt_sh h.1]
  by_cases q : i = k
  · subst q; rw [h.2.1]; simp
  · simp [q]
theorem bt_rm3 {x : Int64} {k : Nat} (hk : k < 64) (i : Nat) (hi : i < 64) : bt (x &&& (am_shl 1 (nI k) ^^^ (-1))) i = (bt x i && !decide (i = k)) := by
  rw [bt_and, bt_not, bt_sh hk, decide_eq_true hi, Bool.true_and]
theorem bt_rm1 {x : Int64} {k : Nat} (h : low x k) (i : Nat) (hi : i < 64) : bt (x &&& (x - 1)) i = (bt x i && !decide (i = k)) := by
  obtain ⟨h1, h2, h3⟩ := h
  rw [bt_and]
  unfold bt at *
  have e : (x - 1).toBitVec = ~~~ (-x.toBitVec) := by
    rw [Int64.toBitVec_sub, BitVec.not_neg, show (1 : Int64).toBitVec = 1#64 from by decide]
  rw [e, BitVec.getLsbD_not, BitVec.getLsbD_neg]
  by_cases hik : i = k
  · subst hik
    have : ¬ ∃ j, j < i ∧ x.toBitVec.getLsbD j = true := fun ⟨j, hj, hb⟩ => by rw [h3 j hj] at hb; cases hb
    simp [h2, hi, this]
  · by_cases hlt : i < k
    · rw [h3 i hlt]; rfl
    · have : ∃ j, j < i ∧ x.toBitVec.getLsbD j = true := ⟨k, by omega, h2⟩
      cases hb : x.toBitVec.getLsbD i <;> simp [hi, this, hik]
/-! rows -/
def RW (w : RwT) (L : List Mv) : Prop := rw_count w = nI L.length ∧ ∀ i v, L[i]? = some v → rw_told w i = cd v
theorem rw_add {w : RwT} {L : List Mv} (h : RW w L) (v : Mv) (hl : L.length < 704) : ∃ w', f_MoveRow_add (cd v) w = some w' ∧ RW w' (L ++ [v]) := by
  obtain ⟨h1, h2⟩ := h
  unfold f_MoveRow_add
  rw [h1, if_neg (show ¬ (704 : Int32) ≤ nI L.length from nI_ge (b := 704) hl (by decide)), if_pos (pu_in hl (by decide)), nI_clamp (by omega), nI_1]
  refine ⟨_, rfl, ?_, fun i u hu => ?_⟩
  · show nI _ = nI _
    simp
  · show upd (rw_told w) L.length (cd v) i = cd u
    rw [List.getElem?_append] at hu
    by_cases hi : i < L.length
    · rw [if_pos hi] at hu
      rw [upd_o _ _ (by omega)]
      exact h2 i u hu
    · rw [if_neg hi] at hu
      have : i - L.length = 0 := by
        apply Classical.byContradiction
        intro q
        obtain ⟨k, hk⟩ : ∃ k, i - L.length = k + 1 := ⟨i - L.length - 1, by omega⟩
        rw [hk] at hu
        cases hu
      rw [this] at hu
      rw [show i = L.length by omega, upd_s]
      cases hu
      rfl
theorem mul64 : ∀ k : Fin 64, (64 : Int32) * nI k = nI (64 * k.val) := by decide +kernel
theorem mul4096 : ∀ k : Fin 8, (4096 : Int32) * nI k = nI (4096 * k.val) := by decide +kernel
theorem end_fin : ∀ k : Fin 64, (lg_cmp (am_shl 1 (nI k) &&& (-72057594037927681 : Int64)) 0 = 0 ↔ ¬ (k.val < 8 ∨ 55 < k.val)) := by decide +kernel
theorem rw_77 (fu : Nat) (x1 x4 : Int32) (l5 : Int64) (x7 : Int32) (s t : Nat) : ∀ (j n : Nat) (w : RwT) (L : List Mv), j ≤ 4 → j < n → RW w L → L.length + j ≤ 704 → ∃ w', l_MoveRow_addAll_77 fu x1 x4 l5 x7 (nI (s + 64 * t)) n (nI (6 - j)) w = some w' ∧ RW w' (L ++ (List.range' (6 - j) j).map (fun pr => (s, t, pr))) := by
  intro j
  induction j with
  | zero =>
    intro n w L _ hn h _
    obtain ⟨n, rfl⟩ : ∃ m, n = m + 1 := ⟨n - 1, by omega⟩
    refine ⟨w, ?_, by simpa using h⟩
    show b_MoveRow_addAll_77 fu x1 x4 l5 x7 _ _ (nI 6) w = _
    unfold b_MoveRow_addAll_77
    rw [if_pos (by decide)]
  | succ j ih =>
    intro n w L hj hn h hl
    obtain ⟨n, rfl⟩ : ∃ m, n = m + 1 := ⟨n - 1, by omega⟩
    show ∃ w', b_MoveRow_addAll_77 fu x1 x4 l5 x7 (nI (s + 64 * t)) (l_MoveRow_addAll_77 fu x1 x4 l5 x7 (nI (s + 64 * t)) n) (nI (6 - (j + 1))) w = some w' ∧ _
    unfold b_MoveRow_addAll_77
    rw [if_neg (show ¬ (5 : Int32) < nI (6 - (j + 1)) from nI_nlt (b := 6 - (j + 1)) (a := 5) (by omega) (by decide))]
    have e4 := mul4096 ⟨6 - (j + 1), by omega⟩
    simp only at e4
    rw [e4, nI_add]
    obtain ⟨w1, a1, a2⟩ := rw_add h (s, t, 6 - (j + 1)) (by omega)
    rw [show nI (s + 64 * t + 4096 * (6 - (j + 1))) = cd (s, t, 6 - (j + 1)) from rfl, a1]
    simp only [Option.bind_some]
    obtain ⟨w2, b1, b2⟩ := ih n w1 (L ++ [(s, t, 6 - (j + 1))]) (by omega) (by omega) a2 (by simp; omega)
    refine ⟨w2, ?_, ?_⟩
    · rw [nI_1, show 6 - (j + 1) + 1 = 6 - j by omega]
      exact b1
    · rw [List.range'_succ, List.map_cons, show 6 - (j + 1) + 1 = 6 - j by omega]
      simpa using b2
/-- what is added for one square -/
theorem rw_addAll6 (fu : Nat) (hfu : 64 < fu) (z : Pz) (s : Nat) (x4 : Int32) (hx4 : x4 = 0 ↔ ¬ zm z s &&& 7 = 1) : ∀ (j : Nat) (n i : Nat) (x : Int64) (w : RwT) (L : List Mv), (bl x).length = j → j + i ≤ 64 → j < n → RW w L → (L ++ (bl x).flatMap (mvt z s)).length ≤ 704 → ∃ w', l_MoveRow_addAll_6 fu (nI s) x4 n x (nI i) w = some w' ∧ RW w' (L ++ (bl x).flatMap (mvt z s)) := by
  intro j
  induction j with
  | zero =>
    intro n i x w L hx hi hn h hl
    obtain ⟨n, rfl⟩ : ∃ m, n = m + 1 := ⟨n - 1, by omega⟩
    have hnil : bl x = [] := List.eq_nil_of_length_eq_zero hx
    refine ⟨w, ?_, by rw [hnil]; simpa using h⟩
    show b_MoveRow_addAll_6 fu (nI s) x4 _ x (nI i) w = _
    unfold b_MoveRow_addAll_6
    by_cases h64 : (64 : Int32) ≤ nI i
    · rw [if_pos h64]
    · rw [if_neg h64, if_pos]
      apply Classical.byContradiction
      intro q
      obtain ⟨k, hk⟩ := bl_split q
      rw [bl_cons hk (fun i hi => bt_rm2 hk i hi)] at hnil
      cases hnil
  | succ j ih =>
    intro n i x w L hx hi hn h hl
    obtain ⟨n, rfl⟩ : ∃ m, n = m + 1 := ⟨n - 1, by omega⟩
    show ∃ w', b_MoveRow_addAll_6 fu (nI s) x4 (l_MoveRow_addAll_6 fu (nI s) x4 n) x (nI i) w = some w' ∧ _
    unfold b_MoveRow_addAll_6
    rw [if_neg (show ¬ (64 : Int32) ≤ nI i from nI_ge (b := 64) (by omega) (by decide))]
    have hne : ¬ lg_cmp x 0 = 0 := fun q => by rw [bl_nil q] at hx; cases hx
    rw [if_neg hne]
    obtain ⟨k, hk⟩ := bl_split hne
    have hk64 := hk.1
    have hc := bl_cons hk (fun i hi => bt_rm2 hk i hi)
    rw [hc] at hx hl ⊢
    have e64 := mul64 ⟨k, hk64⟩
    have eend := end_fin ⟨k, hk64⟩
    simp only at e64 eend
    rw [bt_low hk, cnt_fin ⟨k, hk64⟩]
    simp only [Option.bind_some]
    rw [bt_low hk] at hl hx
    rw [e64, nI_add]
    generalize hy : x ^^^ am_shl 1 (nI k) = y at hl hx ⊢
    rw [List.length_cons] at hx
    rw [List.flatMap_cons] at hl ⊢
    have one : (zm z s &&& 7 = 1 ∧ (k < 8 ∨ 55 < k) → False) → ∃ w', j_MoveRow_addAll_65 fu (l_MoveRow_addAll_6 fu (nI s) x4 n) w (nI s) x4 y (nI i) (nI (s + 64 * k)) = some w' ∧ RW w' (L ++ (mvt z s k ++ (bl y).flatMap (mvt z s))) := by
      intro hno
      have hm : mvt z s k = [(s, k, 0)] := by unfold mvt prs; rw [if_neg hno]; rfl
      rw [hm] at hl ⊢
      obtain ⟨w1, a1, a2⟩ := rw_add h (s, k, 0) (by simp at hl; omega)
      unfold j_MoveRow_addAll_65 j_MoveRow_addAll_102
      rw [show nI (s + 64 * k) = cd (s, k, 0) from rfl, a1]
      simp only [Option.bind_some]
      obtain ⟨w2, b1, b2⟩ := ih n (i + 1) y w1 (L ++ [(s, k, 0)]) (by omega) (by omega) (by omega) a2 (by simp at hl ⊢; omega)
      refine ⟨w2, ?_, by simpa using b2⟩
      rw [nI_1]; exact b1
    by_cases hp : x4 = 0
    · rw [if_pos hp]
      exact one (fun q => hx4.mp hp q.1)
    · have hpw : zm z s &&& 7 = 1 := by
        apply Classical.byContradiction
        intro q; exact hp (hx4.mpr q)
      rw [if_neg hp]
      by_cases he : k < 8 ∨ 55 < k
      · rw [if_pos (fun q => eend.mp q he)]
        have hm : mvt z s k = (List.range' (6 - 4) 4).map (fun pr => (s, k, pr)) := by
          unfold mvt prs; rw [if_pos ⟨hpw, he⟩]; rfl
        rw [hm] at hl ⊢
        obtain ⟨w1, a1, a2⟩ := rw_77 fu (nI s) x4 y (nI i) s k 4 fu w L (by omega) (by omega) h (by simp at hl; omega)
        rw [show (2 : Int32) = nI (6 - 4) from rfl, a1]
        simp only [Option.bind_some]
        unfold j_MoveRow_addAll_102
        obtain ⟨w2, b1, b2⟩ := ih n (i + 1) y w1 _ (by omega) (by omega) (by omega) a2 (by simp at hl ⊢; omega)
        refine ⟨w2, ?_, by simpa using b2⟩
        rw [nI_1]; exact b1
      · rw [if_neg (fun q => q (eend.mpr he))]
        exact one (fun q => he q.2)
theorem rw_addAll (fu : Nat) (hfu : 64 < fu) (z : Pz) (s : Nat) (x4 : Int32) (hx4 : x4 = 0 ↔ ¬ zm z s &&& 7 = 1) (x : Int64) (w : RwT) (L : List Mv) (h : RW w L) (hl : (L ++ (bl x).flatMap (mvt z s)).length ≤ 704) : ∃ w', f_MoveRow_addAll fu (nI s) x x4 w = some w' ∧ RW w' (L ++ (bl x).flatMap (mvt z s)) := by
  have := bl_len x
  exact rw_addAll6 fu hfu z s x4 hx4 _ fu 0 x w L rfl (by omega) (by omega) h hl
