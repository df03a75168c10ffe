/-! WHAT A PAWN BECOMES DOES NOT BEAR ON ITS OWN KING; A MOVE BROUGHT FIRST -/
/-- two boards that differ in men of the other side alone -/
def alk (d : Nat) (m m' : Nat → Int32) : Prop := ∀ i, m i = m' i ∨ (¬ m i = 0 ∧ ¬ m' i = 0 ∧ ¬ m i >>> ((3 : Int32) &&& 31) = nI d ∧ ¬ m' i >>> ((3 : Int32) &&& 31) = nI d)
theorem alk_hit {d : Nat} {m m' : Nat → Int32} (h : alk d m m') (w : Nat) : ∀ (l : List Nat) (i : Nat), at_hit d w (hit m l i) = at_hit d w (hit m' l i)
  | [], _ => rfl
  | t :: l, i => by
    show at_hit d w (if m t = 0 then hit m l (i + 1) else some (i, m t)) = at_hit d w (if m' t = 0 then hit m' l (i + 1) else some (i, m' t))
    rcases h t with e | ⟨e1, e2, e3, e4⟩
    · rw [e]
      by_cases hz : m' t = 0
      · rw [if_pos hz, if_pos hz]; exact alk_hit h w l (i + 1)
      · rw [if_neg hz, if_neg hz]
    · rw [if_neg e1, if_neg e2]
      unfold at_hit
      dsimp only
      rw [decide_eq_false (fun q => e3 q.1), decide_eq_false (fun q => e4 q.1)]
theorem k8_fin : ∀ d : Fin 2, ((2 : Int32) + 8 * nI d) >>> ((3 : Int32) &&& 31) = nI d := by decide +kernel
theorem alk_att {d s : Nat} (hd : d < 2) {m m' : Nat → Int32} (h : alk d m m') : att m d s = att m' d s := by
  unfold att
  have h1 : ∀ w, at_kn m d w s = at_kn m' d w s := by
    intro w
    unfold at_kn
    rcases h (nx w s).toNatClampNeg with e | ⟨-, -, e3, e4⟩
    · rw [e]
    · have k8 := k8_fin ⟨d, hd⟩
      simp only at k8
      rw [decide_eq_false (fun q => e3 (by rw [q.2]; exact k8)), decide_eq_false (fun q => e4 (by rw [q.2]; exact k8))]
  have h2 : ∀ w, at_ln m d w s = at_ln m' d w s := fun w => alk_hit h w _ _
  simp only [h1, h2]
theorem prk : ∀ pr : Fin 6, ∀ c : Fin 2, ¬ pr.val = 0 → ¬ nI pr + 8 * nI c = 0 ∧ (nI pr + 8 * nI c) >>> ((3 : Int32) &&& 31) = nI c := by decide +kernel
theorem lg_pr {z : Pz} (hG : Gz z) {s t pr : Nat} (hv : vm z s t pr) (hv0 : vm z s t 0) : lg z s t pr = lg z s t 0 := by
  unfold lg chk
  have hc2 := hG.1.1.2.1
  obtain ⟨k, hk⟩ := hG.1.2.2.1 (zc z) hc2
  rw [ksq_eq (kng_mk hG.1.1 hv hc2 hk), ksq_eq (kng_mk hG.1.1 hv0 hc2 hk)]
  congr 1
  refine alk_att (by omega) (fun i => ?_)
  rw [mm_at hG.1.1 hv, mm_at hG.1.1 hv0]
  by_cases e : i = t
  · rw [if_pos e, if_pos e, if_pos rfl]
    by_cases h0 : pr = 0
    · rw [if_pos h0]; exact Or.inl rfl
    · rw [if_neg h0]
      right
      have ho := of_decide_eq_true hv.2.1
      obtain ⟨p1, p2⟩ := prk ⟨pr, by have := hv.1; omega⟩ ⟨zc z, hc2⟩ h0
      simp only at p1 p2
      have hne : ¬ nI (zc z) = nI (1 - zc z) := fun q => by
        have := (nI_eq (by omega) (by omega)).mp q
        omega
      exact ⟨p1, ho.1, by rw [p2]; exact hne, by rw [ho.2]; exact hne⟩
  · rw [if_neg e, if_neg e]
    exact Or.inl rfl
theorem hmv_lgl {z : Pz} (hG : Gz z) : hmv z = !(lgl z).isEmpty := by
  rw [Bool.eq_iff_iff]
  constructor
  · intro h
    obtain ⟨s, h1, h2⟩ := List.any_eq_true.mp h
    obtain ⟨t, h3, h4⟩ := List.any_eq_true.mp h2
    obtain ⟨s1, s2⟩ := mem_ows h1
    obtain ⟨t1, t2⟩ := mem_tgs h3
    have hv0 := vm_tg hG s1 t1 s2 t2 (pr := 0) (by omega) (fun q => absurd rfl q)
    have : ∃ v, v ∈ lgl z := by
      by_cases q : zm z s &&& 7 = 1 ∧ (t < 8 ∨ 55 < t)
      · have hv := vm_tg hG s1 t1 s2 t2 (pr := 2) (by omega) (fun _ => q.1)
        exact ⟨(s, t, 2), List.mem_filter.mpr ⟨pml_mem ⟨s1, t1, s2, t2, by show 2 ≤ 5; omega, fun _ => ⟨by show 2 ≤ 2; omega, q⟩, fun _ _ => by show 2 ≤ 2; omega⟩, by show lg z s t 2 = true; rw [lg_pr hG hv hv0]; exact h4⟩⟩
      · exact ⟨(s, t, 0), List.mem_filter.mpr ⟨pml_mem ⟨s1, t1, s2, t2, by show 0 ≤ 5; omega, fun w => absurd rfl w, fun a b => absurd ⟨a, b⟩ q⟩, h4⟩⟩
    obtain ⟨v, hv⟩ := this
    cases hL : lgl z with
    | nil => rw [hL] at hv; cases hv
    | cons a L => rfl
  · intro h
    cases hL : lgl z with
    | nil => rw [hL] at h; cases h
    | cons v L =>
      have hv : v ∈ lgl z := by rw [hL]; exact List.mem_cons_self
      obtain ⟨h1, h2, h3, -⟩ := lgl_ok hG hv
      obtain ⟨p1, p2, p3, p4, p5, p6, p7⟩ := h1
      refine List.any_eq_true.mpr ⟨v.1, List.mem_filter.mpr ⟨List.mem_range.mpr p1, p3⟩, List.any_eq_true.mpr ⟨v.2.1, List.mem_filter.mpr ⟨List.mem_range.mpr p2, p4⟩, ?_⟩⟩
      rw [← lg_pr hG h3 (vm_tg hG p1 p2 p3 p4 (by omega) (fun q => absurd rfl q))]
      exact h2
/-! a move brought first -/
theorem cn_lt {z : Pz} {v : Mv} (h : pmv z v) : cn v < 32768 := by
  obtain ⟨h1, h2, -, -, h5, -, -⟩ := h
  unfold cn
  omega
theorem cd_ne {z : Pz} {v : Mv} (h : pmv z v) : ¬ cd v < 0 := nI_pos (by have := cn_lt h; omega)
theorem bf_2 (fu : Nat) (w : RwT) (L : List Mv) (h : RW w L) (hl : L.length ≤ 704) (x1 : Int32) : ∀ (r m i : Nat), i + r = L.length → r < m → (∃ j, i ≤ j ∧ j < L.length ∧ rw_told w j = x1 ∧ l_MoveRow_bringFirst_2 fu w x1 m (nI i) = some (.inl (nI j))) ∨ l_MoveRow_bringFirst_2 fu w x1 m (nI i) = some (.inr w) := by
  intro r
  induction r with
  | zero =>
    intro m i hi hm
    obtain ⟨m, rfl⟩ : ∃ x, m = x + 1 := ⟨m - 1, by omega⟩
    right
    show b_MoveRow_bringFirst_2 fu w x1 _ (nI i) = _
    unfold b_MoveRow_bringFirst_2
    rw [h.1, if_pos (nI_le (by omega) (by omega))]
  | succ r ih =>
    intro m i hi hm
    obtain ⟨m, rfl⟩ : ∃ x, m = x + 1 := ⟨m - 1, by omega⟩
    show (∃ j, i ≤ j ∧ j < L.length ∧ rw_told w j = x1 ∧ b_MoveRow_bringFirst_2 fu w x1 (l_MoveRow_bringFirst_2 fu w x1 m) (nI i) = some (.inl (nI j))) ∨ b_MoveRow_bringFirst_2 fu w x1 (l_MoveRow_bringFirst_2 fu w x1 m) (nI i) = some (.inr w)
    unfold b_MoveRow_bringFirst_2
    rw [h.1, if_neg (nI_ge (by omega) (by omega)), if_pos (pu_in (show i < 704 by omega) (by decide)), nI_clamp (by omega)]
    by_cases he : rw_told w i = x1
    · left
      refine ⟨i, Nat.le_refl _, by omega, he, ?_⟩
      rw [if_neg (fun q => q he)]
    · rw [if_pos he, nI_1]
      rcases ih m (i + 1) (by omega) (by omega) with ⟨j, j1, j2, j3, j4⟩ | q
      · left; exact ⟨j, by omega, j2, j3, j4⟩
      · right; exact q
theorem rw_bring (fu : Nat) (hfu : 704 < fu) (w : RwT) (L : List Mv) (h : RW w L) (hl : L.length ≤ 704) (x1 : Int32) (hp : ∀ v ∈ L, ¬ cd v < 0) : ∃ w' L', f_MoveRow_bringFirst fu x1 w = some w' ∧ RW w' L' ∧ L'.length = L.length ∧ (∀ v, v ∈ L' ↔ v ∈ L) ∧ (x1 < 0 → L' = L) := by
  unfold f_MoveRow_bringFirst
  by_cases h0 : L.length = 0
  · have hnil : L = [] := List.eq_nil_of_length_eq_zero h0
    obtain ⟨f, rfl⟩ : ∃ f, fu = f + 1 := ⟨fu - 1, by omega⟩
    have : l_MoveRow_bringFirst_2 (f + 1) w x1 (f + 1) (1 : Int32) = some (.inr w) := by
      show b_MoveRow_bringFirst_2 (f + 1) w x1 _ (1 : Int32) = _
      unfold b_MoveRow_bringFirst_2
      rw [h.1, h0, if_pos (by decide)]
    rw [this]
    exact ⟨w, L, rfl, h, rfl, fun v => Iff.rfl, fun _ => rfl⟩
  · rcases bf_2 fu w L h hl x1 (L.length - 1) fu 1 (by omega) (by omega) with ⟨j, j1, j2, j3, j4⟩ | q
    · rw [show l_MoveRow_bringFirst_2 fu w x1 fu (1 : Int32) = _ from j4]
      simp only [Option.bind_some]
      unfold j_MoveRow_bringFirst_20
      rw [if_pos (by decide), if_pos (pu_in (show j < 704 by omega) (by decide)), if_pos (by decide), nI_clamp (by omega), show ((0 : Int32)).toNatClampNeg = 0 from by decide]
      obtain ⟨a, a1, a2, -⟩ := drq (P := L) (i := 0) (by omega)
      obtain ⟨b, b1, b2, -⟩ := drq (P := L) (i := j) j2
      have hb : x1 = cd b := by rw [← j3]; exact h.2 j b b1
      refine ⟨_, (L.set j a).set 0 b, rfl, ⟨?_, fun i v hv => ?_⟩, by simp, fun v => ?_, fun hx => absurd hx (by rw [hb]; exact hp b b2)⟩
      · show rw_count w = _
        rw [h.1]; simp
      · show upd (upd (rw_told w) j (rw_told w 0)) 0 x1 i = cd v
        rw [List.getElem?_set] at hv
        by_cases e0 : 0 = i
        · rw [if_pos e0] at hv
          simp only [List.length_set] at hv
          rw [if_pos (by omega)] at hv
          cases hv
          rw [← e0, upd_s, hb]
        · rw [if_neg e0, List.getElem?_set] at hv
          rw [upd_o _ _ (fun q => e0 q.symm)]
          by_cases ej : j = i
          · rw [if_pos ej, if_pos j2] at hv
            cases hv
            rw [← ej, upd_s, h.2 0 a a1]
          · rw [if_neg ej] at hv
            rw [upd_o _ _ (fun q => ej q.symm)]
            exact h.2 i v hv
      · rw [List.mem_iff_getElem?, List.mem_iff_getElem?]
        constructor
        · rintro ⟨i, hi⟩
          rw [List.getElem?_set] at hi
          by_cases e0 : 0 = i
          · rw [if_pos e0] at hi
            simp only [List.length_set] at hi
            rw [if_pos (by omega)] at hi
            exact ⟨j, by rw [b1]; exact hi⟩
          · rw [if_neg e0, List.getElem?_set] at hi
            by_cases ej : j = i
            · rw [if_pos ej, if_pos j2] at hi
              exact ⟨0, by rw [a1]; exact hi⟩
            · rw [if_neg ej] at hi
              exact ⟨i, hi⟩
        · rintro ⟨i, hi⟩
          by_cases e0 : i = 0
          · refine ⟨j, ?_⟩
            rw [List.getElem?_set, if_neg (by omega), List.getElem?_set, if_pos rfl, if_pos j2, ← a1, ← e0]
            exact hi
          · by_cases ej : i = j
            · refine ⟨0, ?_⟩
              rw [List.getElem?_set, if_pos rfl]
              simp only [List.length_set]
              rw [if_pos (by omega), ← b1, ← ej]
              exact hi
            · refine ⟨i, ?_⟩
              rw [List.getElem?_set, if_neg (by omega), List.getElem?_set, if_neg (by omega)]
              exact hi
    · rw [show l_MoveRow_bringFirst_2 fu w x1 fu (1 : Int32) = _ from q]
      exact ⟨w, L, rfl, h, rfl, fun v => Iff.rfl, fun _ => rfl⟩
