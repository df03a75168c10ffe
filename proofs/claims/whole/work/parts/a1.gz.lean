/-! GOOD POSITIONS, AND THE MOVES OF THEM -/
/-- the way back -/
def ow (w : Nat) : Nat := [1, 0, 3, 2, 7, 6, 5, 4, 12, 13, 14, 15, 8, 9, 10, 11].getD w 0
def wD (w : Nat) : Nat := [108, 92, 101, 99, 109, 107, 93, 91, 117, 110, 94, 85, 83, 90, 106, 115].getD w 0
def wE (w : Nat) : Nat := [11, 9, 10, 10, 11, 11, 9, 9, 12, 11, 9, 8, 8, 9, 11, 12].getD w 0
theorem ow_fin : ∀ w : Fin 16, ∀ s : Fin 64, nx w s < 0 ∨ nx (ow w) (nx w s).toNatClampNeg = nI s := by decide +kernel
theorem ow_r : ∀ w : Fin 16, ow w < 16 ∧ (w.val < 8 → ow w < 8) ∧ (8 ≤ w.val → 8 ≤ ow w) ∧ (w.val < 4 → ow w < 4) ∧ (w.val < 8 → ¬ w.val < 4 → ¬ ow w < 4) := by decide +kernel
theorem ow_nx {w s t : Nat} (hw : w < 16) (hs : s < 64) (ht : t < 64) (h : nx w s = nI t) : nx (ow w) t = nI s := by
  rcases ow_fin ⟨w, hw⟩ ⟨s, hs⟩ with q | q
  · simp only at q; rw [h] at q; exact absurd q (nI_pos (by omega))
  · simp only at q; rw [h, nI_clamp (by omega)] at q; exact q
theorem wst_fin : ∀ w : Fin 16, ∀ s : Fin 64, nx w s < 0 ∨ ((nx w s).toNatClampNeg + 100 = s.val + wD w ∧ (nx w s).toNatClampNeg / 8 + 10 = s.val / 8 + wE w) := by decide +kernel
theorem wst {w s t : Nat} (hw : w < 16) (hs : s < 64) (ht : t < 64) (h : nx w s = nI t) : t + 100 = s + wD w ∧ t / 8 + 10 = s / 8 + wE w := by
  rcases wst_fin ⟨w, hw⟩ ⟨s, hs⟩ with q | q
  · simp only at q; rw [h] at q; exact absurd q (nI_pos (by omega))
  · simp only at q; rw [h, nI_clamp (by omega)] at q; exact q
theorem ry_1 {w s t : Nat} (h : nx w s = nI t) (ht : t < 64) (g : Nat) : ryf (g + 1) w s = t :: ryf g w t := by
  show (if nx w s < 0 then [] else (nx w s).toNatClampNeg :: ryf g w (nx w s).toNatClampNeg) = _
  rw [h, if_neg (nI_pos (by omega)), nI_clamp (by omega)]
theorem ry_0 {w s : Nat} (h : nx w s = -1) (g : Nat) : ryf g w s = [] := by
  cases g with
  | zero => rfl
  | succ g =>
    show (if nx w s < 0 then [] else _) = _
    rw [h, if_pos (by decide)]
theorem upto_c (m : Nat → Int32) (t : Nat) (l : List Nat) : upto m (t :: l) = t :: (if m t = 0 then upto m l else []) := rfl
/-- what is seen sees back -/
theorem rev_ln (m : Nat → Int32) {w : Nat} (hw : w < 16) : ∀ (f s t : Nat), s < 64 → t ∈ upto m (ryf f w s) → t < 64 ∧ ∃ L : List Nat, L.length < f ∧ (∀ u ∈ L, m u = 0) ∧ ∀ g, ryf (g + L.length + 1) (ow w) t = L ++ s :: ryf g (ow w) s
  | 0, s, t, hs, h => by cases h
  | f + 1, s, t, hs, h => by
    rcases nx_cases hw hs with q | ⟨t1, ht1, q⟩
    · rw [ry_0 q] at h; cases h
    · rw [ry_1 q ht1, upto_c] at h
      have hb : ∀ g, ryf (g + 1) (ow w) t1 = s :: ryf g (ow w) s := fun g => ry_1 (ow_nx hw hs ht1 q) hs g
      rcases List.mem_cons.mp h with rfl | h
      · exact ⟨ht1, [], by simp, by simp, fun g => hb g⟩
      · by_cases hz : m t1 = 0
        · rw [if_pos hz] at h
          obtain ⟨ht, L, l1, l2, l3⟩ := rev_ln m hw f t1 t ht1 h
          refine ⟨ht, L ++ [t1], by simp; omega, ?_, fun g => ?_⟩
          · intro u hu
            rcases List.mem_append.mp hu with hu | hu
            · exact l2 u hu
            · rw [List.mem_singleton.mp hu]; exact hz
          · have := l3 (g + 1)
            rw [hb g] at this
            rw [show g + (L ++ [t1]).length + 1 = g + 1 + L.length + 1 by simp; omega, this]
            simp
        · rw [if_neg hz] at h; cases h
theorem hit_app {m : Nat → Int32} {s : Nat} (hs : ¬ m s = 0) (r : List Nat) : ∀ (L : List Nat) (i : Nat), (∀ u ∈ L, m u = 0) → hit m (L ++ s :: r) i = some (i + L.length, m s)
  | [], i, _ => by
    show (if m s = 0 then _ else some (i, m s)) = _
    rw [if_neg hs]; rfl
  | u :: L, i, h => by
    show (if m u = 0 then hit m (L ++ s :: r) (i + 1) else _) = _
    rw [if_pos (h u List.mem_cons_self), hit_app hs r L (i + 1) (fun v hv => h v (List.mem_cons_of_mem _ hv))]
    simp only [List.length_cons]
    congr 2; omega
theorem at_hitE {k c w far : Nat} (hk : k < 16) (hc : c < 2) (hw : w < 8) : at_hit c w (some (far, nI k)) = ((decide (far = 0) && decide (nI k = 1 + 8 * nI c) && pwb c w) || (decide (nI k = 5 + 8 * nI c) || decide (nI k = (if w < 4 then 4 else 3) + 8 * nI c) || (decide (far = 0) && decide (nI k = 6 + 8 * nI c)))) := by
  have h := tab_fin ⟨k, hk⟩ ⟨c, hc⟩ ⟨w, hw⟩ (decide (far = 0))
  simp only at h
  rw [← h]
  unfold at_hit
  by_cases hf : far = 0
  · simp only [hf, if_true, decide_true]
  · simp only [hf, if_false, decide_false]; rfl
theorem att_l {m : Nat → Int32} {c w t : Nat} (hw : w < 8) (h : at_ln m c w t = true) : att m c t = true := by
  unfold att
  rw [Bool.or_eq_true]
  exact Or.inr (List.any_eq_true.mpr ⟨w, List.mem_range'_1.mpr ⟨Nat.zero_le _, by omega⟩, h⟩)
theorem att_k {m : Nat → Int32} {c w t : Nat} (hw : w < 16) (hw8 : 8 ≤ w) (h : at_kn m c w t = true) : att m c t = true := by
  unfold att
  rw [Bool.or_eq_true]
  exact Or.inl (List.any_eq_true.mpr ⟨w, List.mem_range'_1.mpr ⟨hw8, by omega⟩, h⟩)
theorem kd2_fin : ∀ k : Fin 16, ∀ c : Fin 2, ∀ j : Fin 8, nI k &&& 7 = nI j → nI k >>> ((3 : Int32) &&& 31) = nI c → nI k = nI j + 8 * nI c := by decide +kernel
theorem own_kind {m : Nat → Int32} (hm : okm m) {c s j : Nat} (hc : c < 2) (hs : s < 64) (hj : j < 8) (ho : own m c s = true) (h1 : m s &&& 7 = nI j) : m s = nI j + 8 * nI c := by
  have ho := of_decide_eq_true ho
  obtain ⟨z, hz, e⟩ := pu_inf (hm s hs) (by decide)
  rw [e] at h1 ho ⊢
  exact kd2_fin ⟨z, hz⟩ ⟨c, hc⟩ ⟨j, hj⟩ h1 ho.2
/-- a line that is seen is a line of attack -/
theorem ln_att {m : Nat → Int32} (hm : okm m) {c s t w f : Nat} (hc : c < 2) (hs : s < 64) (hw : w < 8) (hf : f ≤ 7) (hz : ¬ m s = 0) (h : t ∈ upto m (ryf f w s)) (hk : ∀ far, (f = 1 → far = 0) → at_hit c (ow w) (some (far, m s)) = true) : att m c t = true := by
  obtain ⟨ht, L, l1, l2, l3⟩ := rev_ln m (show w < 16 by omega) f s t hs h
  have hr := l3 (6 - L.length)
  rw [show 6 - L.length + L.length + 1 = 7 by omega] at hr
  refine att_l (w := ow w) ((ow_r ⟨w, by omega⟩).2.1 hw) ?_
  unfold at_ln
  rw [hr, hit_app hz _ L 0 l2]
  exact hk _ (fun h1 => by omega)
theorem gwa_att {m : Nat → Int32} (hm : okm m) {c s t : Nat} (hc : c < 2) (hs : s < 64) (ht : t < 64) (ho : own m c s = true) (h : gwa m s t = true) : att m c t = true := by
  have ho' := of_decide_eq_true ho
  obtain ⟨w, hw, h⟩ := List.any_eq_true.mp h
  have hw := (List.mem_range'_1.mp hw).2
  have hw : w < 16 := by omega
  obtain ⟨k, hk16, hk⟩ := pu_inf (hm s hs) (by decide)
  unfold gw at h
  by_cases h8 : w < 8
  · have how := (ow_r ⟨w, hw⟩).2.1 h8
    have ho4 := (ow_r ⟨w, hw⟩).2.2.2
    simp only at how ho4
    rw [if_pos h8, Bool.or_eq_true, Bool.and_eq_true, Bool.and_eq_true, decide_eq_true_eq, decide_eq_true_eq, decide_eq_true_eq, decide_eq_true_eq] at h
    rcases h with ⟨h6, h⟩ | ⟨hq, h⟩
    · refine ln_att hm hc hs h8 (by omega) ho'.1 h (fun far hf => ?_)
      rw [hk, at_hitE hk16 hc how, ← hk, own_kind hm hc hs (j := 6) (by omega) ho h6, hf rfl]
      simp [nI]
    · refine ln_att hm hc hs h8 (by omega) ho'.1 h (fun far hf => ?_)
      rw [hk, at_hitE hk16 hc how, ← hk]
      rcases hq with hq | hq
      · rw [own_kind hm hc hs (j := 5) (by omega) ho hq]
        simp [nI]
      · by_cases h4 : w < 4
        · rw [if_pos h4] at hq
          rw [if_pos (ho4.1 h4), own_kind hm hc hs (j := 4) (by omega) ho hq]
          simp [nI]
        · rw [if_neg h4] at hq
          rw [if_neg (ho4.2 h8 h4), own_kind hm hc hs (j := 3) (by omega) ho hq]
          simp [nI]
  · rw [if_neg h8, if_pos hw, Bool.and_eq_true, decide_eq_true_eq] at h
    rw [up1 m hw hs ht] at h
    have hst := of_decide_eq_true h.2
    refine att_k (w := ow w) (ow_r ⟨w, hw⟩).1 ((ow_r ⟨w, hw⟩).2.2.1 (by show 8 ≤ w; omega)) ?_
    unfold at_kn
    rw [ow_nx hw hs ht hst, nI_clamp (by omega)]
    exact decide_eq_true ⟨nI_pos (by omega), own_kind hm hc hs (j := 2) (by omega) ho h.1⟩
theorem pcp_att {m : Nat → Int32} (hm : okm m) {c s t : Nat} (hc : c < 2) (hs : s < 64) (ht : t < 64) (ho : own m c s = true) (h1 : m s &&& 7 = 1) (h : (stp (4 + 2 * c) s t || stp (5 + 2 * c) s t) = true) : att m c t = true := by
  have ho' := of_decide_eq_true ho
  obtain ⟨k, hk16, hk⟩ := pu_inf (hm s hs) (by decide)
  have go : ∀ w, w < 8 → pwb c (ow w) = true → stp w s t = true → att m c t = true := by
    intro w hw hp hst
    refine ln_att hm hc hs (f := 1) hw (by omega) ho'.1 (of_decide_eq_true (by rw [up1 m (by omega) hs ht]; exact hst)) (fun far hf => ?_)
    rw [hk, at_hitE hk16 hc ((ow_r ⟨w, by omega⟩).2.1 hw), ← hk, own_pawn hm hc hs ho h1, hf rfl, hp]
    simp
  rw [Bool.or_eq_true] at h
  rcases (show c = 0 ∨ c = 1 by omega) with rfl | rfl
  · rcases h with h | h
    · exact go 4 (by omega) (by decide) h
    · exact go 5 (by omega) (by decide) h
  · rcases h with h | h
    · exact go 6 (by omega) (by decide) h
    · exact go 7 (by omega) (by decide) h
/-- good positions but for check -/
def Gw (z : Pz) : Prop := bz z ∧ okk (zm z) ∧ okz z ∧ (∀ s, s < 64 → zm z s &&& 7 = 1 → 8 ≤ s ∧ s < 56) ∧
  (∀ d, d < 2 → ((zr z).testBit (2 * d) = true → zm z (56 * d + 4) = 6 + 8 * nI d ∧ zm z (56 * d + 7) = 4 + 8 * nI d) ∧ ((zr z).testBit (2 * d + 1) = true → zm z (56 * d + 4) = 6 + 8 * nI d ∧ zm z (56 * d) = 4 + 8 * nI d)) ∧
  (zp z = -1 ∨ ∃ q, q < 64 ∧ zp z = nI q ∧ zm z q = 0 ∧ ((zc z = 0 ∧ q / 8 = 5 ∧ zm z (q - 8) = 1 + 8 * nI 1) ∨ (zc z = 1 ∧ q / 8 = 2 ∧ zm z (q + 8) = 1 + 8 * nI 0))) ∧
  (∀ i, 64 ≤ i → zm z i = 0)
def Gz (z : Pz) : Prop := Gw z ∧ chk (zm z) (1 - zc z) = false
theorem gw_okp {z : Pz} (h : Gw z) : okp (zp z) ∧ ∀ i, i < 64 → zp z = nI i → zm z i = 0 := by
  rcases h.2.2.2.2.2.1 with e | ⟨q, hq, e, hz, -⟩
  · exact ⟨Or.inl e, fun i hi h => absurd (e.symm.trans h) (nI_neg (by omega))⟩
  · refine ⟨Or.inr ⟨q, hq, e⟩, fun i hi h => ?_⟩
    rw [← (nI_eq (by omega) (by omega)).mp (e.symm.trans h)]
    exact hz
/-- where that man may go -/
abbrev tz (z : Pz) (s t : Nat) : Bool := tg (zm z) (zc z) (zp z) (zr z) s t
theorem own_no {m : Nat → Int32} {c d s : Nat} (hc : c < 2) (hd : d < 2) (ho : own m c s = true) (h : m s = 1 + 8 * nI d ∨ m s = 6 + 8 * nI d) : d = c := by
  have ho := (of_decide_eq_true ho).2
  rcases h with h | h
  · rw [h, (mfc ⟨0, by decide⟩ ⟨d, hd⟩).2.2.2.2.2.1, nI_eq (by omega) (by omega)] at ho; exact ho
  · rw [h, (mfc ⟨0, by decide⟩ ⟨d, hd⟩).2.2.2.2.1, nI_eq (by omega) (by omega)] at ho; exact ho
theorem stp_e {w s t : Nat} (h : stp w s t = true) : nx w s = nI t := of_decide_eq_true h
/-- how pawns go -/
theorem pt_cases {m : Nat → Int32} {c : Nat} {p : Int32} {s t : Nat} (hc : c < 2) (hs : s < 64) (ht : t < 64) (h : pt m c p s t = true) : (pcp m c p s t = true ∧ ((c = 0 ∧ (t = s + 9 ∨ t = s + 7) ∧ t / 8 = s / 8 + 1) ∨ (c = 1 ∧ (s = t + 9 ∨ s = t + 7) ∧ s / 8 = t / 8 + 1))) ∨ (m t = 0 ∧ ((c = 0 ∧ t = s + 8) ∨ (c = 1 ∧ s = t + 8))) ∨ (m t = 0 ∧ s / 8 = 1 + 5 * c ∧ ((c = 0 ∧ t = s + 16 ∧ m (s + 8) = 0) ∨ (c = 1 ∧ s = t + 16 ∧ m (t + 8) = 0))) := by
  unfold pt at h
  rw [Bool.or_eq_true] at h
  rcases h with h | h
  · refine Or.inl ⟨h, ?_⟩
    unfold pcp at h
    rw [Bool.and_eq_true, Bool.or_eq_true] at h
    have go : ∀ w, w < 16 → stp w s t = true → t + 100 = s + wD w ∧ t / 8 + 10 = s / 8 + wE w := fun w hw h => wst hw hs ht (stp_e h)
    rcases (show c = 0 ∨ c = 1 by omega) with rfl | rfl
    · rcases h.1 with h | h
      · have := go 4 (by omega) h; simp [wD, wE] at this; omega
      · have := go 5 (by omega) h; simp [wD, wE] at this; omega
    · rcases h.1 with h | h
      · have := go 6 (by omega) h; simp [wD, wE] at this; omega
      · have := go 7 (by omega) h; simp [wD, wE] at this; omega
  · refine Or.inr ?_
    rcases nx_cases (w := c) (s := s) (by omega) hs with q | ⟨f, hf, q⟩
    · rw [pfw_n q] at h; cases h
    · rw [pfw_y q hf, Bool.and_eq_true, Bool.or_eq_true, decide_eq_true_eq, decide_eq_true_eq, Bool.and_eq_true, Bool.and_eq_true, decide_eq_true_eq, decide_eq_true_eq] at h
      have w1 := wst (show c < 16 by omega) hs hf q
      rcases h.2 with h2 | ⟨h2, h3, h4⟩
      · left
        rw [h2]
        refine ⟨h.1, ?_⟩
        rcases (show c = 0 ∨ c = 1 by omega) with rfl | rfl
        · simp [wD, wE] at w1; omega
        · simp [wD, wE] at w1; omega
      · right
        have w2 := wst (show c < 16 by omega) hf ht (stp_e h3)
        refine ⟨h4, h2, ?_⟩
        rcases (show c = 0 ∨ c = 1 by omega) with rfl | rfl
        · simp [wD, wE] at w1 w2; left
          exact ⟨rfl, by omega, by rw [show s + 8 = f by omega]; exact h.1⟩
        · simp [wD, wE] at w1 w2; right
          exact ⟨rfl, by omega, by rw [show t + 8 = f by omega]; exact h.1⟩
theorem k2_fin : ∀ w : Fin 8, ∀ s : Fin 64, nx w s < 0 ∨ (¬ (nx w s).toNatClampNeg = s.val + 2 ∧ ¬ s.val = (nx w s).toNatClampNeg + 2) := by decide +kernel
theorem gwa_k {m : Nat → Int32} {s t : Nat} (hs : s < 64) (ht : t < 64) (h6 : m s &&& 7 = 6) (h : gwa m s t = true) : ¬ (t = s + 2 ∨ s = t + 2) := by
  rw [gwa_6 h6] at h
  obtain ⟨w, hw, h⟩ := List.any_eq_true.mp h
  have hw := (List.mem_range'_1.mp hw).2
  rw [up1 m (show w < 16 by omega) hs ht] at h
  have := stp_e h
  rcases k2_fin ⟨w, by omega⟩ ⟨s, hs⟩ with q | q
  · simp only at q; rw [this] at q; exact absurd q (nI_pos (by omega))
  · simp only at q; rw [this, nI_clamp (by omega)] at q; omega
theorem vm_tg {z : Pz} (hG : Gz z) {s t pr : Nat} (hs : s < 64) (ht : t < 64) (ho : own (zm z) (zc z) s = true) (h : tz z s t = true) (hpr : pr ≤ 5) (hpp : ¬ pr = 0 → zm z s &&& 7 = 1) : vm z s t pr := by
  obtain ⟨⟨⟨hm, hc2, hr⟩, hkk, hkz, hpe, hri, hps, hout⟩, hck⟩ := hG
  unfold tz tg at h
  rw [Bool.and_eq_true, Bool.not_eq_true'] at h
  obtain ⟨hgl, hno⟩ := h
  have ho' := of_decide_eq_true ho
  have hatt : ¬ zm z t = 0 → att (zm z) (zc z) t = true := by
    intro hz
    unfold gl at hgl
    by_cases h1 : zm z s &&& 7 = 1
    · rw [if_pos h1] at hgl
      rcases pt_cases hc2 hs ht hgl with ⟨q, -⟩ | ⟨q, -⟩ | ⟨q, -⟩
      · unfold pcp at q
        rw [Bool.and_eq_true] at q
        exact pcp_att hm hc2 hs ht ho h1 q.1
      · exact absurd q hz
      · exact absurd q hz
    · rw [if_neg h1, Bool.or_eq_true] at hgl
      rcases hgl with q | q
      · exact gwa_att hm hc2 hs ht ho q
      · rw [Bool.and_eq_true] at q
        exact absurd (ctg_own q.2) hz
  refine ⟨⟨hs, ht, hpr, fun q => ?_⟩, ho, hno, fun h1 => ?_, hpp, fun hc => ?_, fun d hd hk => ?_⟩
  · rw [q, hno] at ho; cases ho
  · unfold gl at hgl
    rw [if_pos h1] at hgl
    have hcs := pt_cases hc2 hs ht hgl
    refine ⟨by omega, fun hp => ?_⟩
    rcases hps with e | ⟨q, hq, e, hz, hq2⟩
    · exact absurd (e.symm.trans hp) (nI_neg (by omega))
    · have hqt : q = t := (nI_eq (by omega) (by omega)).mp (e.symm.trans hp)
      subst hqt
      refine ⟨hz, ?_⟩
      rcases hq2 with ⟨c0, q5, q6⟩ | ⟨c1, q5, q6⟩
      · have hx : s / 8 = 4 := by
          rcases hcs with ⟨-, a⟩ | ⟨-, a⟩ | ⟨-, a, b⟩
          · omega
          · exfalso
            have := own_no hc2 (d := 1) (by decide) ho (Or.inl (by rw [show s = q - 8 by omega]; exact q6))
            omega
          · omega
        rw [hx, show 4 * 8 + q % 8 = q - 8 by omega, q6, c0]
        exact ⟨rfl, by omega⟩
      · have hx : s / 8 = 3 := by
          rcases hcs with ⟨-, a⟩ | ⟨-, a⟩ | ⟨-, a, b⟩
          · omega
          · exfalso
            have := own_no hc2 (d := 0) (by decide) ho (Or.inl (by rw [show s = q + 8 by omega]; exact q6))
            omega
          · omega
        rw [hx, show 3 * 8 + q % 8 = q + 8 by omega, q6, c1]
        exact ⟨rfl, by omega⟩
  · unfold gl at hgl
    rw [if_neg (by rw [hc.1]; decide), Bool.or_eq_true] at hgl
    rcases hgl with q | q
    · exact absurd hc.2 (gwa_k hs ht hc.1 q)
    · rw [Bool.and_eq_true] at q
      have hz := ctg_own q.2
      have q := q.2
      unfold ctg csh clg at q
      simp only [Bool.and_eq_true, Bool.or_eq_true, decide_eq_true_eq] at q
      obtain ⟨e, q⟩ := q
      refine ⟨e, ?_⟩
      rcases q with ⟨q1, q2, q3, -⟩ | ⟨q1, q2, q3, -⟩
      · have := ((hri _ hc2).1 q2).2
        unfold crn
        rw [if_neg (by omega), show s + 3 = 56 * zc z + 7 by omega, show (s + t) / 2 = 56 * zc z + 5 by omega]
        exact ⟨this, q3.1, hz⟩
      · have := ((hri _ hc2).2 q2).2
        unfold crn
        rw [if_pos (by omega), show s - 4 = 56 * zc z by omega, show (s + t) / 2 = 56 * zc z + 3 by omega]
        exact ⟨this, q3.2.2, hz⟩
  · have hz : ¬ zm z t = 0 := fun e => (mfc ⟨0, by decide⟩ ⟨d, hd⟩).2.1 (e.symm.trans hk)
    have ha := hatt hz
    have hdc : ¬ d = zc z := by
      intro e
      have : own (zm z) (zc z) t = true := decide_eq_true ⟨hz, by rw [hk, (mfc ⟨0, by decide⟩ ⟨d, hd⟩).2.2.2.2.1]; exact congrArg nI e⟩
      rw [this] at hno; cases hno
    have hd1 : d = 1 - zc z := by omega
    obtain ⟨k, g⟩ := hkz d hd
    have : t = k := g.2.2 t ht hk
    unfold chk at hck
    rw [← hd1, ksq_eq g, ← this, show 1 - d = zc z by omega, ha] at hck
    cases hck
