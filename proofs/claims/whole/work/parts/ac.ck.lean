/-! MOVES THAT GIVE CHECK: what is left out gives none -/
theorem hit_split {m : Nat → Int32} : ∀ (L : List Nat) (i : Nat) {far : Nat} {man : Int32}, hit m L i = some (far, man) → ∃ A u C, L = A ++ u :: C ∧ far = i + A.length ∧ (∀ a ∈ A, m a = 0) ∧ m u = man ∧ ¬ man = 0
  | [], _, _, _, h => by cases h
  | t :: L, i, far, man, h => by
    unfold hit at h
    by_cases hz : m t = 0
    · rw [if_pos hz] at h
      obtain ⟨A, u, C, h1, h2, h3, h4, h5⟩ := hit_split L (i + 1) h
      refine ⟨t :: A, u, C, by rw [h1]; rfl, by simp only [List.length_cons]; omega, fun a ha => ?_, h4, h5⟩
      rcases List.mem_cons.mp ha with rfl | ha
      · exact hz
      · exact h3 a ha
    · rw [if_neg hz] at h
      cases h
      exact ⟨[], t, L, rfl, rfl, (fun a ha => by cases ha), rfl, hz⟩
theorem upto_mem {m : Nat → Int32} (u : Nat) (C : List Nat) : ∀ (A : List Nat), (∀ a ∈ A, m a = 0) → u ∈ upto m (A ++ u :: C)
  | [], _ => by
    show u ∈ upto m (u :: C)
    rw [upto_c]; exact List.mem_cons_self
  | a :: A, h => by
    show u ∈ upto m (a :: (A ++ u :: C))
    rw [upto_c, if_pos (h a List.mem_cons_self)]
    exact List.mem_cons_of_mem _ (upto_mem u C A (fun b hb => h b (List.mem_cons_of_mem _ hb)))
/-- the first man on a line and the one behind him -/
def snd2 (m : Nat → Int32) : List Nat → Option Nat → Option (Nat × Int32)
  | [], _ => none
  | t :: l, none => if m t = 0 then snd2 m l none else snd2 m l (some t)
  | t :: l, some u => if m t = 0 then snd2 m l (some u) else some (u, m t)
theorem snd2_b {m : Nat → Int32} {s u : Nat} (hu : ¬ m u = 0) (C : List Nat) : ∀ (A : List Nat), (∀ a ∈ A, m a = 0) → snd2 m (A ++ u :: C) (some s) = some (s, m u)
  | [], _ => by
    show (if m u = 0 then _ else some (s, m u)) = _
    rw [if_neg hu]
  | a :: A, h => by
    show (if m a = 0 then snd2 m (A ++ u :: C) (some s) else _) = _
    rw [if_pos (h a List.mem_cons_self)]
    exact snd2_b hu C A (fun b hb => h b (List.mem_cons_of_mem _ hb))
theorem snd2_a {m : Nat → Int32} {s : Nat} (hs : ¬ m s = 0) (D : List Nat) : ∀ (A : List Nat), (∀ a ∈ A, m a = 0) → snd2 m (A ++ s :: D) none = snd2 m D (some s)
  | [], _ => by
    show (if m s = 0 then _ else snd2 m D (some s)) = _
    rw [if_neg hs]
  | a :: A, h => by
    show (if m a = 0 then snd2 m (A ++ s :: D) none else _) = _
    rw [if_pos (h a List.mem_cons_self)]
    exact snd2_a hs D A (fun b hb => h b (List.mem_cons_of_mem _ hb))
theorem ry_nd : ∀ w : Fin 8, ∀ s : Fin 64, (ryf 7 w s).Nodup := by decide +kernel
theorem at_far {c w a b : Nat} {man : Int32} (ha : ¬ a = 0) (hb : ¬ b = 0) : at_hit c w (some (a, man)) = at_hit c w (some (b, man)) := by
  unfold at_hit
  dsimp only
  rw [if_neg ha, if_neg hb]
theorem at_any {c w a b k : Nat} (hk : k < 16) (hc : c < 2) (hw : w < 8) (ha : ¬ a = 0) (h : at_hit c w (some (a, nI k)) = true) : at_hit c w (some (b, nI k)) = true := by
  rw [at_hitE hk hc hw] at h ⊢
  rw [decide_eq_false ha] at h
  simp only [Bool.false_and, Bool.false_or, Bool.or_false] at h
  rw [h]
  simp
/-- a man of that square stands between the king and a man who attacks along the line -/
def shd (m : Nat → Int32) (c k w i : Nat) : Bool := match snd2 m (ryf 7 w k) none with
  | some (u, man) => at_hit c w (some (1, man)) && decide (i = u)
  | none => false
/-- what the class calls aims -/
def aim (z : Pz) (k j t : Nat) : Bool :=
  if j = 1 then sees (zm z) k (if zc z = 0 then 6 else 4) 2 1 t || (decide (t < 8 ∨ 55 < t) || decide (zp z = nI t))
  else if j = 2 then sees (zm z) k 8 8 1 t
  else if j = 3 then sees (zm z) k 4 4 7 t
  else if j = 4 then sees (zm z) k 0 4 7 t
  else if j = 5 then sees (zm z) k 4 4 7 t || sees (zm z) k 0 4 7 t
  else decide (t = 2 ∨ t = 6 ∨ t = 58 ∨ t = 62)
theorem sees_i {m : Nat → Int32} {s a n most i w : Nat} (h1 : a ≤ w) (h2 : w < a + n) (h : i ∈ upto m (ryf most w s)) : sees m s a n most i = true :=
  List.any_eq_true.mpr ⟨w, List.mem_range'_1.mpr ⟨h1, h2⟩, decide_eq_true h⟩
theorem kd_man : ∀ c : Fin 2, ((5 : Int32) + 8 * nI c) &&& 7 = 5 ∧ ((4 : Int32) + 8 * nI c) &&& 7 = 4 ∧ ((3 : Int32) + 8 * nI c) &&& 7 = 3 ∧ ((2 : Int32) + 8 * nI c) &&& 7 = 2 ∧ ((1 : Int32) + 8 * nI c) &&& 7 = 1 ∧ ((6 : Int32) + 8 * nI c) &&& 7 = 6 ∧ ¬ ((6 : Int32) + 8 * nI c) = 0 ∧ am_in ((6 : Int32) + 8 * nI c) 16 = true := by decide +kernel
/-- who gives check, moves by aim or stood before a line -/
theorem chk_aim {z : Pz} (hG : Gz z) {v : Mv} (hv : v ∈ lgl z) (hc : chk (zm (mkv v z)) (zc (mkv v z)) = true) (j : Nat) (hj : zm z v.1 &&& 7 = nI j) (hj7 : j < 7) : aim z (ksq (zm z) (1 - zc z)) j v.2.1 = true ∨ ∃ w, w < 8 ∧ shd (zm z) (zc z) (ksq (zm z) (1 - zc z)) w v.1 = true := by
  obtain ⟨hpm, hlv, hvm, hG'⟩ := lgl_ok hG hv
  obtain ⟨s, t, pr⟩ := v
  obtain ⟨p1, p2, p3, p4, p5, p6, p7⟩ := hpm
  simp only at p1 p2 p3 p4 p5 p6 p7 hvm hj ⊢
  have hc2 := hG.1.1.2.1
  have hm := hG.1.1.1
  have ho := of_decide_eq_true p3
  obtain ⟨k, hk⟩ := hG.1.2.2.1 (1 - zc z) (by omega)
  rw [ksq_eq hk]
  have hck := hG.2
  unfold chk at hck
  rw [ksq_eq hk, show 1 - (1 - zc z) = zc z by omega] at hck
  apply Classical.byContradiction
  intro hno
  have hna : ¬ aim z k j t = true := fun q => hno (Or.inl q)
  have hns : ∀ w, w < 8 → ¬ shd (zm z) (zc z) k w s = true := fun w hw q => hno (Or.inr ⟨w, hw, q⟩)
  have hjk : ∀ i, i < 7 → zm z s = nI i + 8 * nI (zc z) → j = i := by
    intro i hi h
    have : nI j = nI i := by
      rw [← hj, h]
      have := kd_man ⟨zc z, hc2⟩
      simp only at this
      rcases (show i = 0 ∨ i = 1 ∨ i = 2 ∨ i = 3 ∨ i = 4 ∨ i = 5 ∨ i = 6 by omega) with rfl | rfl | rfl | rfl | rfl | rfl | rfl
      · exfalso
        have h0 := ho.2
        rw [h] at h0
        have hz : ∀ c : Fin 2, (nI 0 + 8 * nI c : Int32) &&& 7 = 0 := by decide +kernel
        have h6 := hG.1.2.1 s p1 ho.1
        rw [h, hz ⟨zc z, hc2⟩] at h6
        revert h6; decide
      · exact this.2.2.2.2.1
      · exact this.2.2.2.1
      · exact this.2.2.1
      · exact this.2.1
      · exact this.1
      · exact this.2.2.2.2.2.1
    exact (nI_eq (by omega) (by omega)).mp this
  -- the move is a plain one
  have hvt : vc (zm z) (zp z) s t = t := by
    unfold vc
    rw [if_neg]
    intro ⟨q1, q2⟩
    apply hna
    have : j = 1 := (nI_eq (b := 1) (by omega) (by decide)).mp (hj.symm.trans q1)
    unfold aim
    rw [if_pos this, decide_eq_true q2]
    simp
  have hp0 : pr = 0 := by
    apply Classical.byContradiction
    intro q
    apply hna
    have : j = 1 := (nI_eq (b := 1) (by omega) (by decide)).mp (hj.symm.trans (p6 q).2.1)
    unfold aim
    rw [if_pos this, decide_eq_true (p6 q).2.2]
    simp
  have hcs : ¬ cst (zm z) s t := by
    intro q
    apply hna
    have h6 : j = 6 := (nI_eq (b := 6) (by omega) (by decide)).mp (hj.symm.trans q.1)
    have hs := (hvm.2.2.2.2.2.1 q).1
    unfold aim
    rw [h6, if_neg (by decide), if_neg (by decide), if_neg (by decide), if_neg (by decide), if_neg (by decide)]
    have := q.2
    exact decide_eq_true (by omega)
  have hne : ¬ s = t := hvm.1.2.2.2
  have hat : ∀ i, mm (zm z) (zc z) (zp z) s t pr i = if i = t then zm z s else if i = s then 0 else zm z i := by
    intro i
    rw [mm_at hG.1.1 hvm, hvt, hp0]
    by_cases e1 : i = t
    · rw [if_pos e1, if_pos e1, if_pos rfl]
    · rw [if_neg e1, if_neg e1]
      by_cases e2 : i = s
      · rw [if_pos (Or.inl e2), if_pos e2]
      · rw [if_neg (fun q => q.elim e2 e1), if_neg e2, if_neg (fun q => hcs q.1), if_neg (fun q => hcs q.1)]
  have hks : ¬ k = s := by
    intro q
    have := hk.2.1
    rw [q] at this
    have := own_no hc2 (d := 1 - zc z) (by omega) p3 (Or.inr this)
    omega
  have hatt : att (mm (zm z) (zc z) (zp z) s t pr) (zc z) k = true := by
    have : chk (mm (zm z) (zc z) (zp z) s t pr) (1 - zc z) = true := hc
    unfold chk at this
    rw [ksq_eq (kng_mk hG.1.1 hvm (by omega) hk), if_neg hks, show 1 - (1 - zc z) = zc z by omega] at this
    exact this
  have hnot : ¬ att (zm z) (zc z) k = true := by rw [hck]; decide
  unfold att at hatt
  rw [Bool.or_eq_true, List.any_eq_true, List.any_eq_true] at hatt
  rcases hatt with ⟨w, hw, h⟩ | ⟨w, hw, h⟩
  · have hw := List.mem_range'_1.mp hw
    have hw16 : w < 16 := by omega
    have h := of_decide_eq_true h
    rcases nx_cases hw16 hk.1 with q | ⟨u, hu, q⟩
    · rw [q] at h; exact absurd (by decide) h.1
    · rw [q, nI_clamp (by omega), hat] at h
      by_cases e1 : u = t
      · rw [if_pos e1] at h
        apply hna
        rw [hjk 2 (by omega) h.2]
        unfold aim
        rw [if_neg (by decide), if_pos rfl]
        refine sees_i (w := w) (by omega) (by omega) (of_decide_eq_true ?_)
        rw [up1 (zm z) hw16 hk.1 p2]
        exact decide_eq_true (by rw [q, e1])
      · rw [if_neg e1] at h
        by_cases e2 : u = s
        · rw [if_pos e2] at h
          have hz : ∀ c : Fin 2, ¬ (0 : Int32) = 2 + 8 * nI c := by decide +kernel
          exact hz ⟨zc z, hc2⟩ h.2
        · rw [if_neg e2] at h
          refine hnot (att_k hw16 (by omega) ?_)
          unfold at_kn
          rw [q, nI_clamp (by omega)]
          exact decide_eq_true h
  · have hw := List.mem_range'_1.mp hw
    have hw8 : w < 8 := by omega
    unfold at_ln at h
    cases hh : hit (mm (zm z) (zc z) (zp z) s t pr) (ryf 7 w k) 0 with
    | none => rw [hh] at h; cases h
    | some q =>
      obtain ⟨far, man⟩ := q
      rw [hh] at h
      obtain ⟨A, u, C, a1, a2, a3, a4, a5⟩ := hit_split _ 0 hh
      rw [Nat.zero_add] at a2
      have hnd := ry_nd ⟨w, hw8⟩ ⟨k, hk.1⟩
      simp only at hnd
      have hlt : ∀ i ∈ ryf 7 w k, i < 64 := (ryf_lt 7 (by omega) hk.1).1
      have hu64 : u < 64 := hlt u (by rw [a1]; simp)
      have hus : ¬ u = s := by
        intro q
        rw [hat, q, if_neg hne, if_pos rfl] at a4
        exact a5 a4.symm
      have htA : ¬ t ∈ A := by
        intro q
        have := a3 t q
        rw [hat, if_pos rfl] at this
        exact ho.1 this
      have hA : ∀ a ∈ A, ¬ a = s → zm z a = 0 := by
        intro a ha hne'
        have := a3 a ha
        rw [hat, if_neg (fun q : a = t => htA (q ▸ ha)), if_neg hne'] at this
        exact this
      by_cases hsA : s ∈ A
      · obtain ⟨A1, A2, b1, b2⟩ := List.eq_append_cons_of_mem hsA
        have hs2 : ¬ s ∈ A2 := by
          intro q
          rw [a1, b1, List.append_assoc, List.nodup_append] at hnd
          have h2 := hnd.2.1
          rw [List.cons_append, List.nodup_cons] at h2
          exact h2.1 (List.mem_append.mpr (Or.inl q))
        have hA1 : ∀ a ∈ A1, zm z a = 0 := fun a ha => hA a (by rw [b1]; simp [ha]) (fun q => b2 (q ▸ ha))
        have hA2 : ∀ a ∈ A2, zm z a = 0 := fun a ha => hA a (by rw [b1]; simp [ha]) (fun q => hs2 (q ▸ ha))
        have hfar : ¬ far = 0 := by rw [a2, b1]; simp
        have hR : ryf 7 w k = A1 ++ s :: (A2 ++ u :: C) := by rw [a1, b1]; simp
        by_cases hut : u = t
        · -- he stood on the line before
          have hman : man = zm z s := by rw [← a4, hat, if_pos hut]
          obtain ⟨q, hq, e⟩ := pu_inf (hm s p1) (by decide)
          rw [hman, e] at h
          refine hnot (att_l hw8 ?_)
          unfold at_ln
          rw [hR, hit_app ho.1 _ A1 0 hA1, e]
          exact at_any hq hc2 hw8 hfar h
        · have hman : man = zm z u := by rw [← a4, hat, if_neg hut, if_neg hus]
          refine hns w hw8 ?_
          unfold shd
          rw [hR, snd2_a ho.1 _ A1 hA1, snd2_b (by rw [← hman]; exact a5) C A2 hA2]
          dsimp only
          rw [← hman, at_far (a := 1) (b := far) (by decide) hfar, h]
          simp
      · have hA' : ∀ a ∈ A, zm z a = 0 := fun a ha => hA a ha (fun q => hsA (q ▸ ha))
        by_cases hut : u = t
        · have hman : man = zm z s := by rw [← a4, hat, if_pos hut]
          have hmem : t ∈ upto (zm z) (ryf 7 w k) := by
            rw [a1, hut]
            exact upto_mem t C A hA'
          have hmem1 : far = 0 → t ∈ upto (zm z) (ryf 1 w k) := by
            intro hf
            have hAn : A = [] := List.eq_nil_of_length_eq_zero (by omega)
            rw [hAn, hut] at a1
            rcases nx_cases (w := w) (by omega) hk.1 with q | ⟨t1, ht1, q⟩
            · rw [ry_0 q] at a1; cases a1
            · rw [ry_1 q ht1] at a1
              have : t1 = t := by
                have := congrArg List.head? a1
                simp at this
                exact this
              rw [ry_1 q ht1, upto_c, this]
              exact List.mem_cons_self
          obtain ⟨q, hq, e⟩ := pu_inf (hm s p1) (by decide)
          rw [hman, e, at_hitE hq hc2 hw8, ← e] at h
          simp only [Bool.or_eq_true, Bool.and_eq_true, decide_eq_true_eq] at h
          rcases h with ⟨⟨hf, h1⟩, h2⟩ | (h1 | h1) | ⟨hf, h1⟩
          · apply hna
            rw [hjk 1 (by omega) h1]
            unfold aim
            rw [if_pos rfl]
            have : sees (zm z) k (if zc z = 0 then 6 else 4) 2 1 t = true := by
              have hpw := of_decide_eq_true h2
              refine sees_i (w := w) ?_ ?_ (hmem1 hf)
              · split <;> omega
              · split <;> omega
            rw [this]; rfl
          · apply hna
            rw [hjk 5 (by omega) h1]
            unfold aim
            rw [if_neg (by decide), if_neg (by decide), if_neg (by decide), if_neg (by decide), if_pos rfl]
            by_cases h4 : w < 4
            · rw [sees_i (a := 0) (n := 4) (w := w) (by omega) (by omega) hmem, Bool.or_true]
            · rw [sees_i (a := 4) (n := 4) (w := w) (by omega) (by omega) hmem, Bool.true_or]
          · by_cases h4 : w < 4
            · rw [if_pos h4] at h1
              apply hna
              rw [hjk 4 (by omega) h1]
              unfold aim
              rw [if_neg (by decide), if_neg (by decide), if_neg (by decide), if_pos rfl]
              exact sees_i (w := w) (by omega) (by omega) hmem
            · rw [if_neg h4] at h1
              apply hna
              rw [hjk 3 (by omega) h1]
              unfold aim
              rw [if_neg (by decide), if_neg (by decide), if_pos rfl]
              exact sees_i (w := w) (by omega) (by omega) hmem
          · -- kings do not come near each other
            have hkc : kng (zm z) (zc z) s := by
              obtain ⟨k', hk'⟩ := hG.1.2.2.1 (zc z) hc2
              rw [hk'.2.2 s p1 h1]; exact hk'
            have hl2 : chk (mm (zm z) (zc z) (zp z) s t pr) (zc z) = false := by
              have : lg z s t pr = true := hlv
              unfold lg at this
              rw [Bool.not_eq_true'] at this
              exact this
            unfold chk at hl2
            rw [ksq_eq (kng_mk hG.1.1 hvm hc2 hkc), if_pos rfl] at hl2
            have hmk : mm (zm z) (zc z) (zp z) s t pr k = 6 + 8 * nI (1 - zc z) := by
              rw [hat, if_neg (fun q => ?_), if_neg hks]
              · exact hk.2.1
              · have := hvm.2.2.2.2.2.2 (1 - zc z) (by omega)
                rw [← q] at this
                exact this hk.2.1
            have hup : t ∈ upto (mm (zm z) (zc z) (zp z) s t pr) (ryf 1 w k) := by
              have := hmem1 hf
              have h1' := up1 (zm z) (show w < 16 by omega) hk.1 p2
              rw [decide_eq_true this] at h1'
              have h2' := up1 (mm (zm z) (zc z) (zp z) s t pr) (show w < 16 by omega) hk.1 p2
              rw [← h1'] at h2'
              exact of_decide_eq_true h2'
            have hkm := kd_man ⟨1 - zc z, by omega⟩
            simp only at hkm
            have ha := ln_att (okm_mm hG.1.1 hvm) (c := 1 - zc z) (s := k) (t := t) (w := w) (f := 1) (by omega) hk.1 hw8 (by omega) (by rw [hmk]; exact hkm.2.2.2.2.2.2.1) hup (fun far' hf' => by
              obtain ⟨q6, hq6, e6⟩ := pu_inf hkm.2.2.2.2.2.2.2 (by decide)
              rw [hmk, e6, at_hitE hq6 (by omega) ((ow_r ⟨w, by omega⟩).2.1 hw8), ← e6, hf' rfl]
              simp)
            rw [ha] at hl2
            cases hl2
        · have hman : man = zm z u := by rw [← a4, hat, if_neg hut, if_neg hus]
          refine hnot (att_l hw8 ?_)
          unfold at_ln
          rw [a1, hit_app (by rw [← hman]; exact a5) _ A 0 hA', ← hman]
          rw [Nat.zero_add, ← a2]
          exact h
