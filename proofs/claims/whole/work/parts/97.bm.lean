/-! .. the whole of a move -/
/-- the class's notes of moves -/
abbrev HiT : Type := (Nat → Int32) × (Nat → Int32) × (Nat → Int32) × (Nat → Int32) × (Nat → Int32)
abbrev hi_of (B : BdT) : HiT := B.2.2.2.2.2.2.2
abbrev StT : Type := List (Nat × Nat × Nat × Pz)
def HB (a : HiT) : StT → Prop
  | [] => True
  | (s, t, pr, z) :: l => (a.1 l.length = nI (s + 64 * t + 4096 * pr) ∧ a.2.1 l.length = zm z (vc (zm z) (zp z) s t) ∧ a.2.2.1 l.length = nI (vc (zm z) (zp z) s t) ∧ a.2.2.2.1 l.length = nI (zr z) ∧ a.2.2.2.2 l.length = zp z) ∧ HB a l
theorem hb_congr {a a' : HiT} : ∀ (l : StT), (∀ j, j < l.length → a'.1 j = a.1 j ∧ a'.2.1 j = a.2.1 j ∧ a'.2.2.1 j = a.2.2.1 j ∧ a'.2.2.2.1 j = a.2.2.2.1 j ∧ a'.2.2.2.2 j = a.2.2.2.2 j) → HB a l → HB a' l
  | [], _, _ => trivial
  | (s, t, pr, z) :: l, h, ⟨⟨h1, h2, h3, h4, h5⟩, h6⟩ => by
    obtain ⟨g1, g2, g3, g4, g5⟩ := h l.length (by simp)
    exact ⟨⟨g1.trans h1, g2.trans h2, g3.trans h3, g4.trans h4, g5.trans h5⟩, hb_congr l (fun j hj => h j (by simp only [List.length_cons]; omega)) h6⟩
/-- each side has its one king, and it is known where -/
def KB (ks : Nat → Int32) (m : Nat → Int32) : Prop := ∀ d, d < 2 → ∃ k, kng m d k ∧ ks d = nI k
/-- the class's board stands at that position -/
def RB (B : BdT) (z : Pz) : Prop := bd_men B = zm z ∧ okh B ∧ bd_side B = nI (zc z) ∧ bd_rights B = nI (zr z) ∧ bd_passed B = zp z ∧ KB (bd_kings B) (zm z)
def CB (B : BdT) (z : Pz) (l : StT) : Prop := RB B z ∧ bd_depth B = nI l.length ∧ HB (hi_of B) l
def bz (z : Pz) : Prop := okm (zm z) ∧ zc z < 2 ∧ zr z < 16
/-- what a move must keep to, for the class -/
def vm (z : Pz) (s t pr : Nat) : Prop :=
  (s < 64 ∧ t < 64 ∧ pr ≤ 5 ∧ ¬ s = t) ∧ own (zm z) (zc z) s = true ∧ own (zm z) (zc z) t = false ∧
  (zm z s &&& 7 = 1 → ((zc z = 0 ∧ s < t) ∨ (zc z = 1 ∧ t < s)) ∧ (zp z = nI t → zm z t = 0 ∧ zm z (s / 8 * 8 + t % 8) = 1 + 8 * nI (1 - zc z) ∧ ((s / 8 = 4 ∧ t / 8 = 5) ∨ (s / 8 = 3 ∧ t / 8 = 2)))) ∧
  (¬ pr = 0 → zm z s &&& 7 = 1) ∧
  (cst (zm z) s t → s = 56 * zc z + 4 ∧ zm z (crn s t) = 4 + 8 * nI (zc z) ∧ zm z ((s + t) / 2) = 0 ∧ zm z t = 0) ∧
  (∀ d, d < 2 → ¬ zm z t = 6 + 8 * nI d)
theorem vm_vq {z : Pz} {s t pr : Nat} (hb : bz z) (hv : vm z s t pr) : vq z s t pr := by
  obtain ⟨⟨h1, h2, h3, h4⟩, -, -, -, -, h6, -⟩ := hv
  refine ⟨h1, h2, h3, hb.2.1, hb.2.2, fun hc => ?_⟩
  have := (h6 hc).1
  have hc2 := hb.2.1
  rcases hc.2 with q | q
  · unfold crn; rw [if_neg (by omega)]; omega
  · unfold crn; rw [if_pos (by omega)]; omega
theorem mfc : ∀ c d : Fin 2, ¬ ((4 : Int32) + 8 * nI c) = 6 + 8 * nI d ∧ ¬ (0 : Int32) = 6 + 8 * nI d ∧ ¬ ((1 : Int32) + 8 * nI c) = 6 + 8 * nI d ∧ ((6 : Int32) + 8 * nI d) &&& 7 = 6 ∧ ((6 : Int32) + 8 * nI d) >>> ((3 : Int32) &&& 31) = nI d ∧ ((1 : Int32) + 8 * nI d) >>> ((3 : Int32) &&& 31) = nI d ∧ ¬ (4 + 8 * nI c : Int32) = 0 ∧ am_in (4 + 8 * nI c : Int32) 16 = true ∧ am_in (1 + 8 * nI c : Int32) 16 = true ∧ ¬ (1 + 8 * nI c : Int32) = 0 ∧ ((1 : Int32) + 8 * nI d) &&& 7 = 1 := by decide +kernel
theorem mfp : ∀ pr : Fin 6, ∀ c d : Fin 2, ¬ nI pr + 8 * nI c = 6 + 8 * nI d ∧ am_in (nI pr + 8 * nI c) 16 = true ∧ (¬ pr.val = 0 → ¬ nI pr + 8 * nI c = 0) := by decide +kernel
theorem mfk : ∀ k : Fin 16, ∀ c : Fin 2, nI k &&& 7 = 1 → nI k >>> ((3 : Int32) &&& 31) = nI c → nI k = 1 + 8 * nI c := by decide +kernel
theorem own_pawn {m : Nat → Int32} (hm : okm m) {c s : Nat} (hc : c < 2) (hs : s < 64) (ho : own m c s = true) (h1 : m s &&& 7 = 1) : m s = 1 + 8 * nI c := by
  have ho := of_decide_eq_true ho
  obtain ⟨z, hz, e⟩ := pu_inf (hm s hs) (by decide)
  rw [e] at h1 ho ⊢
  exact mfk ⟨z, hz⟩ ⟨c, hc⟩ h1 ho.2
/-- where the man taken stands -/
theorem vc_cases {z : Pz} {s t pr : Nat} (hb : bz z) (hv : vm z s t pr) : (vc (zm z) (zp z) s t = t ∧ ¬ (zm z s &&& 7 = 1 ∧ zp z = nI t)) ∨ (vc (zm z) (zp z) s t = s / 8 * 8 + t % 8 ∧ ¬ s / 8 * 8 + t % 8 = t ∧ ¬ s / 8 * 8 + t % 8 = s ∧ zm z s &&& 7 = 1 ∧ zp z = nI t ∧ zm z t = 0 ∧ zm z (s / 8 * 8 + t % 8) = 1 + 8 * nI (1 - zc z)) := by
  obtain ⟨⟨h1, h2, h3, h4⟩, ho, -, hp, -, h6, -⟩ := hv
  unfold vc
  by_cases h : zm z s &&& 7 = 1 ∧ zp z = nI t
  · rw [if_pos h]
    obtain ⟨q1, q2, q3⟩ := (hp h.1).2 h.2
    refine Or.inr ⟨rfl, by omega, fun e => ?_, h.1, h.2, q1, q2⟩
    have ho := of_decide_eq_true ho
    rw [← e, q2] at ho
    have := (mfc ⟨0, by decide⟩ ⟨1 - zc z, by omega⟩).2.2.2.2.2.1
    simp only at this
    rw [this, nI_eq (by omega) (by have := hb.2.1; omega)] at ho
    have h9 := ho.2
    have := hb.2.1
    omega
  · rw [if_neg h]
    exact Or.inl ⟨rfl, h⟩
theorem vc_sq {z : Pz} {s t pr : Nat} (hb : bz z) (hv : vm z s t pr) : ¬ vc (zm z) (zp z) s t = s ∧ vc (zm z) (zp z) s t < 64 ∧ (¬ vc (zm z) (zp z) s t = t → zm z t = 0) ∧ ∀ d, d < 2 → ¬ zm z (vc (zm z) (zp z) s t) = 6 + 8 * nI d := by
  have h0 := hv.1
  rcases vc_cases hb hv with ⟨h, -⟩ | ⟨h, g1, g2, -, -, g3, g4⟩
  · rw [h]
    exact ⟨fun q => h0.2.2.2 q.symm, h0.2.1, fun q => absurd rfl q, hv.2.2.2.2.2.2⟩
  · rw [h]
    exact ⟨g2, by omega, fun _ => g3, fun d hd => by rw [g4]; exact (mfc ⟨1 - zc z, by omega⟩ ⟨d, hd⟩).2.2.1⟩
/-- the men behind a move, square by square -/
theorem mm_at {z : Pz} {s t pr : Nat} (hb : bz z) (hv : vm z s t pr) (i : Nat) : mm (zm z) (zc z) (zp z) s t pr i = if i = t then (if pr = 0 then zm z s else nI pr + 8 * nI (zc z)) else if i = s ∨ i = vc (zm z) (zp z) s t then 0 else if cst (zm z) s t ∧ i = (s + t) / 2 then zm z (crn s t) else if cst (zm z) s t ∧ i = crn s t then 0 else zm z i := by
  have hb2 := hb.2.1
  unfold mm
  by_cases hc : cst (zm z) s t
  · obtain ⟨q1, q2, q3, q4⟩ := hv.2.2.2.2.2.1 hc
    have hvc : vc (zm z) (zp z) s t = t := by
      unfold vc; rw [if_neg (fun h => by have := h.1.symm.trans hc.1; revert this; decide)]
    have hcr : crn s t = 56 * zc z + 7 ∧ t = s + 2 ∨ crn s t = 56 * zc z ∧ s = t + 2 := by
      unfold crn
      rcases hc.2 with h | h
      · rw [if_neg (by omega)]; omega
      · rw [if_pos (by omega)]; omega
    have hns := hv.1
    rw [if_pos hc, hvc]
    unfold mb upd
    rw [hvc]
    have d1 : ¬ crn s t = t := by omega
    have d2 : ¬ crn s t = s := by omega
    by_cases e1 : i = t
    · rw [if_neg (show ¬ i = crn s t by omega), if_neg (show ¬ i = (s + t) / 2 by omega), if_pos e1, if_pos e1]
    · by_cases e2 : i = s
      · rw [if_neg (show ¬ i = crn s t by omega), if_neg (show ¬ i = (s + t) / 2 by omega), if_neg e1, if_pos e2, if_neg e1, if_pos (Or.inl e2)]
      · by_cases e3 : i = crn s t
        · rw [if_pos e3, if_neg e1, if_neg (fun h => h.elim e2 e1), if_neg (fun h => by have := h.2; omega), if_pos ⟨hc, e3⟩]
        · rw [if_neg e3]
          by_cases e4 : i = (s + t) / 2
          · rw [if_pos e4, if_neg d1, if_neg d2, if_neg d1, if_neg e1, if_neg (fun h => h.elim e2 e1), if_pos ⟨hc, e4⟩]
          · rw [if_neg e4, if_neg e1, if_neg e2, if_neg e1, if_neg e1, if_neg (fun h => h.elim e2 e1), if_neg (fun h => e4 h.2), if_neg (fun h => e3 h.2)]
  · rw [if_neg hc, if_neg (c := cst (zm z) s t ∧ i = (s + t) / 2) (fun h => hc h.1), if_neg (c := cst (zm z) s t ∧ i = crn s t) (fun h => hc h.1)]
    unfold mb upd
    by_cases e1 : i = t
    · rw [if_pos e1, if_pos e1]
    · rw [if_neg e1, if_neg e1]
      by_cases e2 : i = s
      · rw [if_pos e2, if_pos (Or.inl e2)]
      · rw [if_neg e2]
        by_cases e3 : i = vc (zm z) (zp z) s t
        · rw [if_pos e3, if_pos (Or.inr e3)]
        · rw [if_neg e3, if_neg (fun h => by rcases h with h | h; exact e2 h; exact e3 h)]
/-- kings behind a move -/
theorem kng_mk {z : Pz} {s t pr d k : Nat} (hb : bz z) (hv : vm z s t pr) (hd : d < 2) (hk : kng (zm z) d k) : kng (mm (zm z) (zc z) (zp z) s t pr) d (if k = s then t else k) := by
  obtain ⟨k1, k2, k3⟩ := hk
  obtain ⟨v1, v2, v3, v4⟩ := vc_sq hb hv
  have hv' := hv
  obtain ⟨⟨hs, ht, hpr, hne⟩, ho, hno, hp, hprp, hcs, hkt⟩ := hv'
  have hF := fun c : Nat => fun hc : c < 2 => mfc ⟨c, hc⟩ ⟨d, hd⟩
  have hc2 := hb.2.1
  have hx : ∀ i, ¬ i = t → mm (zm z) (zc z) (zp z) s t pr i = 6 + 8 * nI d → ¬ i = s ∧ zm z i = 6 + 8 * nI d := by
    intro i hi h
    rw [mm_at hb hv, if_neg hi] at h
    by_cases e1 : i = s ∨ i = vc (zm z) (zp z) s t
    · rw [if_pos e1] at h; exact absurd h (hF 0 (by decide)).2.1
    · rw [if_neg e1] at h
      by_cases e2 : cst (zm z) s t ∧ i = (s + t) / 2
      · rw [if_pos e2, (hcs e2.1).2.1] at h; exact absurd h (hF _ hc2).1
      · rw [if_neg e2] at h
        by_cases e3 : cst (zm z) s t ∧ i = crn s t
        · rw [if_pos e3] at h; exact absurd h (hF 0 (by decide)).2.1
        · rw [if_neg e3] at h
          exact ⟨fun q => e1 (Or.inl q), h⟩
  by_cases hks : k = s
  · rw [if_pos hks]
    have h6 : zm z s = 6 + 8 * nI d := by rw [← hks]; exact k2
    have hp0 : pr = 0 := by
      apply Classical.byContradiction
      intro q
      have := hprp q
      rw [h6, (hF 0 (by decide)).2.2.2.1] at this
      revert this; decide
    refine ⟨ht, ?_, fun i hi h => ?_⟩
    · rw [mm_at hb hv, if_pos rfl, if_pos hp0]; exact h6
    · apply Classical.byContradiction
      intro q
      obtain ⟨g1, g2⟩ := hx i q h
      exact g1 ((k3 i hi g2).trans hks)
  · rw [if_neg hks]
    have hkt' : ¬ k = t := fun q => hkt d hd (q ▸ k2)
    refine ⟨k1, ?_, fun i hi h => ?_⟩
    · rw [mm_at hb hv, if_neg hkt', if_neg (fun q => by
        rcases q with q | q
        · exact hks q
        · exact v4 d hd (q ▸ k2)), if_neg (fun q => by
        have := (hcs q.1).2.2.1
        rw [← q.2, k2] at this
        exact (hF 0 (by decide)).2.1 this.symm), if_neg (fun q => by
        have := (hcs q.1).2.1
        rw [← q.2, k2] at this
        exact (hF _ hc2).1 this.symm)]
      exact k2
    · by_cases q : i = t
      · exfalso
        rw [mm_at hb hv, if_pos q] at h
        by_cases hp0 : pr = 0
        · rw [if_pos hp0] at h
          exact hks (k3 s hs h).symm
        · rw [if_neg hp0] at h
          exact (mfp ⟨pr, by omega⟩ ⟨_, hc2⟩ ⟨d, hd⟩).1 h
      · exact k3 i hi (hx i q h).2
theorem am_0 : am_in (0 : Int32) 16 = true := by decide
theorem okm_mm {z : Pz} {s t pr : Nat} (hb : bz z) (hv : vm z s t pr) : okm (mm (zm z) (zc z) (zp z) s t pr) := by
  intro i hi
  rw [mm_at hb hv]
  have hc2 := hb.2.1
  have h0 := hv.1
  split
  · split
    · exact hb.1 s h0.1
    · exact (mfp ⟨pr, by omega⟩ ⟨_, hc2⟩ ⟨0, by decide⟩).2.1
  · split
    · exact am_0
    · split
      · rename_i h
        rw [(hv.2.2.2.2.2.1 h.1).2.1]
        exact (mfc ⟨_, hc2⟩ ⟨0, by decide⟩).2.2.2.2.2.2.2.1
      · split
        · exact am_0
        · exact hb.1 i hi
