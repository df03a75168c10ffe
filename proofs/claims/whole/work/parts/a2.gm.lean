/-! .. a legal move leads to a good position -/
theorem lo_b : ∀ s : Fin 64, ∀ d : Fin 2, ((15 - lo s).testBit (2 * d.val) = true → ¬ s.val = 56 * d.val + 4 ∧ ¬ s.val = 56 * d.val + 7) ∧ ((15 - lo s).testBit (2 * d.val + 1) = true → ¬ s.val = 56 * d.val + 4 ∧ ¬ s.val = 56 * d.val) := by decide +kernel
theorem kdp : ∀ pr : Fin 6, ∀ c : Fin 2, 2 ≤ pr.val → ((nI pr + 8 * nI c) &&& 7 = nI pr) := by decide +kernel
theorem kdr : ∀ c : Fin 2, ((4 : Int32) + 8 * nI c) &&& 7 = 4 := by decide +kernel
theorem rk_c : ∀ c d : Fin 2, ((4 : Int32) + 8 * nI c) = 4 + 8 * nI d → c = d := by decide +kernel
theorem rk_p : ∀ c d : Fin 2, ¬ ((1 : Int32) + 8 * nI c) = 4 + 8 * nI d ∧ ¬ ((1 : Int32) + 8 * nI c) = 6 + 8 * nI d ∧ ¬ (0 : Int32) = 4 + 8 * nI d := by decide +kernel
theorem gz_mk {z : Pz} (hG : Gz z) {s t pr : Nat} (hs : s < 64) (ht : t < 64) (ho : own (zm z) (zc z) s = true) (h : tz z s t = true) (hpr : pr ≤ 5) (hpp : ¬ pr = 0 → 2 ≤ pr ∧ zm z s &&& 7 = 1 ∧ (t < 8 ∨ 55 < t)) (hpe : zm z s &&& 7 = 1 → (t < 8 ∨ 55 < t) → 2 ≤ pr) (hl : lg z s t pr = true) : Gz (mk3 s t pr z) := by
  have hv := vm_tg hG hs ht ho h hpr (fun q => (hpp q).2.1)
  obtain ⟨⟨hb, hkk, hkz, hpn, hri, hps, hout⟩, hck⟩ := hG
  have hb' := hb
  obtain ⟨hm, hc2, hr⟩ := hb'
  have hat := fun i => mm_at hb hv (pr := pr) i
  obtain ⟨v1s, v2s, v3s, v4s⟩ := vc_sq hb hv
  have hcs := hv.2.2.2.2.2.1
  have ho' := of_decide_eq_true ho
  have hvq := vm_vq hb hv
  -- a square that stays as it was
  have stay : ∀ i, ¬ i = s → ¬ i = t → ¬ zm z i = 0 → ¬ zm z i = 1 + 8 * nI (1 - zc z) → (cst (zm z) s t → ¬ i = crn s t) → mm (zm z) (zc z) (zp z) s t pr i = zm z i := by
    intro i a1 a2 a3 a4 a5
    rw [hat, if_neg a2, if_neg (fun q => ?_), if_neg (fun q => a3 (by rw [q.2]; exact (hcs q.1).2.2.1)), if_neg (fun q => a5 q.1 q.2)]
    rcases q with q | q
    · exact a1 q
    · rcases vc_cases hb hv with ⟨e, -⟩ | ⟨e, -, -, -, -, -, g⟩
      · exact a2 (q.trans e)
      · exact a4 (by rw [q, e]; exact g)
  have f0 := fun d : Nat => fun hd : d < 2 => mfc ⟨0, by decide⟩ ⟨d, hd⟩
  have keep : ∀ d, d < 2 → ¬ s = 56 * d + 4 → ¬ t = 56 * d + 4 → ¬ s = 56 * d + 7 ∨ ¬ s = 56 * d → zm z (56 * d + 4) = 6 + 8 * nI d → mm (zm z) (zc z) (zp z) s t pr (56 * d + 4) = 6 + 8 * nI d := by
    intro d hd a1 a2 _ a3
    rw [stay _ (fun q => a1 q.symm) (fun q => a2 q.symm) (by rw [a3]; exact fun q => (f0 d hd).2.1 q.symm) (by rw [a3]; exact fun q => (rk_p ⟨1 - zc z, by omega⟩ ⟨d, hd⟩).2.1 q.symm) (fun q e => by
      have := (hcs q).2.1
      rw [← e, a3] at this
      exact (mfc ⟨_, hc2⟩ ⟨d, hd⟩).1 this.symm)]
    exact a3
  have keepr : ∀ d i, d < 2 → ¬ s = 56 * d + 4 → ¬ s = i → ¬ t = i → zm z i = 4 + 8 * nI d → mm (zm z) (zc z) (zp z) s t pr i = 4 + 8 * nI d := by
    intro d i hd a0 a1 a2 a3
    rw [stay _ (fun q => a1 q.symm) (fun q => a2 q.symm) (by rw [a3]; exact fun q => (rk_p ⟨0, by decide⟩ ⟨d, hd⟩).2.2 q.symm) (by rw [a3]; exact fun q => (rk_p ⟨1 - zc z, by omega⟩ ⟨d, hd⟩).1 q.symm) (fun q e => by
      obtain ⟨g1, g2, -⟩ := hcs q
      rw [← e, a3] at g2
      have := rk_c ⟨d, hd⟩ ⟨_, hc2⟩ g2
      have : d = zc z := congrArg Fin.val this
      exact a0 (by rw [g1, this]))]
    exact a3
  refine ⟨⟨bz_mk hb hv, ?_, okz_mk hb hkz hv, ?_, ?_, ?_, ?_⟩, ?_⟩
  · intro i hi
    show ¬ mm (zm z) (zc z) (zp z) s t pr i = 0 → _
    show ¬ mm (zm z) (zc z) (zp z) s t pr i = 0 → (mm (zm z) (zc z) (zp z) s t pr i &&& 7 = 1 ∨ mm (zm z) (zc z) (zp z) s t pr i &&& 7 = 2 ∨ mm (zm z) (zc z) (zp z) s t pr i &&& 7 = 3 ∨ mm (zm z) (zc z) (zp z) s t pr i &&& 7 = 4 ∨ mm (zm z) (zc z) (zp z) s t pr i &&& 7 = 5 ∨ mm (zm z) (zc z) (zp z) s t pr i &&& 7 = 6)
    rw [hat]
    by_cases e1 : i = t
    · rw [if_pos e1]
      by_cases p0 : pr = 0
      · rw [if_pos p0]; intro _; exact hkk s hs ho'.1
      · rw [if_neg p0, kdp ⟨pr, by omega⟩ ⟨_, hc2⟩ (hpp p0).1]
        intro _
        have := (hpp p0).1
        show nI pr = 1 ∨ nI pr = 2 ∨ nI pr = 3 ∨ nI pr = 4 ∨ nI pr = 5 ∨ nI pr = 6
        clear hv hat stay keep keepr hvq v1s v2s v3s v4s
        rcases (show pr = 2 ∨ pr = 3 ∨ pr = 4 ∨ pr = 5 by omega) with e | e | e | e <;> subst e <;> decide
    · rw [if_neg e1]
      by_cases e2 : i = s ∨ i = vc (zm z) (zp z) s t
      · rw [if_pos e2]; intro q; exact absurd rfl q
      · rw [if_neg e2]
        by_cases e3 : cst (zm z) s t ∧ i = (s + t) / 2
        · rw [if_pos e3, (hcs e3.1).2.1, kdr ⟨_, hc2⟩]
          intro _; exact Or.inr (Or.inr (Or.inr (Or.inl rfl)))
        · rw [if_neg e3]
          by_cases e4 : cst (zm z) s t ∧ i = crn s t
          · rw [if_pos e4]; intro q; exact absurd rfl q
          · rw [if_neg e4]; exact hkk i hi
  · intro i hi
    show mm (zm z) (zc z) (zp z) s t pr i &&& 7 = 1 → _
    rw [hat]
    by_cases e1 : i = t
    · rw [if_pos e1]
      by_cases p0 : pr = 0
      · rw [if_pos p0]; intro q
        have := hpe q
        omega
      · rw [if_neg p0, kdp ⟨pr, by omega⟩ ⟨_, hc2⟩ (hpp p0).1]
        intro q
        have := (nI_eq (a := pr) (b := 1) (by omega) (by decide)).mp q
        have := (hpp p0).1
        omega
    · rw [if_neg e1]
      by_cases e2 : i = s ∨ i = vc (zm z) (zp z) s t
      · rw [if_pos e2]; intro q; exact absurd q (by decide)
      · rw [if_neg e2]
        by_cases e3 : cst (zm z) s t ∧ i = (s + t) / 2
        · rw [if_pos e3, (hcs e3.1).2.1, kdr ⟨_, hc2⟩]
          intro q; exact absurd q (by decide)
        · rw [if_neg e3]
          by_cases e4 : cst (zm z) s t ∧ i = crn s t
          · rw [if_pos e4]; intro q; exact absurd q (by decide)
          · rw [if_neg e4]; exact hpn i hi
  · intro d hd
    show ((mr (zr z) s t).testBit (2 * d) = true → mm (zm z) (zc z) (zp z) s t pr (56 * d + 4) = 6 + 8 * nI d ∧ mm (zm z) (zc z) (zp z) s t pr (56 * d + 7) = 4 + 8 * nI d) ∧ ((mr (zr z) s t).testBit (2 * d + 1) = true → mm (zm z) (zc z) (zp z) s t pr (56 * d + 4) = 6 + 8 * nI d ∧ mm (zm z) (zc z) (zp z) s t pr (56 * d) = 4 + 8 * nI d)
    unfold mr
    rw [Nat.testBit_and, Nat.testBit_and, Nat.testBit_and, Nat.testBit_and]
    constructor
    · intro q
      rw [Bool.and_eq_true, Bool.and_eq_true] at q
      obtain ⟨⟨q1, q2⟩, q3⟩ := q
      have l1 := (lo_b ⟨s, hs⟩ ⟨d, hd⟩).1 q2
      have l2 := (lo_b ⟨t, ht⟩ ⟨d, hd⟩).1 q3
      obtain ⟨g1, g2⟩ := (hri d hd).1 q1
      exact ⟨keep d hd l1.1 l2.1 (Or.inl l1.2) g1, keepr d _ hd l1.1 l1.2 l2.2 g2⟩
    · intro q
      rw [Bool.and_eq_true, Bool.and_eq_true] at q
      obtain ⟨⟨q1, q2⟩, q3⟩ := q
      have l1 := (lo_b ⟨s, hs⟩ ⟨d, hd⟩).2 q2
      have l2 := (lo_b ⟨t, ht⟩ ⟨d, hd⟩).2 q3
      obtain ⟨g1, g2⟩ := (hri d hd).2 q1
      exact ⟨keep d hd l1.1 l2.1 (Or.inr l1.2) g1, keepr d _ hd l1.1 l1.2 l2.2 g2⟩
  · show mp (zm z) (mm (zm z) (zc z) (zp z) s t pr) (zc z) s t = -1 ∨ ∃ q, q < 64 ∧ mp (zm z) (mm (zm z) (zc z) (zp z) s t pr) (zc z) s t = nI q ∧ mm (zm z) (zc z) (zp z) s t pr q = 0 ∧ ((1 - zc z = 0 ∧ q / 8 = 5 ∧ mm (zm z) (zc z) (zp z) s t pr (q - 8) = 1 + 8 * nI 1) ∨ (1 - zc z = 1 ∧ q / 8 = 2 ∧ mm (zm z) (zc z) (zp z) s t pr (q + 8) = 1 + 8 * nI 0))
    unfold mp
    by_cases hq : (zm z s &&& 7 = 1 ∧ (t = s + 16 ∨ s = t + 16)) ∧ adj (mm (zm z) (zc z) (zp z) s t pr) (zc z) t = true
    · rw [if_pos hq]
      right
      have h1 := hq.1.1
      have hncs : ¬ cst (zm z) s t := fun q => by have := q.1.symm.trans h1; revert this; decide
      have hp1 := own_pawn hm hc2 hs ho h1
      have hpt : pt (zm z) (zc z) (zp z) s t = true := by
        unfold tz tg gl at h
        rw [if_pos h1, Bool.and_eq_true] at h
        exact h.1
      have hpc := pt_cases hc2 hs ht hpt
      have hb16 := hq.1.2
      have hmid : zm z ((s + t) / 2) = 0 ∧ ((zc z = 0 ∧ t = s + 16 ∧ s / 8 = 1) ∨ (zc z = 1 ∧ s = t + 16 ∧ s / 8 = 6)) := by
        rcases hpc with ⟨-, a⟩ | ⟨-, a⟩ | ⟨-, a, b⟩
        · omega
        · omega
        · rcases b with ⟨b1, b2, b3⟩ | ⟨b1, b2, b3⟩
          · exact ⟨by rw [show (s + t) / 2 = s + 8 by omega]; exact b3, by omega⟩
          · exact ⟨by rw [show (s + t) / 2 = t + 8 by omega]; exact b3, by omega⟩
      have hp0 : pr = 0 := by
        apply Classical.byContradiction
        intro q
        have := (hpp q).2.2
        rcases hmid.2 with ⟨b1, b2, b3⟩ | ⟨b1, b2, b3⟩ <;> omega
      have ht1 : mm (zm z) (zc z) (zp z) s t pr t = zm z s := by rw [hat, if_pos rfl, if_pos hp0]
      refine ⟨(s + t) / 2, by omega, rfl, ?_, ?_⟩
      · rw [hat, if_neg (by omega)]
        split
        · rfl
        · rw [if_neg (fun q => hncs q.1), if_neg (fun q => hncs q.1)]; exact hmid.1
      · rcases hmid.2 with ⟨b1, b2, b3⟩ | ⟨b1, b2, b3⟩
        · right
          refine ⟨by omega, by omega, ?_⟩
          rw [show (s + t) / 2 + 8 = t by omega, ht1, hp1, b1]
        · left
          refine ⟨by omega, by omega, ?_⟩
          rw [show (s + t) / 2 - 8 = t by omega, ht1, hp1, b1]
    · rw [if_neg hq]
      exact Or.inl rfl
  · intro i hi
    show mm (zm z) (zc z) (zp z) s t pr i = 0
    rw [hat, if_neg (by omega), if_neg (by omega), if_neg (fun q => by omega), if_neg (fun q => by
      have := (hvq.2.2.2.2.2 q.1).1
      omega)]
    exact hout i hi
  · show chk (mm (zm z) (zc z) (zp z) s t pr) (1 - (1 - zc z)) = false
    unfold lg at hl
    rw [show 1 - (1 - zc z) = zc z by omega]
    rw [Bool.not_eq_true'] at hl
    exact hl
