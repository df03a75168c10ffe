/-! .. unmake -/
theorem kng_u {m : Nat → Int32} {d k k' : Nat} (h : kng m d k) (h' : kng m d k') : k' = k := h.2.2 k' h'.1 h'.2.1
def okz (z : Pz) : Prop := ∀ d, d < 2 → ∃ k, kng (zm z) d k
theorem cb_unmake (B : BdT) (z : Pz) (l : StT) (s t pr : Nat) (h : CB B (mk3 s t pr z) ((s, t, pr, z) :: l)) (hl : l.length < 16) (hb : bz z) (hkz : okz z) (hv : vm z s t pr) : ∃ B', f_Board_unmake B = some B' ∧ CB B' z l := by
  obtain ⟨⟨r1, r2, r3, r4, r5, r6⟩, hd, ⟨⟨w1, w2, w3, w4, w5⟩, hH⟩⟩ := h
  obtain ⟨v1s, v2s, v3s, v4s⟩ := vc_sq hb hv
  have hv' := hv
  obtain ⟨⟨hs, ht, hpr, hne⟩, ho, hno, hp, hprp, hcs, hkt⟩ := hv'
  have hb' := hb
  obtain ⟨hm, hc2, hr⟩ := hb'
  obtain ⟨-, -, -, -, -, hcc⟩ := vm_vq hb hv
  obtain ⟨v1, v2, v3⟩ := dec_v (v := s + 64 * t + 4096 * pr) (by omega)
  rw [show (s + 64 * t + 4096 * pr) % 64 = s by omega] at v1
  rw [show (s + 64 * t + 4096 * pr) / 64 % 64 = t by omega] at v2
  rw [show (s + 64 * t + 4096 * pr) / 4096 = pr by omega] at v3
  have ho' := of_decide_eq_true ho
  have r1' : bd_men B = mm (zm z) (zc z) (zp z) s t pr := r1
  have r3' : bd_side B = nI (1 - zc z) := r3
  have hat := fun i => mm_at hb hv (pr := pr) i
  have hokmm := okm_mm hb hv
  have hside : (1 : Int32) - nI (1 - zc z) = nI (zc z) := by
    have := nI_oth ⟨1 - zc z, by omega⟩
    simp only at this
    rw [this]; congr 1; omega
  have hxs : ∀ i, upd (upd (mm (zm z) (zc z) (zp z) s t pr) t 0) s (zm z s) i = if i = s then zm z s else if i = t then 0 else mm (zm z) (zc z) (zp z) s t pr i := fun i => rfl
  -- the kings
  have hkk : ∀ d, d < 2 → ∃ k, kng (zm z) d k ∧ bd_kings B d = nI (if k = s then t else k) := by
    intro d hd
    obtain ⟨k, hk⟩ := hkz d hd
    obtain ⟨k', g1, g2⟩ := r6 d hd
    refine ⟨k, hk, ?_⟩
    rw [g2, kng_u (kng_mk hb hv hd hk) g1]
  have hKn : ¬ zm z s &&& 7 = 6 → KB (bd_kings B) (zm z) := by
    intro h6 d hd
    obtain ⟨k, g1, g2⟩ := hkk d hd
    refine ⟨k, g1, ?_⟩
    rw [g2, if_neg (fun q => ?_)]
    apply h6
    rw [← q, g1.2.1]
    exact (mfc ⟨0, by decide⟩ ⟨d, hd⟩).2.2.2.1
  have hKy : zm z s &&& 7 = 6 → KB (upd (bd_kings B) (zc z) (nI s)) (zm z) := by
    intro h6 d hd
    obtain ⟨k, g1, g2⟩ := hkk d hd
    refine ⟨k, g1, ?_⟩
    by_cases hdc : d = zc z
    · have : s = k := own_king hm hc2 hs (hdc ▸ g1) ho h6
      rw [hdc, upd_s, this]
    · rw [upd_o _ _ hdc, g2, if_neg (fun q => ?_)]
      have g3 := g1.2.1
      rw [q] at g3
      have ho2 := ho'.2
      rw [g3, (mfc ⟨0, by decide⟩ ⟨d, hd⟩).2.2.2.2.1, nI_eq (by omega) (by omega)] at ho2
      exact hdc ho2
  have hdp : am_in (nI l.length) 16 = true := pu_in hl (by decide)
  have hfin : ∀ b : BdT, bd_men b = zm z → okh b → KB (bd_kings b) (zm z) → bd_side b = nI (zc z) → bd_depth b = nI l.length → hi_of b = hi_of B → ∃ B', j_Board_unmake_151 b = some B' ∧ CB B' z l := by
    intro b n1 n2 n3 n4 n5 n6
    unfold j_Board_unmake_151
    rw [n5, if_pos hdp, if_pos hdp, nI_clamp (show l.length < _ by omega)]
    refine ⟨_, rfl, ⟨n1, n2, n4, ?_, ?_, n3⟩, rfl, ?_⟩
    · show bd_rightsBefore b l.length = _
      rw [show bd_rightsBefore b = bd_rightsBefore B from congrArg (fun q : HiT => q.2.2.2.1) n6]; exact w4
    · show bd_passedBefore b l.length = _
      rw [show bd_passedBefore b = bd_passedBefore B from congrArg (fun q : HiT => q.2.2.2.2) n6]; exact w5
    · show HB (hi_of b) l
      rw [n6]; exact hH
  have h124 : ∀ b : BdT, bd_men b = (if zm z (vc (zm z) (zp z) s t) = 0 then upd (upd (mm (zm z) (zc z) (zp z) s t pr) t 0) s (zm z s) else upd (upd (upd (mm (zm z) (zc z) (zp z) s t pr) t 0) s (zm z s)) (vc (zm z) (zp z) s t) (zm z (vc (zm z) (zp z) s t))) → okh b → bd_kings b = bd_kings B → bd_side b = nI (zc z) → bd_depth b = nI l.length → hi_of b = hi_of B → ∃ B', j_Board_unmake_124 b (nI s) (nI t) (zm z s) = some B' ∧ CB B' z l := by
    intro b n1 n2 n3 n4 n5 n6
    have hplain : ¬ cst (zm z) s t → bd_men b = zm z := by
      intro hc
      rw [n1]
      funext i
      have hpt : upd (upd (mm (zm z) (zc z) (zp z) s t pr) t 0) s (zm z s) i = if i = s then zm z s else if i = t then 0 else if i = vc (zm z) (zp z) s t then 0 else zm z i := by
        rw [hxs]
        by_cases q1 : i = s
        · rw [if_pos q1, if_pos q1]
        · rw [if_neg q1, if_neg q1]
          by_cases q2 : i = t
          · rw [if_pos q2, if_pos q2]
          · rw [if_neg q2, if_neg q2, hat, if_neg q2]
            by_cases q3 : i = vc (zm z) (zp z) s t
            · rw [if_pos (Or.inr q3), if_pos q3]
            · rw [if_neg (fun q => by rcases q with q | q; exact q1 q; exact q3 q), if_neg q3, if_neg (fun q => hc q.1), if_neg (fun q => hc q.1)]
      by_cases hz : zm z (vc (zm z) (zp z) s t) = 0
      · rw [if_pos hz, hpt]
        by_cases q1 : i = s
        · rw [if_pos q1, q1]
        · rw [if_neg q1]
          by_cases q3 : i = vc (zm z) (zp z) s t
          · rw [q3, hz, if_pos rfl]; split
            · rfl
            · rfl
          · rw [if_neg q3]
            by_cases q2 : i = t
            · rw [if_pos q2, q2, v3s (fun w => q3 (q2.trans w.symm))]
            · rw [if_neg q2]
      · rw [if_neg hz]
        by_cases q3 : i = vc (zm z) (zp z) s t
        · rw [q3, upd_s]
        · rw [upd_o _ _ q3, hpt]
          by_cases q1 : i = s
          · rw [if_pos q1, q1]
          · rw [if_neg q1, if_neg q3]
            by_cases q2 : i = t
            · rw [if_pos q2, q2, v3s (fun w => q3 (q2.trans w.symm))]
            · rw [if_neg q2]
    unfold j_Board_unmake_124
    by_cases h6 : zm z s &&& 7 = 6
    · rw [if_neg (fun q => q h6), n4, if_pos (pu_in hc2 (by decide)), nI_clamp (show zc z < _ by omega)]
      by_cases hcd : t = s + 2 ∨ s = t + 2
      · have hcst : cst (zm z) s t := ⟨h6, hcd⟩
        obtain ⟨c1, c2, c3, c4⟩ := hcs hcst
        have hvt : vc (zm z) (zp z) s t = t := by
          unfold vc; rw [if_neg (fun q => by have := q.1.symm.trans h6; revert this; decide)]
        have hcr : ¬ crn s t = t ∧ ¬ crn s t = s ∧ ¬ (s + t) / 2 = t ∧ ¬ (s + t) / 2 = s ∧ ¬ (s + t) / 2 = crn s t := by
          unfold crn
          rcases hcd with q | q
          · rw [if_neg (by omega)]; omega
          · rw [if_pos (by omega)]; omega
        rw [hvt, if_pos c4] at n1
        have hrk : ¬ (4 + 8 * nI (zc z) : Int32) = 0 := (mfc ⟨_, hc2⟩ ⟨0, by decide⟩).2.2.2.2.2.2.1
        have f1 : bd_men b ((s + t) / 2) = zm z (crn s t) := by
          rw [n1, hxs, if_neg hcr.2.2.2.1, if_neg hcr.2.2.1, hat, if_neg hcr.2.2.1, if_neg (fun q => by rcases q with q | q; exact hcr.2.2.2.1 q; rw [hvt] at q; exact hcr.2.2.1 q), if_pos ⟨hcst, rfl⟩]
        have f2 : bd_men b (crn s t) = 0 := by
          rw [n1, hxs, if_neg hcr.2.1, if_neg hcr.1, hat, if_neg hcr.1, if_neg (fun q => by rcases q with q | q; exact hcr.2.1 q; rw [hvt] at q; exact hcr.1 q), if_neg (fun q => hcr.2.2.2.2 q.2.symm), if_pos ⟨hcst, rfl⟩]
        have hokb : okm (bd_men b) := by
          rw [n1]; exact okm_upd (okm_upd hokmm am_0) (hm s hs)
        have hmE : upd (upd (bd_men b) ((s + t) / 2) 0) (crn s t) (bd_men b ((s + t) / 2)) = zm z := by
          rw [f1]
          funext i
          unfold upd
          by_cases q1 : i = crn s t
          · rw [if_pos q1, q1]
          · rw [if_neg q1]
            by_cases q2 : i = (s + t) / 2
            · rw [if_pos q2, q2, c3]
            · rw [if_neg q2, n1, hxs]
              by_cases q3 : i = s
              · rw [if_pos q3, q3]
              · rw [if_neg q3]
                by_cases q4 : i = t
                · rw [if_pos q4, q4, c4]
                · rw [if_neg q4, hat, if_neg q4, hvt, if_neg (fun q => by rcases q with q | q; exact q3 q; exact q4 q), if_neg (fun q => q2 q.2), if_neg (fun q => q1 q.2)]
        have hT : ∀ T : BdT, bd_men T = bd_men b → bd_held T = bd_held b → bd_kings T = upd (bd_kings b) (zc z) (nI s) → bd_side T = nI (zc z) → bd_depth T = nI l.length → hi_of T = hi_of B → ∃ B', ((f_Board_castleRook (nI s) (nI t) 0 T).bind fun bg4 => j_Board_unmake_151 bg4) = some B' ∧ CB B' z l := by
          intro T t1 t2 t3 t4 t5 t6
          obtain ⟨a2, e3, e4⟩ := cl_castB T (t1 ▸ hokb) (fun d hd i hi => by rw [t1, t2]; exact n2 d hd i hi) hs ht hcd (hcc hcst).1 (hcc hcst).2 (by rw [t1, f1, c2]; exact hrk) (t1 ▸ f2)
          rw [t1] at e3 e4
          rw [e3]
          simp only [Option.bind_some]
          exact hfin _ hmE e4 (by show KB (bd_kings T) _; rw [t3, n3]; exact hKy h6) t4 t5 t6
        exact hT _ rfl rfl rfl rfl n5 n6
      · rw [cl_cast0 _ _ hs ht hcd]
        simp only [Option.bind_some]
        refine hfin _ (hplain (fun q => hcd q.2)) n2 ?_ rfl n5 n6
        show KB (upd (bd_kings b) (zc z) (nI s)) _
        rw [n3]; exact hKy h6
    · rw [if_pos h6]
      exact hfin b (hplain (fun q => h6 q.1)) n2 (n3 ▸ hKn h6) n4 n5 n6
  have h76 : ∃ B', j_Board_unmake_76 (bd_men B, bd_held B, bd_kings B, (1 : Int32) - bd_side B, bd_rights B, bd_passed B, nI l.length, bd_made B, bd_taken B, bd_takenAt B, bd_rightsBefore B, bd_passedBefore B) (nI s) (nI t) (zm z s) = some B' ∧ CB B' z l := by
    unfold j_Board_unmake_76
    rw [r1', r3', hside]
    have hokh : okh (mm (zm z) (zc z) (zp z) s t pr, bd_held B, bd_kings B, nI (zc z), bd_rights B, bd_passed B, nI l.length, bd_made B, bd_taken B, bd_takenAt B, bd_rightsBefore B, bd_passedBefore B) := fun d hd i hi => by have := r2 d hd i hi; rw [r1'] at this; exact this
    obtain ⟨a1, e1, e2⟩ := cl_lift _ hokmm hokh ht
    rw [e1]
    simp only [Option.bind_some]
    obtain ⟨a2, e3, e4⟩ := cl_put _ e2 hs (hm s hs) ho'.1 (by show upd (mm (zm z) (zc z) (zp z) s t pr) t 0 s = 0; rw [upd_o _ _ hne, hat, if_neg hne, if_pos (Or.inl rfl)])
    rw [e3]
    simp only [Option.bind_some]
    rw [if_pos hdp, nI_clamp (show l.length < _ by omega)]
    rw [show bd_taken B l.length = zm z (vc (zm z) (zp z) s t) from w2]
    by_cases hz : zm z (vc (zm z) (zp z) s t) = 0
    · rw [if_pos hz]
      exact h124 _ (by rw [if_pos hz]) e4 rfl rfl rfl rfl
    · rw [if_neg hz, if_pos hdp, if_pos hdp]
      rw [show bd_takenAt B l.length = nI (vc (zm z) (zp z) s t) from w3]
      obtain ⟨a3, e5, e6⟩ := cl_put _ e4 v2s (hm _ v2s) hz (by
        show upd (upd (mm (zm z) (zc z) (zp z) s t pr) t 0) s (zm z s) _ = 0
        rw [hxs, if_neg v1s]
        by_cases q : vc (zm z) (zp z) s t = t
        · rw [if_pos q]
        · rw [if_neg q, hat, if_neg q, if_pos (Or.inr rfl)])
      rw [e5]
      simp only [Option.bind_some]
      exact h124 _ (by rw [if_neg hz]) e6 rfl rfl rfl rfl
  unfold f_Board_unmake
  have hd' : bd_depth B = nI (l.length + 1) := hd
  rw [hd', if_pos (show (0 : Int32) < nI (l.length + 1) from nI_lt (a := 0) (by omega) (by omega)), nI_pred, if_pos hdp, nI_clamp (show l.length < _ by omega), show bd_made B l.length = nI (s + 64 * t + 4096 * pr) from w1, v1, v2, v3]
  by_cases h0 : pr = 0
  · rw [if_neg (fun q => q (by rw [h0]; decide)), if_pos (pu_in ht (by decide)), nI_clamp (show t < _ by omega)]
    rw [show bd_men B t = zm z s from by rw [r1', hat, if_pos rfl, if_pos h0]]
    exact h76
  · rw [if_pos (nI_ne0 (by omega) (by omega))]
    rw [show (1 : Int32) + 8 * ((1 : Int32) - bd_side B) = zm z s from by rw [r3', hside, own_pawn hm hc2 hs ho (hprp h0)]]
    exact h76
