/-! .. make and unmake -/
theorem nm_cg {m : Nat → Int32} {w w' q q' : Nat} {x : Int32} (h : nx w q = nx w' q') : nm m w q x = nm m w' q' x := by
  unfold nm
  rw [h]
theorem cl_pa (b : BdT) {q d w : Nat} (hq : q < 64) (hd : d < 2) (hw : w = if d = 0 then 6 else 4) : f_Board_pawnAttacks (nI q) (nI d) b = some (cond (nm (bd_men b) w q (1 + 8 * nI d) || nm (bd_men b) (w + 1) q (1 + 8 * nI d)) 1 0) := by
  have hw16 : w + 1 < 16 := by subst hw; split <;> omega
  have key : j_Board_pawnAttacks_17 b (nI q) (1 + 8 * nI d) (nI w) = some (cond (nm (bd_men b) w q (1 + 8 * nI d) || nm (bd_men b) (w + 1) q (1 + 8 * nI d)) 1 0) := by
    unfold j_Board_pawnAttacks_17
    rw [nI_1, pu_idx (by omega) hq, pu_idx hw16 hq, if_pos (pu_in (by omega) (by decide)), if_pos (pu_in (by omega) (by decide)), nI_clamp (by omega), nI_clamp (by omega)]
    have h65 : j_Board_pawnAttacks_65 b (1 + 8 * nI d) (tb_next (64 * (w + 1) + q)) = some (cond (nm (bd_men b) (w + 1) q (1 + 8 * nI d)) 1 0) := by
      unfold j_Board_pawnAttacks_65 nm
      rw [show tb_next (64 * (w + 1) + q) = nx (w + 1) q from rfl]
      rcases nx_cases hw16 hq with h | ⟨t, ht, h⟩
      · rw [h, if_pos (by decide)]; rfl
      · rw [h, if_neg (nI_pos (by omega)), if_pos (pu_in ht (by decide)), nI_clamp (by omega)]
        by_cases hm : bd_men b t = 1 + 8 * nI d
        · rw [if_neg (fun q => q hm), decide_eq_true ⟨nI_pos (by omega), hm⟩]; rfl
        · rw [if_pos hm, decide_eq_false (fun q => hm q.2)]; rfl
    rw [h65]
    unfold nm
    rw [show tb_next (64 * w + q) = nx w q from rfl]
    rcases nx_cases (w := w) (by omega) hq with h | ⟨t, ht, h⟩
    · rw [h, if_pos (by decide), decide_eq_false (p := ¬ (-1 : Int32) < 0 ∧ bd_men b (-1 : Int32).toNatClampNeg = 1 + 8 * nI d) (fun q => q.1 (by decide)), Bool.false_or]
    · rw [h, if_neg (nI_pos (by omega)), if_pos (pu_in ht (by decide)), nI_clamp (by omega)]
      by_cases hm : bd_men b t = 1 + 8 * nI d
      · rw [if_pos hm, decide_eq_true ⟨nI_pos (by omega), hm⟩]; rfl
      · rw [if_neg hm, decide_eq_false (p := ¬ nI t < 0 ∧ bd_men b t = 1 + 8 * nI d) (fun q => hm q.2), Bool.false_or]
  unfold f_Board_pawnAttacks
  rcases (show d = 0 ∨ d = 1 by omega) with rfl | rfl
  · rw [if_neg (by decide)]; subst hw; exact key
  · rw [if_pos (by decide)]; subst hw; exact key
theorem ra_fin : ∀ s : Fin 64, tb_RIGHTS_AT s = nI (lo s) := by decide +kernel
theorem rtc_fin : ∀ ρ a b : Fin 16, (nI ρ &&& ((nI a ||| nI b) ^^^ (-1 : Int32))) = nI (ρ.val &&& (15 - a.val) &&& (15 - b.val)) := by decide +kernel
theorem pas0 : ∀ s : Fin 48, nx 4 (s.val + 8) = nx 2 (s.val + 16) ∧ nx 5 (s.val + 8) = nx 3 (s.val + 16) := by decide +kernel
theorem pas1 : ∀ t : Fin 48, nx 6 (t.val + 8) = nx 2 t.val ∧ nx 7 (t.val + 8) = nx 3 t.val := by decide +kernel
theorem cb_212 (b : BdT) (z : Pz) (s t pr : Nat) (l : StT) (hb : bz z) (hv : vm z s t pr) (m1 : bd_men b = mm (zm z) (zc z) (zp z) s t pr) (m2 : okh b) (m3 : bd_side b = nI (zc z)) (m4 : bd_rights b = nI (zr z)) (m5 : KB (bd_kings b) (mm (zm z) (zc z) (zp z) s t pr)) (m6 : bd_depth b = nI (l.length + 1)) (m7 : HB (hi_of b) ((s, t, pr, z) :: l)) (x6 : Int32) (hx6 : x6 = 0 ↔ ¬ zm z s &&& 7 = 1) : ∃ B', j_Board_make_212 b (nI s) (nI t) x6 = some B' ∧ CB B' (mk3 s t pr z) ((s, t, pr, z) :: l) := by
  obtain ⟨⟨hs, ht, hpr, hne⟩, ho, hno, hp, hprp, hcs, hkt⟩ := hv
  obtain ⟨hm, hc2, hr⟩ := hb
  have hmid := mid1_fin ⟨s, hs⟩ ⟨t, ht⟩
  have ab := (abs_fin ⟨s, hs⟩ ⟨t, ht⟩).2
  have e1 := ra_fin ⟨s, hs⟩
  have e2 := ra_fin ⟨t, ht⟩
  have e3 := rtc_fin ⟨zr z, hr⟩ ⟨lo s, lo_fin ⟨s, hs⟩⟩ ⟨lo t, lo_fin ⟨t, ht⟩⟩
  have e4 := nI_oth ⟨zc z, hc2⟩
  simp only at hmid ab e1 e2 e3 e4
  have hgo : ∀ T : BdT, bd_men T = mm (zm z) (zc z) (zp z) s t pr → bd_held T = bd_held b → bd_kings T = bd_kings b → bd_side T = nI (1 - zc z) → bd_rights T = nI (zr z &&& (15 - lo s) &&& (15 - lo t)) → bd_passed T = mp (zm z) (mm (zm z) (zc z) (zp z) s t pr) (zc z) s t → bd_depth T = bd_depth b → hi_of T = hi_of b → CB T (mk3 s t pr z) ((s, t, pr, z) :: l) := by
    intro T t1 t2 t3 t4 t5 t6 t7 t8
    refine ⟨⟨t1, fun d hd i hi => ?_, t4, t5, t6, by show KB (bd_kings T) _; rw [t3]; exact m5⟩, t7.trans m6, by rw [t8]; exact m7⟩
    rw [t1, t2, ← m1]; exact m2 d hd i hi
  have hno' : (¬ ((zm z s &&& 7 = 1 ∧ (t = s + 16 ∨ s = t + 16)) ∧ adj (mm (zm z) (zc z) (zp z) s t pr) (zc z) t = true)) → (-1 : Int32) = mp (zm z) (mm (zm z) (zc z) (zp z) s t pr) (zc z) s t := fun h => by
    unfold mp; rw [if_neg h]
  have h0 : ∀ T : BdT, bd_men T = mm (zm z) (zc z) (zp z) s t pr → bd_held T = bd_held b → bd_kings T = bd_kings b → bd_side T = nI (1 - zc z) → bd_rights T = nI (zr z &&& (15 - lo s) &&& (15 - lo t)) → bd_depth T = bd_depth b → hi_of T = hi_of b → (¬ ((zm z s &&& 7 = 1 ∧ (t = s + 16 ∨ s = t + 16)) ∧ adj (mm (zm z) (zc z) (zp z) s t pr) (zc z) t = true)) → ∃ B', j_Board_make_272 T (nI ((s + t) / 2)) 0 = some B' ∧ CB B' (mk3 s t pr z) ((s, t, pr, z) :: l) := by
    intro T t1 t2 t3 t4 t5 t7 t8 hn
    unfold j_Board_make_272
    rw [if_pos rfl]
    exact ⟨_, rfl, hgo _ t1 t2 t3 t4 t5 (hno' hn) t7 t8⟩
  have h1 : ∀ T : BdT, bd_men T = mm (zm z) (zc z) (zp z) s t pr → bd_held T = bd_held b → bd_kings T = bd_kings b → bd_side T = nI (1 - zc z) → bd_rights T = nI (zr z &&& (15 - lo s) &&& (15 - lo t)) → bd_depth T = bd_depth b → hi_of T = hi_of b → zm z s &&& 7 = 1 → (t = s + 16 ∨ s = t + 16) → ∃ B', j_Board_make_272 T (nI ((s + t) / 2)) 1 = some B' ∧ CB B' (mk3 s t pr z) ((s, t, pr, z) :: l) := by
    intro T t1 t2 t3 t4 t5 t7 t8 hpw h16
    have hdir := (hp hpw).1
    unfold j_Board_make_272
    rw [if_neg (by decide), t4, cl_pa T (w := if 1 - zc z = 0 then 6 else 4) (show (s + t) / 2 < 64 by omega) (show 1 - zc z < 2 by omega) rfl, t1]
    have hadj : (nm (mm (zm z) (zc z) (zp z) s t pr) (if 1 - zc z = 0 then 6 else 4) ((s + t) / 2) (1 + 8 * nI (1 - zc z)) || nm (mm (zm z) (zc z) (zp z) s t pr) ((if 1 - zc z = 0 then 6 else 4) + 1) ((s + t) / 2) (1 + 8 * nI (1 - zc z))) = adj (mm (zm z) (zc z) (zp z) s t pr) (zc z) t := by
      unfold adj
      rw [Bool.or_comm]
      rcases hdir with ⟨c0, hlt⟩ | ⟨c1, hlt⟩
      · have hts : t = s + 16 := by omega
        obtain ⟨q1, q2⟩ := pas0 ⟨s, by omega⟩
        simp only at q1 q2
        rw [if_neg (by omega), show (s + t) / 2 = s + 8 by omega, nm_cg q1, nm_cg (show nx (4 + 1) (s + 8) = nx 3 (s + 16) from q2), hts]
      · have hts : s = t + 16 := by omega
        obtain ⟨q1, q2⟩ := pas1 ⟨t, by omega⟩
        simp only at q1 q2
        rw [if_pos (by omega), show (s + t) / 2 = t + 8 by omega, nm_cg q1, nm_cg (show nx (6 + 1) (t + 8) = nx 3 t from q2)]
    rw [hadj]
    simp only [Option.bind_some]
    cases ha : adj (mm (zm z) (zc z) (zp z) s t pr) (zc z) t with
    | true =>
      rw [if_neg (by decide)]
      exact ⟨_, rfl, hgo _ rfl t2 t3 rfl t5 (by unfold mp; rw [if_pos ⟨⟨hpw, h16⟩, ha⟩]) t7 t8⟩
    | false =>
      rw [if_pos (by decide)]
      exact ⟨_, rfl, hgo _ rfl t2 t3 rfl t5 (hno' (fun h => by rw [ha] at h; cases h.2)) t7 t8⟩
  unfold j_Board_make_212 j_Board_make_271
  rw [if_pos (pu_in hs (by decide)), if_pos (pu_in ht (by decide)), nI_clamp (show s < _ by omega), nI_clamp (show t < _ by omega), e1, e2, m3, m4, e3, e4, hmid]
  by_cases h6 : x6 = 0
  · rw [if_pos h6]
    exact h0 _ m1 rfl rfl rfl rfl rfl rfl (fun h => hx6.mp h6 h.1.1)
  · have hpw : zm z s &&& 7 = 1 := by
      apply Classical.byContradiction
      intro q; exact h6 (hx6.mpr q)
    rw [if_neg h6]
    by_cases h16 : t = s + 16 ∨ s = t + 16
    · rw [if_neg (fun q => q (ab.mpr h16))]
      exact h1 _ m1 rfl rfl rfl rfl rfl rfl hpw h16
    · rw [if_pos (fun q => h16 (ab.mp q))]
      exact h0 _ m1 rfl rfl rfl rfl rfl rfl (fun h => h16 h.1.2)
theorem xr8_fin : ∀ s : Fin 64, ∀ t : Fin 64, ((s.val / 8 = 4 ∧ t.val / 8 = 5) ∨ (s.val / 8 = 3 ∧ t.val / 8 = 2)) → nI t ^^^ (8 : Int32) = nI (s.val / 8 * 8 + t.val % 8) := by decide +kernel
theorem cb_make (B : BdT) (z : Pz) (l : StT) (h : CB B z l) (hl : l.length < 16) (hb : bz z) (s t pr : Nat) (hv : vm z s t pr) : ∃ B', f_Board_make (nI (s + 64 * t + 4096 * pr)) B = some B' ∧ CB B' (mk3 s t pr z) ((s, t, pr, z) :: l) := by
  obtain ⟨⟨r1, r2, r3, r4, r5, r6⟩, hd, hH⟩ := h
  obtain ⟨v1s, v2s, v3s, v4s⟩ := vc_sq hb hv
  have hv' := hv
  obtain ⟨⟨hs, ht, hpr, hne⟩, ho, hno, hp, hprp, hcs, hkt⟩ := hv'
  have hb' := hb
  obtain ⟨hm, hc2, hr⟩ := hb'
  obtain ⟨-, -, -, -, -, hcc⟩ := vm_vq hb hv
  obtain ⟨v1, v2, v3⟩ := dec_v (v := s + 64 * t + 4096 * pr) (by omega)
  rw [show (s + 64 * t + 4096 * pr) % 64 = s by omega] at v1
  rw [show (s + 64 * t + 4096 * pr) / 64 % 64 = t by omega] at v2
  rw [show (s + 64 * t + 4096 * pr) / 4096 = pr by omega] at v3
  have hK : ∀ ks : Nat → Int32, (∀ d, d < 2 → ∃ k, kng (zm z) d k ∧ ks d = nI (if k = s then t else k)) → KB ks (mm (zm z) (zc z) (zp z) s t pr) := by
    intro ks h d hd
    obtain ⟨k, h1, h2⟩ := h d hd
    exact ⟨_, kng_mk hb hv hd h1, h2⟩
  -- behind the two lifts
  have h182 : ∀ (b : BdT) (x6 x : Int32), bd_men b = upd (upd (zm z) (vc (zm z) (zp z) s t) 0) s 0 → okh b → bd_kings b = bd_kings B → bd_side b = nI (zc z) → bd_rights b = nI (zr z) → bd_depth b = nI (l.length + 1) → HB (hi_of b) ((s, t, pr, z) :: l) → (x6 = 0 ↔ ¬ zm z s &&& 7 = 1) → x = (if pr = 0 then zm z s else nI pr + 8 * nI (zc z)) → ∃ B', j_Board_make_182 b (nI s) (nI t) (zm z s) x6 (nI t) x = some B' ∧ CB B' (mk3 s t pr z) ((s, t, pr, z) :: l) := by
    intro b x6 x n1 n2 n3 n4 n5 n6 n7 hx6 hx
    have ho' := of_decide_eq_true ho
    have hxm : am_in x 16 = true ∧ ¬ x = 0 := by
      rw [hx]
      by_cases h0 : pr = 0
      · rw [if_pos h0]; exact ⟨hm s hs, ho'.1⟩
      · rw [if_neg h0]
        obtain ⟨-, q1, q2⟩ := mfp ⟨pr, by omega⟩ ⟨zc z, hc2⟩ ⟨0, by decide⟩
        exact ⟨q1, q2 h0⟩
    have hmt : bd_men b t = 0 := by
      rw [n1, upd_o _ _ (fun q => hne q.symm)]
      by_cases q : vc (zm z) (zp z) s t = t
      · rw [q, upd_s]
      · rw [upd_o _ _ (fun w => q w.symm)]; exact v3s q
    obtain ⟨a1, e1, e2⟩ := cl_put b n2 ht hxm.1 hxm.2 hmt
    have hmb : upd (bd_men b) t x = mb (zm z) (zc z) (zp z) s t pr := by unfold mb; rw [n1, hx]
    rw [hmb] at e1 e2
    unfold j_Board_make_182
    rw [e1]
    simp only [Option.bind_some]
    by_cases h6 : zm z s &&& 7 = 6
    · rw [if_neg (fun q => q h6)]
      have hmm : okm (mb (zm z) (zc z) (zp z) s t pr) := by
        rw [← hmb, n1]; exact okm_upd (okm_upd (okm_upd hm am_0) am_0) hxm.1
      rw [show bd_side (mb (zm z) (zc z) (zp z) s t pr, a1, b.2.2) = nI (zc z) from n4, if_pos (pu_in hc2 (by decide)), nI_clamp (by omega)]
      have hks : KB (upd (bd_kings b) (zc z) (nI t)) (mm (zm z) (zc z) (zp z) s t pr) := by
        apply hK
        intro d hd
        obtain ⟨k, g1, g2⟩ := r6 d hd
        refine ⟨k, g1, ?_⟩
        have ho2 := ho'.2
        by_cases hdc : d = zc z
        · have : s = k := own_king hm hc2 hs (hdc ▸ g1) ho h6
          rw [hdc, upd_s, if_pos this.symm]
        · rw [upd_o _ _ hdc, n3, g2, if_neg (fun q => ?_)]
          have g3 := g1.2.1
          rw [q] at g3
          rw [g3, (mfc ⟨0, by decide⟩ ⟨d, hd⟩).2.2.2.2.1, nI_eq (by omega) (by omega)] at ho2
          exact hdc ho2
      have hT : ∀ T : BdT, bd_men T = mb (zm z) (zc z) (zp z) s t pr → okh T → bd_kings T = upd (bd_kings b) (zc z) (nI t) → bd_side T = nI (zc z) → bd_rights T = nI (zr z) → bd_depth T = nI (l.length + 1) → hi_of T = hi_of b → ∃ B', ((f_Board_castleRook (nI s) (nI t) 1 T).bind fun bg4 => j_Board_make_212 bg4 (nI s) (nI t) x6) = some B' ∧ CB B' (mk3 s t pr z) ((s, t, pr, z) :: l) := by
        intro T t1 t2 t3 t4 t5 t6 t7
        by_cases hcd : t = s + 2 ∨ s = t + 2
        · have hcst : cst (zm z) s t := ⟨h6, hcd⟩
          obtain ⟨c1, c2, c3, c4⟩ := hcs hcst
          have hvt : vc (zm z) (zp z) s t = t := by
            unfold vc; rw [if_neg (fun q => by have := q.1.symm.trans h6; revert this; decide)]
          have hcr : ¬ crn s t = t ∧ ¬ crn s t = s ∧ ¬ (s + t) / 2 = t ∧ ¬ (s + t) / 2 = s ∧ ¬ (s + t) / 2 = crn s t := by
            unfold crn
            rcases hcd with q | q
            · rw [if_neg (by omega)]; omega
            · rw [if_pos (by omega)]; omega
          have mcr : mb (zm z) (zc z) (zp z) s t pr (crn s t) = zm z (crn s t) := by
            unfold mb; rw [hvt, upd_o _ _ hcr.1, upd_o _ _ hcr.2.1, upd_o _ _ hcr.1]
          have mmd : mb (zm z) (zc z) (zp z) s t pr ((s + t) / 2) = 0 := by
            unfold mb; rw [hvt, upd_o _ _ hcr.2.2.1, upd_o _ _ hcr.2.2.2.1, upd_o _ _ hcr.2.2.1]; exact c3
          obtain ⟨a2, e3, e4⟩ := cl_cast1 T (t1 ▸ hmm) t2 hs ht hcd (hcc hcst).1 (hcc hcst).2 (by rw [t1, mcr, c2]; exact (mfc ⟨_, hc2⟩ ⟨0, by decide⟩).2.2.2.2.2.2.1) (t1 ▸ mmd)
          have hmmE : upd (upd (mb (zm z) (zc z) (zp z) s t pr) (crn s t) 0) ((s + t) / 2) (mb (zm z) (zc z) (zp z) s t pr (crn s t)) = mm (zm z) (zc z) (zp z) s t pr := by
            unfold mm
            rw [if_pos hcst]
            funext i
            unfold upd
            by_cases q : i = crn s t
            · rw [if_pos q, if_pos q, if_neg (fun w => hcr.2.2.2.2 (w.symm.trans q))]
            · rw [if_neg q, if_neg q]
          rw [t1] at e3 e4
          rw [e3]
          simp only [Option.bind_some]
          exact cb_212 _ z s t pr l hb hv hmmE e4 t4 t5 (by show KB (bd_kings T) _; rw [t3]; exact hks) t6 (by show HB (hi_of T) _; rw [t7]; exact n7) x6 hx6
        · rw [cl_cast0 _ _ hs ht hcd]
          simp only [Option.bind_some]
          exact cb_212 T z s t pr l hb hv (by rw [t1]; unfold mm; rw [if_neg (fun q => hcd q.2)]) t2 t4 t5 (by rw [t3]; exact hks) t6 (by rw [t7]; exact n7) x6 hx6
      exact hT _ rfl e2 rfl rfl n5 n6 rfl
    · rw [if_pos h6]
      refine cb_212 _ z s t pr l hb hv (by show mb _ _ _ _ _ _ = _; unfold mm; rw [if_neg (fun q => h6 q.1)]) e2 n4 n5 ?_ n6 n7 x6 hx6
      show KB (bd_kings b) _
      apply hK
      intro d hd
      obtain ⟨k, g1, g2⟩ := r6 d hd
      refine ⟨k, g1, ?_⟩
      rw [n3, g2, if_neg (fun q => ?_)]
      apply h6
      rw [← q, g1.2.1]
      exact (mfc ⟨0, by decide⟩ ⟨d, hd⟩).2.2.2.1
  have h74 : ∀ x6 : Int32, (x6 = 0 ↔ ¬ zm z s &&& 7 = 1) → ∃ B', j_Board_make_74 B (nI (s + 64 * t + 4096 * pr)) (nI s) (nI t) (nI pr) (zm z s) x6 (nI (vc (zm z) (zp z) s t)) = some B' ∧ CB B' (mk3 s t pr z) ((s, t, pr, z) :: l) := by
    intro x6 hx6
    have hdp : am_in (nI l.length) 16 = true := pu_in hl (by decide)
    unfold j_Board_make_74
    rw [hd, if_pos hdp, if_pos (pu_in v2s (by decide)), if_pos hdp, if_pos hdp, if_pos hdp, if_pos hdp, nI_clamp (show l.length < _ by omega), nI_clamp (show vc (zm z) (zp z) s t < _ by omega), r1, r4, r5, nI_1]
    obtain ⟨a1, e1, e2⟩ := cl_lift (zm z, bd_held B, bd_kings B, bd_side B, nI (zr z), zp z, nI (l.length + 1), upd (bd_made B) l.length (nI (s + 64 * t + 4096 * pr)), upd (bd_taken B) l.length (zm z (vc (zm z) (zp z) s t)), upd (bd_takenAt B) l.length (nI (vc (zm z) (zp z) s t)), upd (bd_rightsBefore B) l.length (nI (zr z)), upd (bd_passedBefore B) l.length (zp z)) hm (fun d hd i hi => by have := r2 d hd i hi; rw [r1] at this; exact this) v2s
    rw [e1]
    simp only [Option.bind_some]
    obtain ⟨a2, e3, e4⟩ := cl_lift _ (okm_upd hm am_0) e2 hs
    rw [e3]
    simp only [Option.bind_some]
    have hHB : HB (upd (bd_made B) l.length (nI (s + 64 * t + 4096 * pr)), upd (bd_taken B) l.length (zm z (vc (zm z) (zp z) s t)), upd (bd_takenAt B) l.length (nI (vc (zm z) (zp z) s t)), upd (bd_rightsBefore B) l.length (nI (zr z)), upd (bd_passedBefore B) l.length (zp z)) ((s, t, pr, z) :: l) :=
      ⟨⟨upd_s _ _ _, upd_s _ _ _, upd_s _ _ _, upd_s _ _ _, upd_s _ _ _⟩, hb_congr l (fun j hj => ⟨upd_o _ _ (by omega), upd_o _ _ (by omega), upd_o _ _ (by omega), upd_o _ _ (by omega), upd_o _ _ (by omega)⟩) hH⟩
    by_cases h0 : pr = 0
    · rw [if_neg (fun q => q (by rw [h0]; decide))]
      exact h182 _ x6 _ rfl e4 rfl r3 rfl rfl hHB hx6 (by rw [if_pos h0])
    · rw [if_pos (nI_ne0 (by omega) (by omega))]
      exact h182 _ x6 _ rfl e4 rfl r3 rfl rfl hHB hx6 (by rw [if_neg h0]; show nI pr + 8 * bd_side B = _; rw [r3])
  have h51 : ∀ x6 : Int32, (x6 = 0 ↔ ¬ zm z s &&& 7 = 1) → ∃ B', j_Board_make_51 B (nI (s + 64 * t + 4096 * pr)) (nI s) (nI t) (nI pr) (zm z s) x6 = some B' ∧ CB B' (mk3 s t pr z) ((s, t, pr, z) :: l) := by
    intro x6 hx6
    have k := h74 x6 hx6
    unfold j_Board_make_51 j_Board_make_73
    rw [r5]
    unfold vc at k
    by_cases h0 : x6 = 0
    · rw [if_pos h0]
      rw [if_neg (fun q => hx6.mp h0 q.1)] at k
      exact k
    · have hpw : zm z s &&& 7 = 1 := by
        apply Classical.byContradiction
        intro q; exact h0 (hx6.mpr q)
      rw [if_neg h0]
      by_cases hpp : nI t = zp z
      · rw [if_neg (fun q => q hpp)]
        have hrk := ((hp hpw).2 hpp.symm).2.2
        rw [xr8_fin ⟨s, hs⟩ ⟨t, ht⟩ hrk]
        rw [if_pos ⟨hpw, hpp.symm⟩] at k
        exact k
      · rw [if_pos hpp]
        rw [if_neg (fun q => hpp q.2.symm)] at k
        exact k
  unfold f_Board_make
  rw [hd, if_pos (show nI l.length < 16 from nI_lt hl (by decide)), v1, v2, v3, if_pos (pu_in hs (by decide)), nI_clamp (show s < _ by omega), r1]
  by_cases hpw : zm z s &&& 7 = 1
  · rw [if_neg (fun q => q hpw)]
    exact h51 1 ⟨fun h => absurd h (by decide), fun h => absurd hpw h⟩
  · rw [if_pos hpw]
    exact h51 0 ⟨fun _ => hpw, fun _ => rfl⟩
