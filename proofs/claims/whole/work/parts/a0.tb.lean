/-! THE REFERENCE TAKES A MOVE BACK; WHAT IS LEGAL -/
theorem rf_62 (Q : PoT) (U : UnT) (z : Pz) (s t far : Nat) (hfar : far < 11) (hs : s < 64) (ht : t < 64) (hvl : vc (zm z) (zp z) s t < 64) (hU : ufr U far z s t) (hside : po_side Q = nI (zc z)) (hm : upd (upd (upd (po_men Q) t 0) (vc (zm z) (zp z) s t) (zm z (vc (zm z) (zp z) s t))) s (zm z s) = zm z) : ∃ Q', j_M_takeBack_62 Q U (nI far) (nI s) (nI t) = some Q' ∧ RQ Q' z := by
  obtain ⟨u1, u2, u3, u4, u5⟩ := hU
  have hf : am_in (nI far) 11 = true := pu_in hfar (by decide)
  unfold j_M_takeBack_62
  rw [if_pos (pu_in ht (by decide)), if_pos hf, if_pos hf, nI_clamp (show far < _ by omega), u1, u2, u3, u4, u5, if_pos (pu_in hvl (by decide)), if_pos hf, if_pos (pu_in hs (by decide)), if_pos hf, if_pos hf, if_pos hf, nI_clamp (show t < _ by omega), nI_clamp (show s < _ by omega), nI_clamp (show vc (zm z) (zp z) s t < _ by omega), hm]
  exact ⟨_, rfl, rfl, hside, rfl, rfl⟩
theorem rf_back (Q : PoT) (U : UnT) (z : Pz) (s t pr far : Nat) (hfar : far < 11) (hQ : RQ Q (mk3 s t pr z)) (hU : ufr U far z s t) (hb : bz z) (hv : vm z s t pr) : ∃ Q', f_M_takeBack (nI (s + 64 * t + 4096 * pr)) (nI far) Q U = some Q' ∧ RQ Q' z := by
  obtain ⟨q1, q2, q3, q4⟩ := hQ
  obtain ⟨v1s, v2s, v3s, v4s⟩ := vc_sq hb hv
  have hv' := hv
  obtain ⟨⟨hs, ht, hpr, hne⟩, ho, hno, hp, hprp, hcs, hkt⟩ := hv'
  have hb' := hb
  obtain ⟨hm, hc2, hr⟩ := hb'
  obtain ⟨-, -, -, -, -, hcc⟩ := vm_vq hb hv
  obtain ⟨v1, v2, v3⟩ := dec_v (v := s + 64 * t + 4096 * pr) (by omega)
  rw [show (s + 64 * t + 4096 * pr) % 64 = s by omega] at v1
  rw [show (s + 64 * t + 4096 * pr) / 64 % 64 = t by omega] at v2
  have d1 := (dif_fin ⟨s, hs⟩ ⟨t, ht⟩).1
  have d2 := (dif_fin ⟨t, ht⟩ ⟨s, hs⟩).1
  simp only at d1 d2
  have q1' : po_men Q = mm (zm z) (zc z) (zp z) s t pr := q1
  have hat := fun i => mm_at hb hv (pr := pr) i
  have hside : (1 : Int32) - po_side Q = nI (zc z) := by
    rw [show po_side Q = nI (1 - zc z) from q2]
    have := nI_oth ⟨1 - zc z, by omega⟩
    simp only at this
    rw [this]; congr 1; omega
  have hplain : ¬ cst (zm z) s t → upd (upd (upd (mm (zm z) (zc z) (zp z) s t pr) t 0) (vc (zm z) (zp z) s t) (zm z (vc (zm z) (zp z) s t))) s (zm z s) = zm z := by
    intro hc
    funext i
    by_cases e1 : i = s
    · rw [e1, upd_s]
    · rw [upd_o _ _ e1]
      by_cases e2 : i = vc (zm z) (zp z) s t
      · rw [e2, upd_s]
      · rw [upd_o _ _ e2]
        by_cases e3 : i = t
        · rw [e3, upd_s, v3s (fun w => e2 (e3.trans w.symm))]
        · rw [upd_o _ _ e3, hat, if_neg e3, if_neg (fun q => by rcases q with q | q; exact e1 q; exact e2 q), if_neg (fun q => hc q.1), if_neg (fun q => hc q.1)]
  have hcas : cst (zm z) s t → ∃ Q', j_M_takeBack_54 (po_men Q, (1 : Int32) - po_side Q, po_rights Q, po_passed Q, po_clock Q) U (nI far) (nI s) (nI t) = some Q' ∧ RQ Q' z := by
    intro hcst
    obtain ⟨c1, c2, c3, c4⟩ := hcs hcst
    have hvt : vc (zm z) (zp z) s t = t := by
      unfold vc; rw [if_neg (fun q => by have := q.1.symm.trans hcst.1; revert this; decide)]
    have hcr : ¬ crn s t = t ∧ ¬ crn s t = s ∧ ¬ (s + t) / 2 = t ∧ ¬ (s + t) / 2 = s ∧ ¬ (s + t) / 2 = crn s t := by
      unfold crn
      rcases hcst.2 with q | q
      · rw [if_neg (by omega)]; omega
      · rw [if_pos (by omega)]; omega
    unfold j_M_takeBack_54
    rw [(pu_mcast _ s t hs ht (hcc hcst).1 (hcc hcst).2).2]
    simp only [Option.bind_some]
    refine rf_62 _ U z s t far hfar hs ht v2s hU hside ?_
    show upd (upd (upd (upd (upd (po_men Q) (crn s t) (po_men Q ((s + t) / 2))) ((s + t) / 2) 0) t 0) _ _) s (zm z s) = zm z
    rw [hvt, c4, q1']
    have f1 : mm (zm z) (zc z) (zp z) s t pr ((s + t) / 2) = zm z (crn s t) := by
      rw [hat, if_neg hcr.2.2.1, if_neg (fun q => by rcases q with q | q; exact hcr.2.2.2.1 q; rw [hvt] at q; exact hcr.2.2.1 q), if_pos ⟨hcst, rfl⟩]
    rw [f1]
    funext i
    by_cases e1 : i = s
    · rw [e1, upd_s]
    · rw [upd_o _ _ e1]
      by_cases e2 : i = t
      · rw [e2, upd_s, c4]
      · rw [upd_o _ _ e2, upd_o _ _ e2]
        by_cases e3 : i = (s + t) / 2
        · rw [e3, upd_s, c3]
        · rw [upd_o _ _ e3]
          by_cases e4 : i = crn s t
          · rw [e4, upd_s]
          · rw [upd_o _ _ e4, hat, if_neg e2, hvt, if_neg (fun q => by rcases q with q | q; exact e1 q; exact e2 q), if_neg (fun q => e3 q.2), if_neg (fun q => e4 q.2)]
  have hpl : ¬ cst (zm z) s t → ∃ Q', j_M_takeBack_62 (po_men Q, (1 : Int32) - po_side Q, po_rights Q, po_passed Q, po_clock Q) U (nI far) (nI s) (nI t) = some Q' ∧ RQ Q' z := fun hc =>
    rf_62 _ U z s t far hfar hs ht v2s hU hside (by show upd (upd (upd (po_men Q) t 0) _ _) s (zm z s) = zm z; rw [q1']; exact hplain hc)
  unfold f_M_takeBack f_M_kind
  rw [if_pos (pu_in hfar (by decide)), nI_clamp (show far < _ by omega), v1, v2, hU.1]
  simp only [Option.bind_some]
  by_cases h6 : zm z s &&& 7 = 6
  · rw [if_neg (fun q => q h6)]
    by_cases e1 : t = s + 2
    · rw [if_pos (d1.mpr e1)]; exact hcas ⟨h6, Or.inl e1⟩
    · rw [if_neg (fun q => e1 (d1.mp q))]
      by_cases e2 : s = t + 2
      · rw [if_neg (fun q => q (d2.mpr e2))]; exact hcas ⟨h6, Or.inr e2⟩
      · rw [if_pos (fun q => e2 (d2.mp q))]; exact hpl (fun q => by rcases q.2 with q | q; exact e1 q; exact e2 q)
  · rw [if_pos h6]; exact hpl (fun q => h6 q.1)
/-- where the king stands -/
def kfd (m : Nat → Int32) (d : Nat) : Nat → Nat
  | 0 => 0
  | n + 1 => if m n = 6 + 8 * nI d then n else kfd m d n
def ksq (m : Nat → Int32) (d : Nat) : Nat := kfd m d 64
theorem ksq_eq {m : Nat → Int32} {d k : Nat} (h : kng m d k) : ksq m d = k := by
  obtain ⟨h1, h2, h3⟩ := h
  have : ∀ n, k < n → n ≤ 64 → kfd m d n = k := by
    intro n
    induction n with
    | zero => intro h; omega
    | succ n ih =>
      intro a b
      unfold kfd
      by_cases e : m n = 6 + 8 * nI d
      · rw [if_pos e, h3 n (by omega) e]
      · rw [if_neg e]
        exact ih (by have : ¬ k = n := fun q => e (q ▸ h2); omega) (by omega)
  exact this 64 h1 (Nat.le_refl _)
theorem okz_k {z : Pz} (h : okz z) {d : Nat} (hd : d < 2) : kng (zm z) d (ksq (zm z) d) := by
  obtain ⟨k, hk⟩ := h d hd
  rw [ksq_eq hk]; exact hk
/-- that side is in check -/
def chk (m : Nat → Int32) (d : Nat) : Bool := att m (1 - d) (ksq m d)
/-- the side that moves does not stand in check behind the move -/
def lg (z : Pz) (s t pr : Nat) : Bool := !chk (mm (zm z) (zc z) (zp z) s t pr) (zc z)
theorem okz_mk {z : Pz} {s t pr : Nat} (hb : bz z) (hkz : okz z) (hv : vm z s t pr) : okz (mk3 s t pr z) := by
  intro d hd
  obtain ⟨k, hk⟩ := hkz d hd
  exact ⟨_, kng_mk hb hv hd hk⟩
theorem bz_mk {z : Pz} {s t pr : Nat} (hb : bz z) (hv : vm z s t pr) : bz (mk3 s t pr z) :=
  ⟨okm_mm hb hv, by show 1 - zc z < 2; omega, by
    show mr (zr z) s t < 16
    unfold mr
    exact Nat.lt_of_le_of_lt (Nat.and_le_left) (Nat.lt_of_le_of_lt (Nat.and_le_left) hb.2.2)⟩
theorem rf_chk (fu : Nat) (hfu : 64 < fu) (Q : PoT) (z : Pz) (hQ : RQ Q z) (hb : bz z) (hkz : okz z) (d : Nat) (hd : d < 2) : f_M_inCheck fu (nI d) Q = some (cond (chk (zm z) d) 1 0) := by
  rw [pu_mCheck fu hfu Q (by rw [hQ.1]; exact hb.1) d (ksq (zm z) d) hd (by rw [hQ.1]; exact okz_k hkz hd), hQ.1]
  rfl
theorem rf_legal (fu : Nat) (hfu : 64 < fu) (Q : PoT) (U : UnT) (z : Pz) (s t pr : Nat) (hQ : RQ Q z) (hb : bz z) (hkz : okz z) (hv : vm z s t pr) : ∃ Q' U', f_M_isLegal fu (nI (s + 64 * t + 4096 * pr)) Q U = some (cond (lg z s t pr) 1 0, Q', U') ∧ RQ Q' z ∧ ∀ j, ¬ j = 10 → usm U U' j := by
  obtain ⟨Q1, U1, e1, e2, e3, e4⟩ := rf_make Q U z hQ s t pr 10 (by decide) (vm_vq hb hv)
  unfold f_M_isLegal
  rw [show (10 : Int32) = nI 10 from rfl, e1]
  simp only [Option.bind_some]
  have hs1 : (1 : Int32) - po_side Q1 = nI (zc z) := by
    rw [show po_side Q1 = nI (1 - zc z) from e2.2.1]
    have := nI_oth ⟨1 - zc z, by omega⟩
    simp only at this
    have := hb.2.1
    rw [‹(1 : Int32) - nI (1 - zc z) = _›]; congr 1; omega
  rw [hs1, rf_chk fu hfu Q1 _ e2 (bz_mk hb hv) (okz_mk hb hkz hv) (zc z) hb.2.1]
  simp only [Option.bind_some]
  obtain ⟨Q2, e5, e6⟩ := rf_back Q1 U1 z s t pr 10 (by decide) e2 e3 hb hv
  unfold j_M_isLegal_25 lg
  rw [show (10 : Int32) = nI 10 from rfl, e5]
  simp only [Option.bind_some]
  show ∃ Q' U', (if ¬ cond (chk (mm (zm z) (zc z) (zp z) s t pr) (zc z)) (1 : Int32) 0 = 0 then _ else _) = _ ∧ _
  cases chk (mm (zm z) (zc z) (zp z) s t pr) (zc z) with
  | true => rw [if_pos (by decide)]; exact ⟨Q2, U1, rfl, e6, e4⟩
  | false => rw [if_neg (by decide)]; exact ⟨Q2, U1, rfl, e6, e4⟩
theorem cb_legal (fu : Nat) (hfu : 64 < fu) (B : BdT) (z : Pz) (l : StT) (hC : CB B z l) (hb : bz z) (hkz : okz z) : f_Board_isLegal fu B = some (cond (chk (zm z) (1 - zc z)) 0 1) := by
  obtain ⟨⟨r1, r2, r3, r4, r5, r6⟩, -, -⟩ := hC
  have hc2 := hb.2.1
  obtain ⟨k, g1, g2⟩ := r6 (1 - zc z) (by omega)
  rw [pu_isLegal fu hfu B (by rw [r1]; exact hb.1) (zc z) k hc2 r3 g2 g1.1, r1]
  unfold chk
  rw [ksq_eq g1, show 1 - (1 - zc z) = zc z by omega]
theorem cb_check (fu : Nat) (hfu : 64 < fu) (B : BdT) (z : Pz) (l : StT) (hC : CB B z l) (hb : bz z) (hkz : okz z) : f_Board_inCheck fu B = some (cond (chk (zm z) (zc z)) 1 0) := by
  obtain ⟨⟨r1, r2, r3, r4, r5, r6⟩, -, -⟩ := hC
  have hc2 := hb.2.1
  obtain ⟨k, g1, g2⟩ := r6 (zc z) (by omega)
  rw [pu_bCheck fu hfu B (by rw [r1]; exact hb.1) (zc z) k hc2 r3 g2 g1.1, r1]
  unfold chk
  rw [ksq_eq g1]
/-- the class tries a move: it is legal or not, and it is taken back -/
theorem cb_try (fu : Nat) (hfu : 64 < fu) (B : BdT) (z : Pz) (l : StT) (hC : CB B z l) (hl : l.length < 16) (hb : bz z) (hkz : okz z) (s t pr : Nat) (hv : vm z s t pr) : ∃ B1, f_Board_make (nI (s + 64 * t + 4096 * pr)) B = some B1 ∧ CB B1 (mk3 s t pr z) ((s, t, pr, z) :: l) ∧ f_Board_isLegal fu B1 = some (cond (lg z s t pr) 1 0) := by
  obtain ⟨B1, e1, e2⟩ := cb_make B z l hC hl hb s t pr hv
  refine ⟨B1, e1, e2, ?_⟩
  rw [cb_legal fu hfu B1 _ _ e2 (bz_mk hb hv) (okz_mk hb hkz hv)]
  unfold lg
  have hc2 := hb.2.1
  rw [show 1 - zc (mk3 s t pr z) = zc z from by show 1 - (1 - zc z) = _; omega]
  show some (cond (chk (mm (zm z) (zc z) (zp z) s t pr) (zc z)) 0 1) = _
  cases chk (mm (zm z) (zc z) (zp z) s t pr) (zc z) <;> rfl
