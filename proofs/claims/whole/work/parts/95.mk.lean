/-! A MOVE IS MADE: what it should come to -/
/-- a position: men, side, rights, passed square -/
abbrev Pz : Type := (Nat → Int32) × Nat × Nat × Int32
abbrev zm (z : Pz) : Nat → Int32 := z.1
abbrev zc (z : Pz) : Nat := z.2.1
abbrev zr (z : Pz) : Nat := z.2.2.1
abbrev zp (z : Pz) : Int32 := z.2.2.2
def vc (m : Nat → Int32) (p : Int32) (s t : Nat) : Nat := if m s &&& 7 = 1 ∧ p = nI t then s / 8 * 8 + t % 8 else t
def mb (m : Nat → Int32) (c : Nat) (p : Int32) (s t pr : Nat) : Nat → Int32 := upd (upd (upd m (vc m p s t) 0) s 0) t (if pr = 0 then m s else nI pr + 8 * nI c)
def crn (s t : Nat) : Nat := if t ≤ s then s - 4 else s + 3
abbrev cst (m : Nat → Int32) (s t : Nat) : Prop := m s &&& 7 = 6 ∧ (t = s + 2 ∨ s = t + 2)
def mm (m : Nat → Int32) (c : Nat) (p : Int32) (s t pr : Nat) : Nat → Int32 := if m s &&& 7 = 6 ∧ (t = s + 2 ∨ s = t + 2) then upd (upd (mb m c p s t pr) ((s + t) / 2) (mb m c p s t pr (crn s t))) (crn s t) 0 else mb m c p s t pr
def adj (m : Nat → Int32) (c t : Nat) : Bool := nm m 3 t (1 + 8 * nI (1 - c)) || nm m 2 t (1 + 8 * nI (1 - c))
def lo (s : Nat) : Nat := if s = 0 then 2 else if s = 4 then 3 else if s = 7 then 1 else if s = 56 then 8 else if s = 60 then 12 else if s = 63 then 4 else 0
def mr (ρ s t : Nat) : Nat := ρ &&& (15 - lo s) &&& (15 - lo t)
def mp (m m' : Nat → Int32) (c s t : Nat) : Int32 := if (m s &&& 7 = 1 ∧ (t = s + 16 ∨ s = t + 16)) ∧ adj m' c t = true then nI ((s + t) / 2) else -1
def mk3 (s t pr : Nat) (z : Pz) : Pz := (mm (zm z) (zc z) (zp z) s t pr, 1 - zc z, mr (zr z) s t, mp (zm z) (mm (zm z) (zc z) (zp z) s t pr) (zc z) s t)
def mk (v : Nat) (z : Pz) : Pz := mk3 (v % 64) (v / 64 % 64) (v / 4096) z
/-- the reference stands at that position -/
def RQ (Q : PoT) (z : Pz) : Prop := po_men Q = zm z ∧ po_side Q = nI (zc z) ∧ po_rights Q = nI (zr z) ∧ po_passed Q = zp z
theorem dec_v {v : Nat} (h : v < 32768) : nI v &&& 63 = nI (v % 64) ∧ (nI v >>> ((6 : Int32) &&& 31)) &&& 63 = nI (v / 64 % 64) ∧ nI v >>> ((12 : Int32) &&& 31) = nI (v / 4096) := by
  refine ⟨pk_andN (n := v) (by omega) 6 (by decide), ?_, ?_⟩
  · rw [pk_shrN (n := v) (by omega) ((6 : Int32) &&& 31) 6 (by decide)]
    exact pk_andN (n := v / 2 ^ 6) (by omega) 6 (by decide)
  · exact pk_shrN (n := v) (by omega) ((12 : Int32) &&& 31) 12 (by decide)
theorem vic_fin : ∀ s : Fin 64, ∀ t : Fin 64, (nI s &&& (56 : Int32)) + (nI t &&& (7 : Int32)) = nI (s.val / 8 * 8 + t.val % 8) := by decide +kernel
theorem lost_fin : ∀ s : Fin 64, f_M_lost (nI s) = some (nI (lo s)) := by decide +kernel
theorem mid_fin : ∀ s : Fin 64, ∀ t : Fin 64, (nI s + nI t) / (2 : Int32) = nI ((s.val + t.val) / 2) := by decide +kernel
theorem rts_fin : ∀ ρ a b : Fin 16, ((nI ρ &&& (nI a ^^^ (-1 : Int32))) &&& (nI b ^^^ (-1 : Int32))) = nI (ρ.val &&& (15 - a.val) &&& (15 - b.val)) := by decide +kernel
theorem lo_fin : ∀ s : Fin 64, lo s < 16 := by decide +kernel
theorem dif_fin : ∀ s : Fin 64, ∀ t : Fin 64, (nI t - nI s = 2 ↔ t.val = s.val + 2) ∧ (nI t - nI s = 16 ↔ t.val = s.val + 16) := by decide +kernel
theorem pu_has2 (Q : PoT) (c : Nat) {t : Nat} (ht : t < 64) : (f_M_step (nI t) (-1 : Int32) (0 : Int32) = some (nx 3 t)) ∧ (f_M_step (nI t) (1 : Int32) (0 : Int32) = some (nx 2 t)) :=
  ⟨pu_step (w := 3) (by decide) ht, pu_step (w := 2) (by decide) ht⟩
/-- what the reference notes of a move -/
def ufr (U : UnT) (far : Nat) (z : Pz) (s t : Nat) : Prop := un_undoMan U far = zm z s ∧ un_undoTaken U far = zm z (vc (zm z) (zp z) s t) ∧ un_undoWhere U far = nI (vc (zm z) (zp z) s t) ∧ un_undoRights U far = nI (zr z) ∧ un_undoPassed U far = zp z
/-- the notes are the same but at one place -/
def usm (U U' : UnT) (j : Nat) : Prop := un_undoMan U' j = un_undoMan U j ∧ un_undoTaken U' j = un_undoTaken U j ∧ un_undoWhere U' j = un_undoWhere U j ∧ un_undoRights U' j = un_undoRights U j ∧ un_undoPassed U' j = un_undoPassed U j
theorem upd_s (f : Nat → Int32) (k : Nat) (x : Int32) : upd f k x k = x := if_pos rfl
theorem upd_o (f : Nat → Int32) {k j : Nat} (x : Int32) (h : ¬ j = k) : upd f k x j = f j := if_neg h
theorem ufr_new (U : UnT) (far : Nat) (z : Pz) (s t : Nat) (ck : Int32) : ufr (upd (un_undoMan U) far (zm z s), upd (un_undoTaken U) far (zm z (vc (zm z) (zp z) s t)), upd (un_undoWhere U) far (nI (vc (zm z) (zp z) s t)), upd (un_undoRights U) far (nI (zr z)), upd (un_undoPassed U) far (zp z), upd (un_undoClock U) far ck) far z s t :=
  ⟨upd_s _ _ _, upd_s _ _ _, upd_s _ _ _, upd_s _ _ _, upd_s _ _ _⟩
theorem vc_lt {m : Nat → Int32} {p : Int32} {s t : Nat} (hs : s < 64) (ht : t < 64) : vc m p s t < 64 := by
  unfold vc
  split <;> omega
theorem pu_mcast (Q : PoT) (s t : Nat) (hs : s < 64) (ht : t < 64) (hc : crn s t < 64) (hge : t ≤ s → 4 ≤ s) : f_M_castleRook (nI s) (nI t) 0 Q = some (upd (upd (po_men Q) ((s + t) / 2) (po_men Q (crn s t))) (crn s t) 0, po_side Q, po_rights Q, po_passed Q, po_clock Q) ∧ f_M_castleRook (nI s) (nI t) 1 Q = some (upd (upd (po_men Q) (crn s t) (po_men Q ((s + t) / 2))) ((s + t) / 2) 0, po_side Q, po_rights Q, po_passed Q, po_clock Q) := by
  have hcr : (if nI t ≤ nI s then (nI s - (4 : Int32)) else (nI s + (3 : Int32))) = nI (crn s t) := by
    unfold crn
    by_cases h : t ≤ s
    · rw [if_pos (nI_le h (by omega)), if_pos h]; exact nI_sub (hge h)
    · rw [if_neg (nI_ge (by omega) (by omega)), if_neg h]; exact nI_add s 3
  have e14 : ∀ x3 : Int32, f_M_castleRook (nI s) (nI t) x3 Q = j_M_castleRook_14 Q (nI s) (nI t) x3 (nI (crn s t)) := by
    intro x3
    unfold f_M_castleRook
    by_cases h : nI t ≤ nI s
    · rw [if_pos h] at hcr ⊢; rw [hcr]
    · rw [if_neg h] at hcr ⊢; rw [hcr]
  rw [e14 0, e14 1]
  have hmid := mid_fin ⟨s, hs⟩ ⟨t, ht⟩
  simp only at hmid
  have hc' : am_in (nI (crn s t)) 64 = true := pu_in hc (by decide)
  have hm' : am_in (nI ((s + t) / 2)) 64 = true := pu_in (by omega) (by decide)
  unfold j_M_castleRook_14 j_M_castleRook_38 j_M_castleRook_53
  constructor
  · rw [hmid, if_pos rfl, if_pos rfl, if_pos hc', if_pos hm', if_pos rfl, if_pos hc', nI_clamp (show crn s t < _ by omega), nI_clamp (show (s + t) / 2 < _ by omega)]
  · rw [hmid, if_neg (by decide), if_neg (by decide), if_pos hm', if_pos hc', if_neg (by decide), if_pos hm', nI_clamp (show crn s t < _ by omega), nI_clamp (show (s + t) / 2 < _ by omega)]
/-- what a move's numbers must keep to -/
def vq (z : Pz) (s t pr : Nat) : Prop := s < 64 ∧ t < 64 ∧ pr ≤ 5 ∧ zc z < 2 ∧ zr z < 16 ∧ (cst (zm z) s t → crn s t < 64 ∧ (t ≤ s → 4 ≤ s))
theorem rf_239 (Q : PoT) (U : UnT) (z : Pz) (s t pr : Nat) (hv : vq z s t pr) (hQ1 : po_men Q = mm (zm z) (zc z) (zp z) s t pr) (hQ2 : po_side Q = nI (zc z)) (hQ3 : po_rights Q = nI (zr z)) (x7 : Int32) (hx7 : x7 = 0 ↔ ¬ zm z s &&& 7 = 1) : ∃ Q', j_M_make_239 Q U (nI s) (nI t) x7 = some (Q', U) ∧ RQ Q' (mk3 s t pr z) := by
  obtain ⟨hs, ht, hpr, hc, hr, _⟩ := hv
  have hmid := mid_fin ⟨s, hs⟩ ⟨t, ht⟩
  have d1 := (dif_fin ⟨s, hs⟩ ⟨t, ht⟩).2
  have d2 := (dif_fin ⟨t, ht⟩ ⟨s, hs⟩).2
  simp only at hmid d1 d2
  unfold j_M_make_239 j_M_make_349
  rw [lost_fin ⟨s, hs⟩, lost_fin ⟨t, ht⟩]
  simp only [Option.bind_some]
  rw [hQ1, hQ2, hQ3, rts_fin ⟨zr z, hr⟩ ⟨lo s, lo_fin ⟨s, hs⟩⟩ ⟨lo t, lo_fin ⟨t, ht⟩⟩]
  simp only
  have hno : (¬ ((zm z s &&& 7 = 1 ∧ (t = s + 16 ∨ s = t + 16)) ∧ adj (mm (zm z) (zc z) (zp z) s t pr) (zc z) t = true)) → RQ (mm (zm z) (zc z) (zp z) s t pr, (1 : Int32) - nI (zc z), nI (zr z &&& (15 - lo s) &&& (15 - lo t)), (-1 : Int32), po_clock Q) (mk3 s t pr z) := fun h =>
    ⟨rfl, nI_oth ⟨zc z, hc⟩, rfl, by show (-1 : Int32) = mp _ _ _ _ _; unfold mp; rw [if_neg h]⟩
  by_cases h7 : x7 = 0
  · rw [if_pos h7]
    exact ⟨_, rfl, hno (fun h => hx7.mp h7 h.1.1)⟩
  · have hp : zm z s &&& 7 = 1 := by
      apply Classical.byContradiction
      intro h; exact h7 (hx7.mpr h)
    rw [if_neg h7]
    have h290 : (t = s + 16 ∨ s = t + 16) → ∃ Q', j_M_make_290 (mm (zm z) (zc z) (zp z) s t pr, nI (zc z), nI (zr z &&& (15 - lo s) &&& (15 - lo t)), (-1 : Int32), po_clock Q) U (nI s) (nI t) = some (Q', U) ∧ RQ Q' (mk3 s t pr z) := by
      intro hd
      unfold j_M_make_290 j_M_make_336 j_M_make_346 j_M_make_349
      obtain ⟨p1, p2⟩ := pu_has2 Q (zc z) ht
      rw [p1, p2]
      simp only [Option.bind_some]
      rw [pu_has _ (w := 3) (by decide) ht, pu_has _ (w := 2) (by decide) ht, nI_oth ⟨zc z, hc⟩, hmid]
      simp only [Option.bind_some]
      have hyes : adj (mm (zm z) (zc z) (zp z) s t pr) (zc z) t = true → RQ (mm (zm z) (zc z) (zp z) s t pr, nI (1 - zc z), nI (zr z &&& (15 - lo s) &&& (15 - lo t)), nI ((s + t) / 2), po_clock Q) (mk3 s t pr z) := fun h =>
        ⟨rfl, rfl, rfl, by show nI ((s + t) / 2) = mp _ _ _ _ _; unfold mp; rw [if_pos ⟨⟨hp, hd⟩, h⟩]⟩
      have hno' := hno
      rw [nI_oth ⟨zc z, hc⟩] at hno'
      cases h3 : nm (mm (zm z) (zc z) (zp z) s t pr) 3 t (1 + 8 * nI (1 - zc z)) with
      | true =>
        refine ⟨_, by rw [if_pos (by decide)], hyes ?_⟩
        unfold adj; rw [h3]; rfl
      | false =>
        rw [if_neg (by decide)]
        cases h2 : nm (mm (zm z) (zc z) (zp z) s t pr) 2 t (1 + 8 * nI (1 - zc z)) with
        | true =>
          refine ⟨_, by rw [if_neg (by decide)], hyes ?_⟩
          unfold adj; rw [h2, Bool.or_true]
        | false =>
          refine ⟨_, by rw [if_pos (by decide)], hno' (fun h => ?_)⟩
          have := h.2
          unfold adj at this
          rw [h3, h2] at this
          cases this
    by_cases hd1 : t = s + 16
    · rw [if_pos (d1.mpr hd1)]
      exact h290 (Or.inl hd1)
    · rw [if_neg (fun h => hd1 (d1.mp h))]
      by_cases hd2 : s = t + 16
      · rw [if_neg (fun h => h (d2.mpr hd2))]
        exact h290 (Or.inr hd2)
      · rw [if_pos (fun h => hd2 (d2.mp h))]
        exact ⟨_, rfl, hno (fun h => by rcases h.1.2 with h | h; exact hd1 h; exact hd2 h)⟩
theorem rf_make (Q : PoT) (U : UnT) (z : Pz) (hQ : RQ Q z) (s t pr far : Nat) (hfar : far < 11) (hv : vq z s t pr) : ∃ Q' U', f_M_make (nI (s + 64 * t + 4096 * pr)) (nI far) Q U = some (Q', U') ∧ RQ Q' (mk3 s t pr z) ∧ ufr U' far z s t ∧ ∀ j, ¬ j = far → usm U U' j := by
  obtain ⟨q1, q2, q3, q4⟩ := hQ
  obtain ⟨hs, ht, hpr, hc, hr, hcs⟩ := hv
  have hv : vq z s t pr := ⟨hs, ht, hpr, hc, hr, hcs⟩
  obtain ⟨v1, v2, v3⟩ := dec_v (v := s + 64 * t + 4096 * pr) (by omega)
  rw [show (s + 64 * t + 4096 * pr) % 64 = s by omega] at v1
  rw [show (s + 64 * t + 4096 * pr) / 64 % 64 = t by omega] at v2
  rw [show (s + 64 * t + 4096 * pr) / 4096 = pr by omega] at v3
  have d1 := (dif_fin ⟨s, hs⟩ ⟨t, ht⟩).1
  have d2 := (dif_fin ⟨t, ht⟩ ⟨s, hs⟩).1
  simp only at d1 d2
  have hvl := vc_lt (m := zm z) (p := zp z) hs ht
  unfold f_M_make f_M_kind
  rw [v1, v2, v3, if_pos (pu_in hs (by decide)), nI_clamp (show s < _ by omega), q1]
  simp only [Option.bind_some]
  -- behind the notes
  have h204 : ∀ (Q0 : PoT) (U' : UnT) (x7 : Int32) (x : Int32), po_men Q0 = upd (upd (zm z) (vc (zm z) (zp z) s t) 0) s 0 → po_side Q0 = nI (zc z) → po_rights Q0 = nI (zr z) → (x7 = 0 ↔ ¬ zm z s &&& 7 = 1) → x = (if pr = 0 then zm z s else nI pr + 8 * nI (zc z)) → ∃ Q', j_M_make_204 Q0 U' (nI s) (nI t) (zm z s) x7 (nI t) x = some (Q', U') ∧ RQ Q' (mk3 s t pr z) := by
    intro Q0 U' x7 x r1 r2 r3 hx7 hx
    unfold j_M_make_204 f_M_kind
    rw [if_pos (pu_in ht (by decide)), nI_clamp (show t < _ by omega), r1]
    simp only [Option.bind_some]
    have hb : upd (upd (upd (zm z) (vc (zm z) (zp z) s t) 0) s 0) t x = mb (zm z) (zc z) (zp z) s t pr := by unfold mb; rw [hx]
    rw [hb]
    have hplain : ¬ cst (zm z) s t → ∃ Q', j_M_make_239 (mb (zm z) (zc z) (zp z) s t pr, po_side Q0, po_rights Q0, po_passed Q0, po_clock Q0) U' (nI s) (nI t) x7 = some (Q', U') ∧ RQ Q' (mk3 s t pr z) := fun hn =>
      rf_239 (mb (zm z) (zc z) (zp z) s t pr, po_side Q0, po_rights Q0, po_passed Q0, po_clock Q0) U' z s t pr hv (by show mb _ _ _ _ _ _ = _; unfold mm; rw [if_neg hn]) r2 r3 x7 hx7
    have hcas : cst (zm z) s t → ∃ Q', j_M_make_231 (mb (zm z) (zc z) (zp z) s t pr, po_side Q0, po_rights Q0, po_passed Q0, po_clock Q0) U' (nI s) (nI t) x7 = some (Q', U') ∧ RQ Q' (mk3 s t pr z) := fun hy => by
      unfold j_M_make_231
      rw [(pu_mcast _ s t hs ht (hcs hy).1 (hcs hy).2).1]
      exact rf_239 (upd (upd (mb (zm z) (zc z) (zp z) s t pr) ((s + t) / 2) (mb (zm z) (zc z) (zp z) s t pr (crn s t))) (crn s t) 0, po_side Q0, po_rights Q0, po_passed Q0, po_clock Q0) U' z s t pr hv (by show upd (upd (mb _ _ _ _ _ _) _ _) _ _ = _; unfold mm; rw [if_pos hy]) r2 r3 x7 hx7
    by_cases h6 : zm z s &&& 7 = 6
    · rw [if_neg (fun h => h h6)]
      by_cases e1 : t = s + 2
      · rw [if_pos (d1.mpr e1)]; exact hcas ⟨h6, Or.inl e1⟩
      · rw [if_neg (fun h => e1 (d1.mp h))]
        by_cases e2 : s = t + 2
        · rw [if_neg (fun h => h (d2.mpr e2))]; exact hcas ⟨h6, Or.inr e2⟩
        · rw [if_pos (fun h => e2 (d2.mp h))]; exact hplain (fun h => by rcases h.2 with h | h; exact e1 h; exact e2 h)
    · rw [if_pos h6]; exact hplain (fun h => h6 h.1)
  have h160 : ∀ (U' : UnT) (x7 s1 : Int32), (x7 = 0 ↔ ¬ zm z s &&& 7 = 1) → ∃ Q', j_M_make_160 Q U' (nI s) (nI t) (nI pr) (zm z s) x7 (nI (vc (zm z) (zp z) s t)) s1 = some (Q', U') ∧ RQ Q' (mk3 s t pr z) := by
    intro U' x7 s1 hx7
    unfold j_M_make_160
    rw [if_pos (pu_in hvl (by decide)), if_pos (pu_in hs (by decide)), nI_clamp (show s < _ by omega), nI_clamp (show vc (zm z) (zp z) s t < _ by omega), q1, q2]
    by_cases hp0 : pr = 0
    · rw [if_pos (by rw [hp0]; decide)]
      exact h204 _ U' x7 _ rfl rfl q3 hx7 (by rw [if_pos hp0])
    · rw [if_neg (nI_nle (by omega) (by omega))]
      exact h204 _ U' x7 _ rfl rfl q3 hx7 (by rw [if_neg hp0])
  have h73 : ∀ (x7 : Int32), (x7 = 0 ↔ ¬ zm z s &&& 7 = 1) → ∃ Q' U', j_M_make_73 Q U (nI far) (nI s) (nI t) (nI pr) (zm z s) x7 (nI (vc (zm z) (zp z) s t)) = some (Q', U') ∧ RQ Q' (mk3 s t pr z) ∧ ufr U' far z s t ∧ ∀ j, ¬ j = far → usm U U' j := by
    intro x7 hx7
    unfold j_M_make_73 j_M_make_150
    have hf11 : am_in (nI far) 11 = true := pu_in hfar (by decide)
    have hv64 : am_in (nI (vc (zm z) (zp z) s t)) 64 = true := pu_in hvl (by decide)
    simp only [hf11, hv64, if_true]
    rw [nI_clamp (show far < _ by omega), nI_clamp (show vc (zm z) (zp z) s t < _ by omega), q1, q3, q4]
    have hU := ufr_new U far z s t (po_clock Q)
    have hsm : ∀ j, ¬ j = far → usm U (upd (un_undoMan U) far (zm z s), upd (un_undoTaken U) far (zm z (vc (zm z) (zp z) s t)), upd (un_undoWhere U) far (nI (vc (zm z) (zp z) s t)), upd (un_undoRights U) far (nI (zr z)), upd (un_undoPassed U) far (zp z), upd (un_undoClock U) far (po_clock Q)) j := fun j hj =>
      ⟨upd_o _ _ hj, upd_o _ _ hj, upd_o _ _ hj, upd_o _ _ hj, upd_o _ _ hj⟩
    by_cases h7 : x7 = 0
    · rw [if_neg (fun h => h h7)]
      by_cases hz : zm z (vc (zm z) (zp z) s t) = 0
      · rw [if_pos hz]
        obtain ⟨Q', e1, e2⟩ := h160 _ x7 (po_clock Q + 1) hx7
        exact ⟨Q', _, e1, e2, hU, hsm⟩
      · rw [if_neg hz]
        obtain ⟨Q', e1, e2⟩ := h160 _ x7 0 hx7
        exact ⟨Q', _, e1, e2, hU, hsm⟩
    · rw [if_pos h7]
      obtain ⟨Q', e1, e2⟩ := h160 _ x7 0 hx7
      exact ⟨Q', _, e1, e2, hU, hsm⟩
  have h42 : ∀ (x7 : Int32), (x7 = 0 ↔ ¬ zm z s &&& 7 = 1) → ∃ Q' U', j_M_make_42 Q U (nI far) (nI s) (nI t) (nI pr) (zm z s) x7 = some (Q', U') ∧ RQ Q' (mk3 s t pr z) ∧ ufr U' far z s t ∧ ∀ j, ¬ j = far → usm U U' j := by
    intro x7 hx7
    have k := h73 x7 hx7
    unfold j_M_make_42 j_M_make_71
    rw [q4]
    by_cases h7 : x7 = 0
    · rw [if_pos h7]
      unfold vc at k
      rw [if_neg (fun h => hx7.mp h7 h.1)] at k
      exact k
    · have hp : zm z s &&& 7 = 1 := by
        apply Classical.byContradiction
        intro h; exact h7 (hx7.mpr h)
      rw [if_neg h7]
      by_cases hpp : nI t = zp z
      · rw [if_neg (fun h => h hpp), vic_fin ⟨s, hs⟩ ⟨t, ht⟩]
        unfold vc at k
        rw [if_pos ⟨hp, hpp.symm⟩] at k
        exact k
      · rw [if_pos hpp]
        unfold vc at k
        rw [if_neg (fun h => hpp h.2.symm)] at k
        exact k
  by_cases hp : zm z s &&& 7 = 1
  · rw [if_neg (fun h => h hp)]
    exact h42 1 ⟨fun h => absurd h (by decide), fun h => absurd hp h⟩
  · rw [if_pos hp]
    exact h42 0 ⟨fun _ => hp, fun _ => rfl⟩
