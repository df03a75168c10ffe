/-! THE CLASS MAKES A MOVE AND TAKES IT BACK -/
theorem sh8 : ∀ k : Fin 16, nI k >>> ((3 : Int32) &&& 31) = nI (k.val / 8) := by decide +kernel
theorem own_upd (m : Nat → Int32) (c k i : Nat) (x : Int32) : own (upd m k x) c i = if i = k then decide (¬ x = 0 ∧ x >>> ((3 : Int32) &&& 31) = nI c) else own m c i := by
  unfold own upd
  by_cases h : i = k
  · simp only [h, if_true]
  · simp only [h, if_false]
theorem okm_upd {m : Nat → Int32} (hm : okm m) {k : Nat} {x : Int32} (hx : am_in x 16 = true) : okm (upd m k x) := by
  intro s hs
  unfold upd
  by_cases h : s = k
  · rw [if_pos h]; exact hx
  · rw [if_neg h]; exact hm s hs
theorem cl_lift (b : BdT) (hm : okm (bd_men b)) (hh : okh b) {s : Nat} (hs : s < 64) : ∃ h', f_Board_lift (nI s) b = some (upd (bd_men b) s 0, h', b.2.2) ∧ okh (upd (bd_men b) s 0, h', b.2.2) := by
  obtain ⟨k, hk, e⟩ := pu_inf (hm s hs) (by decide)
  have hk8 : am_in (nI (k / 8)) 2 = true := pu_in (by omega) (by decide)
  have e8 := sh8 ⟨k, hk⟩
  simp only at e8
  unfold f_Board_lift
  rw [if_pos (pu_in hs (by decide)), nI_clamp (by omega), e, e8, if_pos hk8, if_pos hk8, if_pos (pu_in hs (by decide)), nI_clamp (show k / 8 < _ by omega)]
  refine ⟨_, rfl, ?_⟩
  intro d hd i hi
  show bt (vp_updL (bd_held b) (k / 8) (bd_held b (k / 8) &&& (am_shl 1 (nI s) ^^^ (-1))) d) i = own (upd (bd_men b) s 0) d i
  rw [own_upd]
  unfold vp_updL
  by_cases hdk : d = k / 8
  · rw [if_pos hdk, bt_and, bt_not, bt_sh hs, ← hdk, hh d hd i hi, decide_eq_true hi, Bool.true_and]
    by_cases his : i = s
    · rw [if_pos his, decide_eq_true his]; simp
    · rw [if_neg his, decide_eq_false his]; simp
  · rw [if_neg hdk, hh d hd i hi]
    by_cases his : i = s
    · rw [if_pos his, his]
      unfold own
      rw [e, e8, decide_eq_false (fun q => hdk ((nI_eq (by omega) (by omega)).mp q.2).symm)]
      simp
    · rw [if_neg his]
theorem cl_put (b : BdT) (hh : okh b) {t : Nat} (ht : t < 64) {x : Int32} (hx : am_in x 16 = true) (hx0 : ¬ x = 0) (hz : bd_men b t = 0) : ∃ h', f_Board_put (nI t) x b = some (upd (bd_men b) t x, h', b.2.2) ∧ okh (upd (bd_men b) t x, h', b.2.2) := by
  obtain ⟨k, hk, e⟩ := pu_inf hx (by decide)
  have hk8 : am_in (nI (k / 8)) 2 = true := pu_in (by omega) (by decide)
  have e8 := sh8 ⟨k, hk⟩
  simp only at e8
  rw [← e] at e8
  unfold f_Board_put
  rw [if_pos (pu_in ht (by decide)), nI_clamp (by omega), e8, if_pos hk8, if_pos hk8, nI_clamp (show k / 8 < _ by omega)]
  refine ⟨_, rfl, ?_⟩
  intro d hd i hi
  show bt (vp_updL (bd_held b) (k / 8) (bd_held b (k / 8) ||| am_shl 1 (nI t)) d) i = own (upd (bd_men b) t x) d i
  rw [own_upd]
  unfold vp_updL
  by_cases hdk : d = k / 8
  · rw [if_pos hdk, bt_or, bt_sh ht, ← hdk, hh d hd i hi]
    by_cases his : i = t
    · rw [if_pos his, decide_eq_true his, Bool.or_true, e8, ← hdk, decide_eq_true ⟨hx0, rfl⟩]
    · rw [if_neg his, decide_eq_false his, Bool.or_false]
  · rw [if_neg hdk, hh d hd i hi]
    by_cases his : i = t
    · rw [if_pos his, his]
      unfold own
      rw [hz, e8, decide_eq_false (p := ¬ x = 0 ∧ nI (k / 8) = nI d) (fun q => hdk ((nI_eq (by omega) (by omega)).mp q.2).symm)]
      simp
    · rw [if_neg his]
theorem abs_fin : ∀ s : Fin 64, ∀ t : Fin 64, (am_abs (nI t - nI s) = 2 ↔ (t.val = s.val + 2 ∨ s.val = t.val + 2)) ∧ (am_abs (nI t - nI s) = 16 ↔ (t.val = s.val + 16 ∨ s.val = t.val + 16)) := by decide +kernel
theorem mid1_fin : ∀ s : Fin 64, ∀ t : Fin 64, (nI s + nI t) >>> ((1 : Int32) &&& 31) = nI ((s.val + t.val) / 2) := by decide +kernel
theorem cl_cast0 (b : BdT) (x3 : Int32) {s t : Nat} (hs : s < 64) (ht : t < 64) (hd : ¬ (t = s + 2 ∨ s = t + 2)) : f_Board_castleRook (nI s) (nI t) x3 b = some b := by
  unfold f_Board_castleRook
  rw [if_neg (fun h => hd ((abs_fin ⟨s, hs⟩ ⟨t, ht⟩).1.mp h))]
theorem cl_castE (b : BdT) (x3 : Int32) {s t : Nat} (hs : s < 64) (ht : t < 64) (hd : t = s + 2 ∨ s = t + 2) (hge : t ≤ s → 4 ≤ s) : f_Board_castleRook (nI s) (nI t) x3 b = (if x3 = 0 then if am_in (nI ((s + t) / 2)) 64 = true then j_Board_castleRook_54 b x3 (nI (crn s t)) (nI ((s + t) / 2)) (bd_men b (nI ((s + t) / 2)).toNatClampNeg) else none else if am_in (nI (crn s t)) 64 = true then j_Board_castleRook_54 b x3 (nI (crn s t)) (nI ((s + t) / 2)) (bd_men b (nI (crn s t)).toNatClampNeg) else none) := by
  have hmid := mid1_fin ⟨s, hs⟩ ⟨t, ht⟩
  simp only at hmid
  unfold f_Board_castleRook j_Board_castleRook_23
  rw [if_pos ((abs_fin ⟨s, hs⟩ ⟨t, ht⟩).1.mpr hd), hmid]
  unfold crn
  by_cases h : t ≤ s
  · rw [if_pos (nI_le h (by omega)), if_pos h]
    have : nI s + (-4 : Int32) = nI (s - 4) := by
      rw [show nI s = nI (s - 4) + nI 4 by rw [nI_add]; congr 1; have := hge h; omega, Int32.add_assoc, show nI 4 + (-4 : Int32) = 0 by decide, Int32.add_zero]
    rw [this]
  · rw [if_neg (nI_ge (by omega) (by omega)), if_neg h]
    rw [show nI s + (3 : Int32) = nI (s + 3) from nI_add s 3]
theorem cl_cast1 (b : BdT) (hm : okm (bd_men b)) (hh : okh b) {s t : Nat} (hs : s < 64) (ht : t < 64) (hd : t = s + 2 ∨ s = t + 2) (hc : crn s t < 64) (hge : t ≤ s → 4 ≤ s) (h1 : ¬ bd_men b (crn s t) = 0) (h2 : bd_men b ((s + t) / 2) = 0) : ∃ h', f_Board_castleRook (nI s) (nI t) 1 b = some (upd (upd (bd_men b) (crn s t) 0) ((s + t) / 2) (bd_men b (crn s t)), h', b.2.2) ∧ okh (upd (upd (bd_men b) (crn s t) 0) ((s + t) / 2) (bd_men b (crn s t)), h', b.2.2) := by
  have hne : ¬ (s + t) / 2 = crn s t := fun h => h1 (h ▸ h2)
  rw [cl_castE b 1 hs ht hd hge, if_neg (by decide), if_pos (pu_in hc (by decide)), nI_clamp (by omega)]
  unfold j_Board_castleRook_54 j_Board_castleRook_68
  obtain ⟨a1, e1, e2⟩ := cl_lift b hm hh hc
  rw [if_neg (by decide), e1]
  simp only [Option.bind_some]
  rw [if_neg (by decide)]
  obtain ⟨a2, e3, e4⟩ := cl_put (upd (bd_men b) (crn s t) 0, a1, b.2.2) e2 (t := (s + t) / 2) (by omega) (hm _ hc) h1 (by show upd _ _ _ _ = _; rw [upd_o _ _ hne]; exact h2)
  rw [e3]
  exact ⟨a2, rfl, e4⟩
theorem cl_castB (b : BdT) (hm : okm (bd_men b)) (hh : okh b) {s t : Nat} (hs : s < 64) (ht : t < 64) (hd : t = s + 2 ∨ s = t + 2) (hc : crn s t < 64) (hge : t ≤ s → 4 ≤ s) (h1 : ¬ bd_men b ((s + t) / 2) = 0) (h2 : bd_men b (crn s t) = 0) : ∃ h', f_Board_castleRook (nI s) (nI t) 0 b = some (upd (upd (bd_men b) ((s + t) / 2) 0) (crn s t) (bd_men b ((s + t) / 2)), h', b.2.2) ∧ okh (upd (upd (bd_men b) ((s + t) / 2) 0) (crn s t) (bd_men b ((s + t) / 2)), h', b.2.2) := by
  have hne : ¬ crn s t = (s + t) / 2 := fun h => h1 (h ▸ h2)
  rw [cl_castE b 0 hs ht hd hge, if_pos rfl, if_pos (pu_in (by omega) (by decide)), nI_clamp (by omega)]
  unfold j_Board_castleRook_54 j_Board_castleRook_68
  obtain ⟨a1, e1, e2⟩ := cl_lift b hm hh (s := (s + t) / 2) (by omega)
  rw [if_pos rfl, e1]
  simp only [Option.bind_some]
  rw [if_pos trivial]
  obtain ⟨a2, e3, e4⟩ := cl_put (upd (bd_men b) ((s + t) / 2) 0, a1, b.2.2) e2 (t := crn s t) hc (hm _ (by omega)) h1 (by show upd _ _ _ _ = _; rw [upd_o _ _ hne]; exact h2)
  rw [e3]
  exact ⟨a2, rfl, e4⟩
