/-! HOW MANY MOVES THERE ARE: squares and ways -/
theorem sum_le {L : List Nat} {f g : Nat → Nat} (h : ∀ t ∈ L, f t ≤ g t) : (L.map f).sum ≤ (L.map g).sum := by
  induction L with
  | nil => exact Nat.le_refl _
  | cons a L ih =>
    simp only [List.map_cons, List.sum_cons]
    have h1 := h a List.mem_cons_self
    have h2 := ih (fun t ht => h t (List.mem_cons_of_mem _ ht))
    omega
theorem sum_add (L : List Nat) (f g : Nat → Nat) : (L.map (fun t => f t + g t)).sum = (L.map f).sum + (L.map g).sum := by
  induction L with
  | nil => rfl
  | cons a L ih =>
    simp only [List.map_cons, List.sum_cons, ih]
    omega
theorem cp_or (L : List Nat) (p q : Nat → Bool) : L.countP (fun x => p x || q x) ≤ L.countP p + L.countP q := by
  induction L with
  | nil => exact Nat.le_refl _
  | cons a L ih =>
    simp only [List.countP_cons]
    cases p a <;> cases q a <;> simp <;> omega
theorem cp_dj (L : List Nat) (p q : Nat → Bool) (h : ∀ x, p x = true → q x = true → False) : L.countP p + L.countP q ≤ L.countP (fun x => p x || q x) := by
  induction L with
  | nil => exact Nat.le_refl _
  | cons a L ih =>
    simp only [List.countP_cons]
    cases hp : p a <;> cases hq : q a
    · simp; omega
    · simp; omega
    · simp; omega
    · exact absurd hq (fun hq => h a hp hq)
/-- so many squares and ways -/
def tot (P : Nat → Nat → Bool) : Nat := ((List.range 64).map (fun t => (List.range 8).countP (P t))).sum
theorem tot_le {P Q : Nat → Nat → Bool} (h : ∀ t d, t < 64 → d < 8 → P t d = true → Q t d = true) : tot P ≤ tot Q :=
  sum_le (fun t ht => List.countP_mono_left (fun d hd hp => h t d (List.mem_range.mp ht) (List.mem_range.mp hd) hp))
theorem tot_or (P Q : Nat → Nat → Bool) : tot (fun t d => P t d || Q t d) ≤ tot P + tot Q := by
  unfold tot
  rw [← sum_add]
  exact sum_le (fun t _ => cp_or _ _ _)
theorem tot_dj {P Q : Nat → Nat → Bool} (h : ∀ t d, P t d = true → Q t d = true → False) : tot P + tot Q ≤ tot (fun t d => P t d || Q t d) := by
  unfold tot
  rw [← sum_add]
  exact sum_le (fun t _ => cp_dj _ _ _ (h t))
/-- the first man that is seen from there -/
def fst1 (m : Nat → Int32) (t d : Nat) : Option Nat := hsq m (ryf 7 d t)
def pr1 (m : Nat → Int32) (c t d : Nat) : Bool := match fst1 m t d with
  | some s => own m c s
  | none => false
def cnt (m : Nat → Int32) (c : Nat) : Nat := tot (pr1 m c)
def cat (m : Nat → Int32) (s : Nat) : Nat := tot (fun t d => decide (fst1 m t d = some s))
theorem tot420 : tot (fun t d => decide (¬ nx d t < 0)) = 420 := by decide +kernel
theorem cnt_420 (m : Nat → Int32) : cnt m 0 + cnt m 1 ≤ 420 := by
  rw [← tot420]
  unfold cnt
  refine Nat.le_trans (tot_dj (fun t d h1 h2 => ?_)) (tot_le (fun t d ht hd h => ?_))
  · unfold pr1 at h1 h2
    cases he : fst1 m t d with
    | none => rw [he] at h1; cases h1
    | some s =>
      rw [he] at h1 h2
      have a := (of_decide_eq_true h1).2
      have b := (of_decide_eq_true h2).2
      rw [a] at b
      revert b; decide
  · rw [Bool.or_eq_true] at h
    apply decide_eq_true
    intro hn
    have h0 : fst1 m t d = none := by
      unfold fst1
      rcases nx_cases (w := d) (by omega) ht with q | ⟨u, hu, q⟩
      · rw [ry_0 q]; rfl
      · rw [q] at hn; exact absurd hn (nI_pos (by omega))
    unfold pr1 at h
    rw [h0] at h
    rcases h with h | h <;> cases h
theorem sum_tot (m : Nat → Int32) : ∀ L : List Nat, L.Nodup → (L.map (cat m)).sum ≤ tot (fun t d => L.any (fun s => decide (fst1 m t d = some s)))
  | [], _ => Nat.zero_le _
  | s :: L, h => by
    rw [List.nodup_cons] at h
    simp only [List.map_cons, List.sum_cons]
    refine Nat.le_trans (Nat.add_le_add_left (sum_tot m L h.2) _) (Nat.le_trans (tot_dj (fun t d h1 h2 => ?_)) (tot_le (fun t d _ _ hp => by rw [List.any_cons]; exact hp)))
    obtain ⟨u, hu, h2⟩ := List.any_eq_true.mp h2
    have h1 := of_decide_eq_true h1
    have h2 := of_decide_eq_true h2
    rw [h1] at h2
    cases h2
    exact h.1 hu
theorem ows_nd (z : Pz) : (ows z).Nodup := List.Pairwise.filter _ List.nodup_range
theorem cat_cnt (z : Pz) : ((ows z).map (cat (zm z))).sum ≤ cnt (zm z) (zc z) := by
  refine Nat.le_trans (sum_tot (zm z) (ows z) (ows_nd z)) (tot_le (fun t d _ _ h => ?_))
  obtain ⟨s, hs, h⟩ := List.any_eq_true.mp h
  unfold pr1
  rw [of_decide_eq_true h]
  exact (mem_ows hs).2
theorem hsq_app {m : Nat → Int32} {s : Nat} (hs : ¬ m s = 0) (r : List Nat) : ∀ (L : List Nat), (∀ u ∈ L, m u = 0) → hsq m (L ++ s :: r) = some s
  | [], _ => by
    show hsq m (s :: r) = _
    unfold hsq
    rw [if_neg hs]
  | u :: L, h => by
    show hsq m (u :: (L ++ s :: r)) = _
    unfold hsq
    rw [if_pos (h u List.mem_cons_self)]
    exact hsq_app hs r L (fun v hv => h v (List.mem_cons_of_mem _ hv))
/-- who sees a square is seen first from there -/
theorem seen_back {m : Nat → Int32} {s t w f : Nat} (hs : s < 64) (hw : w < 8) (hf : f ≤ 7) (hz : ¬ m s = 0) (h : t ∈ upto m (ryf f w s)) : fst1 m t (ow w) = some s := by
  obtain ⟨ht, L, l1, l2, l3⟩ := rev_ln m (show w < 16 by omega) f s t hs h
  have hr := l3 (6 - L.length)
  rw [show 6 - L.length + L.length + 1 = 7 by omega] at hr
  unfold fst1
  rw [hr]
  exact hsq_app hz _ L l2
theorem cp_pos {p : Nat → Bool} {d : Nat} (hd : d < 8) (h : p d = true) : 1 ≤ (List.range 8).countP p :=
  List.countP_pos_iff.mpr ⟨d, List.mem_range.mpr hd, h⟩
theorem back_1 {m : Nat → Int32} {s t w f : Nat} (hs : s < 64) (hw : w < 8) (hf : f ≤ 7) (hz : ¬ m s = 0) (h : t ∈ upto m (ryf f w s)) : 1 ≤ (List.range 8).countP (fun d => decide (fst1 m t d = some s)) :=
  cp_pos ((ow_r ⟨w, by omega⟩).2.1 hw) (decide_eq_true (seen_back hs hw hf hz h))
/-- neighbours -/
def nbr (s t : Nat) : Bool := (List.range 8).any (fun w => stp w s t)
def nb (s : Nat) : Nat := ((List.range 64).map (fun t => if nbr s t = true then 1 else 0)).sum
theorem nb_cat {m : Nat → Int32} {s : Nat} (hs : s < 64) (hz : ¬ m s = 0) : nb s ≤ cat m s := by
  unfold nb cat tot
  refine sum_le (fun t ht => ?_)
  have ht := List.mem_range.mp ht
  by_cases h : nbr s t = true
  · rw [if_pos h]
    obtain ⟨w, hw, h⟩ := List.any_eq_true.mp h
    have hw := List.mem_range.mp hw
    exact back_1 (f := 1) hs hw (by omega) hz (of_decide_eq_true (by rw [up1 m (by omega) hs ht]; exact h))
  · rw [if_neg h]; exact Nat.zero_le _
theorem len_mvs (z : Pz) (s : Nat) : (mvs z s).length = ((List.range 64).map (fun t => if tz z s t = true then (prs z s t).length else 0)).sum := by
  unfold mvs tgs
  generalize List.range 64 = L
  induction L with
  | nil => rfl
  | cons a L ih =>
    rw [List.filter_cons]
    simp only [List.map_cons, List.sum_cons]
    cases h : tz z s a with
    | true =>
      rw [if_pos rfl, if_pos rfl, List.flatMap_cons, List.length_append, ih]
      congr 1
      unfold mvt
      rw [List.length_map]
    | false =>
      rw [if_neg (by decide), if_neg (by decide), ih, Nat.zero_add]
theorem kn_fin : ∀ s : Fin 64, ((List.range 64).map (fun t => if (List.range' 8 8).any (fun w => stp w s t) = true then 1 else 0)).sum ≤ nb s := by decide +kernel
/-- where a pawn might go at all -/
def spn (c s t : Nat) : Bool := stp c s t || (stp (4 + 2 * c) s t || (stp (5 + 2 * c) s t || (decide (s / 8 = 1 + 5 * c) && decide (t = s + 16 ∨ s = t + 16))))
def exP (c s : Nat) : Nat := if s / 8 + 5 * c = 6 then (if s % 8 = 0 ∨ s % 8 = 7 then 3 else 4) else 0
theorem pn_fin : ∀ c : Fin 2, ∀ s : Fin 64, 8 ≤ s.val → s.val < 56 → ((List.range 64).map (fun t => if spn c s t = true then (if t < 8 ∨ 55 < t then 4 else 1) else 0)).sum ≤ nb s + exP c s := by decide +kernel
/-- what is more than the ways give -/
def exz (z : Pz) (s : Nat) : Nat := (if zm z s &&& 7 = 1 then exP (zc z) s else 0) + (if zm z s &&& 7 = 6 then 2 else 0)
theorem two_fin : ∀ c : Fin 2, ((List.range 64).map (fun t => if t = 56 * c.val + 6 ∨ t = 56 * c.val + 2 then 1 else 0)).sum = 2 := by decide +kernel
theorem mvs_cat {z : Pz} (hG : Gw z) {s : Nat} (hs : s < 64) (ho : own (zm z) (zc z) s = true) : (mvs z s).length ≤ cat (zm z) s + exz z s := by
  have hc2 := hG.1.2.1
  have ho' := of_decide_eq_true ho
  rw [len_mvs]
  unfold exz
  by_cases h1 : zm z s &&& 7 = 1
  · rw [if_pos h1, if_neg (by rw [h1]; decide)]
    obtain ⟨e1, e2⟩ := hG.2.2.2.1 s hs h1
    have hp := pn_fin ⟨zc z, hc2⟩ ⟨s, hs⟩ e1 e2
    simp only at hp
    have hn := nb_cat (m := zm z) hs ho'.1
    refine Nat.le_trans (sum_le (g := fun t => if spn (zc z) s t = true then (if t < 8 ∨ 55 < t then 4 else 1) else 0) (fun t ht => ?_)) (by omega)
    have ht := List.mem_range.mp ht
    by_cases h : tz z s t = true
    · rw [if_pos h]
      have hsp : spn (zc z) s t = true := by
        unfold tz tg gl at h
        rw [if_pos h1, Bool.and_eq_true] at h
        have hpt := h.1
        unfold pt at hpt
        rw [Bool.or_eq_true] at hpt
        unfold spn
        rcases hpt with q | q
        · unfold pcp at q
          rw [Bool.and_eq_true, Bool.or_eq_true] at q
          rcases q.1 with q | q
          · rw [q]; simp
          · rw [q]; simp
        · rcases nx_cases (w := zc z) (s := s) (by omega) hs with w | ⟨f, hf, w⟩
          · rw [pfw_n w] at q; cases q
          · rw [pfw_y w hf, Bool.and_eq_true, Bool.or_eq_true, decide_eq_true_eq, decide_eq_true_eq, Bool.and_eq_true, Bool.and_eq_true, decide_eq_true_eq, decide_eq_true_eq] at q
            rcases q.2 with q2 | ⟨q2, q3, -⟩
            · rw [show stp (zc z) s t = true from decide_eq_true (by rw [w, q2])]; rfl
            · have w1 := wst (show zc z < 16 by omega) hs hf w
              have w2 := wst (show zc z < 16 by omega) hf ht (stp_e q3)
              have : t = s + 16 ∨ s = t + 16 := by
                rcases (show zc z = 0 ∨ zc z = 1 by omega) with e | e
                · rw [e] at w1 w2; simp [wD, wE] at w1 w2; omega
                · rw [e] at w1 w2; simp [wD, wE] at w1 w2; omega
              rw [decide_eq_true q2, decide_eq_true this]
              simp
      rw [if_pos hsp]
      unfold prs
      by_cases he : t < 8 ∨ 55 < t
      · rw [if_pos ⟨h1, he⟩, if_pos he]; exact Nat.le_refl _
      · rw [if_neg (fun q => he q.2), if_neg he]; exact Nat.le_refl _
    · rw [if_neg h]; exact Nat.zero_le _
  · rw [if_neg h1, Nat.zero_add]
    have hlen : ∀ t, (prs z s t).length = 1 := fun t => by unfold prs; rw [if_neg (fun q => h1 q.1)]; rfl
    have htz : ∀ t, tz z s t = true → gwa (zm z) s t = true ∨ (zm z s &&& 7 = 6 ∧ (t = 56 * zc z + 6 ∨ t = 56 * zc z + 2)) := by
      intro t h
      unfold tz tg gl at h
      rw [if_neg h1, Bool.and_eq_true, Bool.or_eq_true] at h
      rcases h.1 with q | q
      · exact Or.inl q
      · rw [Bool.and_eq_true, decide_eq_true_eq] at q
        refine Or.inr ⟨q.1, ?_⟩
        have q := q.2
        unfold ctg at q
        simp only [Bool.and_eq_true, Bool.or_eq_true, decide_eq_true_eq] at q
        rcases q.2 with q | q
        · exact Or.inl q.1
        · exact Or.inr q.1
    by_cases h2 : zm z s &&& 7 = 2
    · rw [if_neg (by rw [h2]; decide), Nat.add_zero]
      have hn := nb_cat (m := zm z) hs ho'.1
      have hk := kn_fin ⟨s, hs⟩
      simp only at hk
      refine Nat.le_trans (sum_le (g := fun t => if (List.range' 8 8).any (fun w => stp w s t) = true then 1 else 0) (fun t ht => ?_)) (by omega)
      have ht := List.mem_range.mp ht
      by_cases h : tz z s t = true
      · rw [if_pos h, hlen t]
        rcases htz t h with q | ⟨q, -⟩
        · rw [gwa_2 h2] at q
          obtain ⟨w, hw, q⟩ := List.any_eq_true.mp q
          have hw' := List.mem_range'_1.mp hw
          rw [up1 (zm z) (show w < 16 by omega) hs ht] at q
          rw [if_pos (List.any_eq_true.mpr ⟨w, hw, q⟩)]
          exact Nat.le_refl _
        · rw [h2] at q; exact absurd q (by decide)
      · rw [if_neg h]; exact Nat.zero_le _
    · -- lines
      have hg : ∀ t, t < 64 → gwa (zm z) s t = true → 1 ≤ (List.range 8).countP (fun d => decide (fst1 (zm z) t d = some s)) := by
        intro t ht h
        obtain ⟨w, hw, h⟩ := List.any_eq_true.mp h
        have hw := (List.mem_range'_1.mp hw).2
        unfold gw at h
        by_cases h8 : w < 8
        · rw [if_pos h8, Bool.or_eq_true, Bool.and_eq_true, Bool.and_eq_true, decide_eq_true_eq, decide_eq_true_eq] at h
          rcases h with ⟨-, h⟩ | ⟨-, h⟩
          · exact back_1 hs h8 (by omega) ho'.1 h
          · exact back_1 hs h8 (by omega) ho'.1 (of_decide_eq_true h)
        · rw [if_neg h8, if_pos (by omega), Bool.and_eq_true, decide_eq_true_eq] at h
          exact absurd h.1 h2
      by_cases h6 : zm z s &&& 7 = 6
      · rw [if_pos h6]
        have h2f := two_fin ⟨zc z, hc2⟩
        simp only at h2f
        rw [← h2f]
        unfold cat tot
        rw [← sum_add]
        refine sum_le (fun t ht => ?_)
        have ht := List.mem_range.mp ht
        by_cases h : tz z s t = true
        · rw [if_pos h, hlen t]
          rcases htz t h with q | ⟨-, q⟩
          · exact Nat.le_trans (hg t ht q) (Nat.le_add_right _ _)
          · rw [if_pos q]; omega
        · rw [if_neg h]; exact Nat.zero_le _
      · rw [if_neg h6, Nat.add_zero]
        unfold cat tot
        refine sum_le (fun t ht => ?_)
        have ht := List.mem_range.mp ht
        by_cases h : tz z s t = true
        · rw [if_pos h, hlen t]
          rcases htz t h with q | ⟨q, -⟩
          · exact hg t ht q
          · exact absurd q h6
        · rw [if_neg h]; exact Nat.zero_le _
theorem flt_sum (f : Nat → Nat) (p : Nat → Bool) : ∀ L : List Nat, ((L.filter p).map f).sum = (L.map (fun s => if p s = true then f s else 0)).sum
  | [] => rfl
  | a :: L => by
    rw [List.filter_cons]
    simp only [List.map_cons, List.sum_cons]
    cases h : p a with
    | true => rw [if_pos rfl, if_pos rfl]; simp only [List.map_cons, List.sum_cons]; rw [flt_sum f p L]
    | false => rw [if_neg (by decide), if_neg (by decide), flt_sum f p L, Nat.zero_add]
theorem exP_fin : ∀ c : Fin 2, ((List.range 64).map (exP c)).sum = 30 := by decide +kernel
theorem one_sum (k x : Nat) : ∀ L : List Nat, L.Nodup → (L.map (fun s => if s = k then x else 0)).sum ≤ x
  | [], _ => Nat.zero_le _
  | a :: L, h => by
    rw [List.nodup_cons] at h
    simp only [List.map_cons, List.sum_cons]
    by_cases e : a = k
    · rw [if_pos e]
      have : (L.map (fun s => if s = k then x else 0)).sum = 0 := by
        have hz : ∀ M : List Nat, (¬ k ∈ M) → (M.map (fun s => if s = k then x else 0)).sum = 0 := by
          intro M
          induction M with
          | nil => intro _; rfl
          | cons b M ih =>
            intro hb
            simp only [List.map_cons, List.sum_cons]
            rw [if_neg (fun q => hb (by rw [q]; exact List.mem_cons_self)), ih (fun q => hb (List.mem_cons_of_mem _ q))]
        exact hz L (e ▸ h.1)
      omega
    · rw [if_neg e, Nat.zero_add]
      exact one_sum k x L h.2
theorem ex_32 {z : Pz} (hG : Gw z) : ((ows z).map (exz z)).sum ≤ 32 := by
  have hc2 := hG.1.2.1
  obtain ⟨k, hk⟩ := hG.2.2.1 (zc z) hc2
  unfold ows
  rw [flt_sum]
  have e30 := exP_fin ⟨zc z, hc2⟩
  simp only at e30
  have h2 := one_sum k 2 (List.range 64) List.nodup_range
  refine Nat.le_trans (sum_le (g := fun s => exP (zc z) s + (if s = k then 2 else 0)) (fun s hs => ?_)) (by rw [sum_add]; omega)
  have hs := List.mem_range.mp hs
  by_cases ho : own (zm z) (zc z) s = true
  · rw [if_pos ho]
    unfold exz
    have a : (if zm z s &&& 7 = 1 then exP (zc z) s else 0) ≤ exP (zc z) s := by split <;> omega
    have b : (if zm z s &&& 7 = 6 then 2 else 0) ≤ (if s = k then 2 else 0) := by
      by_cases h6 : zm z s &&& 7 = 6
      · rw [if_pos h6, if_pos (own_king hG.1.1 hc2 hs hk ho h6)]; exact Nat.le_refl _
      · rw [if_neg h6]; exact Nat.zero_le _
    omega
  · rw [if_neg ho]; exact Nat.zero_le _
theorem len_fm (f : Nat → List Mv) : ∀ L : List Nat, (L.flatMap f).length = (L.map (fun s => (f s).length)).sum
  | [] => rfl
  | a :: L => by
    rw [List.flatMap_cons, List.length_append, len_fm f L]
    simp only [List.map_cons, List.sum_cons]
theorem pml_cnt {z : Pz} (hG : Gw z) : (pml z).length ≤ cnt (zm z) (zc z) + 32 := by
  unfold pml
  rw [len_fm]
  have h1 := cat_cnt z
  have h2 := ex_32 hG
  refine Nat.le_trans (sum_le (g := fun s => cat (zm z) s + exz z s) (fun s hs => ?_)) (by rw [sum_add]; omega)
  obtain ⟨s1, s2⟩ := mem_ows hs
  exact mvs_cat hG s1 s2
theorem okN_holds : okN := by
  intro z hG
  have h1 := pml_cnt hG.1
  have h2 := cnt_420 (zm z)
  have hc2 := hG.1.1.2.1
  rcases (show zc z = 0 ∨ zc z = 1 by omega) with e | e
  · rw [e] at h1; omega
  · rw [e] at h1; omega
