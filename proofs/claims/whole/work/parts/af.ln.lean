/-! HOW MANY LINES THERE ARE -/
theorem ryf_nx {w : Nat} (hw : w < 16) : ∀ (f t : Nat) (A C : List Nat) (a b : Nat), t < 64 → ryf f w t = A ++ a :: b :: C → nx w a = nI b
  | 0, t, A, C, a, b, _, h => by
    cases A <;> cases h
  | f + 1, t, A, C, a, b, ht, h => by
    rcases nx_cases hw ht with q | ⟨t1, ht1, q⟩
    · rw [ry_0 q] at h
      cases A <;> cases h
    · rw [ry_1 q ht1] at h
      cases A with
      | nil =>
        have h1 : t1 = a := (List.cons.inj h).1
        have h2 := (List.cons.inj h).2
        subst h1
        cases f with
        | zero => cases h2
        | succ f =>
          rcases nx_cases hw ht1 with q' | ⟨t2, ht2, q'⟩
          · rw [ry_0 q'] at h2; cases h2
          · rw [ry_1 q' ht2] at h2
            rw [q', (List.cons.inj h2).1]
      | cons x A => exact ryf_nx hw f t1 A C a b ht1 (List.cons.inj h).2
theorem hsq_split {m : Nat → Int32} : ∀ (L : List Nat) {u : Nat}, hsq m L = some u → ∃ A C, L = A ++ u :: C ∧ (∀ a ∈ A, m a = 0) ∧ ¬ m u = 0
  | [], _, h => by cases h
  | t :: L, u, h => by
    unfold hsq at h
    by_cases hz : m t = 0
    · rw [if_pos hz] at h
      obtain ⟨A, C, h1, h2, h3⟩ := hsq_split L h
      refine ⟨t :: A, C, by rw [h1]; rfl, fun a ha => ?_, h3⟩
      rcases List.mem_cons.mp ha with rfl | ha
      · exact hz
      · exact h2 a ha
    · rw [if_neg hz] at h
      cases h
      exact ⟨[], L, rfl, (fun a ha => by cases ha), hz⟩
theorem first_man (m : Nat → Int32) : ∀ A : List Nat, (∀ a ∈ A, m a = 0) ∨ ∃ A1 a A2, A = A1 ++ a :: A2 ∧ (∀ x ∈ A1, m x = 0) ∧ ¬ m a = 0
  | [] => Or.inl (fun a ha => by cases ha)
  | t :: A => by
    by_cases hz : m t = 0
    · rcases first_man m A with h | ⟨A1, a, A2, h1, h2, h3⟩
      · left
        intro a ha
        rcases List.mem_cons.mp ha with rfl | ha
        · exact hz
        · exact h a ha
      · right
        refine ⟨t :: A1, a, A2, by rw [h1]; rfl, fun x hx => ?_, h3⟩
        rcases List.mem_cons.mp hx with rfl | hx
        · exact hz
        · exact h2 x hx
    · right
      exact ⟨[], t, A, rfl, (fun a ha => by cases ha), hz⟩
/-- lines that go on behind a square -/
def thr (s t d : Nat) : Bool := decide (¬ nx d s < 0) && decide (s ∈ ryf 7 d t)
theorem thr_fin : ∀ s : Fin 64, tot (thr s) ≤ 27 := by decide +kernel
theorem thr_c : tot (thr 4) ≤ 7 ∧ tot (thr 60) ≤ 7 ∧ tot (thr 0) = 0 ∧ tot (thr 7) = 0 ∧ tot (thr 56) = 0 ∧ tot (thr 63) = 0 := by decide +kernel
theorem pr_col : ∀ pr : Fin 6, ∀ c : Fin 2, ¬ pr.val = 0 → ¬ (nI pr + 8 * nI c) >>> ((3 : Int32) &&& 31) = nI (1 - c.val) := by decide +kernel
theorem rk_col : ∀ c : Fin 2, ¬ ((4 : Int32) + 8 * nI c) >>> ((3 : Int32) &&& 31) = nI (1 - c.val) ∧ ((1 : Int32) + 8 * nI c) >>> ((3 : Int32) &&& 31) = nI c ∧ ¬ ((1 : Int32) + 8 * nI c) = 0 := by decide +kernel
theorem pr1_mk {z : Pz} (hb : bz z) {s t0 pr : Nat} (hv : vm z s t0 pr) {t d : Nat} (ht : t < 64) (hd : d < 8) (h : pr1 (mm (zm z) (zc z) (zp z) s t0 pr) (1 - zc z) t d = true) : pr1 (zm z) (1 - zc z) t d = true ∨ thr s t d = true ∨ (cst (zm z) s t0 ∧ thr (crn s t0) t d = true) := by
  have hc2 := hb.2.1
  have hat := fun i => mm_at hb hv (pr := pr) i
  have ho := of_decide_eq_true hv.2.1
  have hcs := hv.2.2.2.2.2.1
  unfold pr1 fst1 at h
  cases he : hsq (mm (zm z) (zc z) (zp z) s t0 pr) (ryf 7 d t) with
  | none => rw [he] at h; cases h
  | some u =>
    rw [he] at h
    have hu := of_decide_eq_true h
    obtain ⟨A, C, a1, a2, a3⟩ := hsq_split _ he
    have hne : ¬ nI (zc z) = nI (1 - zc z) := fun q => by
      have := (nI_eq (by omega) (by omega)).mp q
      omega
    -- the man seen stood there before
    have hmu : zm z u = mm (zm z) (zc z) (zp z) s t0 pr u := by
      have h1 := hu.2
      have h0 := hu.1
      rw [hat] at h1 h0 ⊢
      by_cases e1 : u = t0
      · exfalso
        rw [if_pos e1] at h1
        by_cases p0 : pr = 0
        · rw [if_pos p0, ho.2] at h1; exact hne h1
        · rw [if_neg p0] at h1
          exact pr_col ⟨pr, by have := hv.1; omega⟩ ⟨zc z, hc2⟩ p0 h1
      · rw [if_neg e1] at h1 h0 ⊢
        by_cases e2 : u = s ∨ u = vc (zm z) (zp z) s t0
        · rw [if_pos e2] at h0; exact absurd rfl h0
        · rw [if_neg e2] at h1 h0 ⊢
          by_cases e3 : cst (zm z) s t0 ∧ u = (s + t0) / 2
          · exfalso
            rw [if_pos e3, (hcs e3.1).2.1] at h1
            exact (rk_col ⟨zc z, hc2⟩).1 h1
          · rw [if_neg e3] at h1 h0 ⊢
            by_cases e4 : cst (zm z) s t0 ∧ u = crn s t0
            · rw [if_pos e4] at h0; exact absurd rfl h0
            · rw [if_neg e4]
    rcases first_man (zm z) A with hA | ⟨A1, a, A2, b1, b2, b3⟩
    · left
      unfold pr1 fst1
      rw [a1, hsq_app (by rw [hmu]; exact a3) C A hA]
      show own (zm z) (1 - zc z) u = true
      unfold own
      rw [hmu]
      exact decide_eq_true hu
    · have hR : ryf 7 d t = A1 ++ a :: (A2 ++ u :: C) := by rw [a1, b1]; simp
      have hma : mm (zm z) (zc z) (zp z) s t0 pr a = 0 := a2 a (by rw [b1]; simp)
      have hthr : thr a t d = true := by
        unfold thr
        have hmem : a ∈ ryf 7 d t := by rw [hR]; simp
        rw [decide_eq_true hmem, Bool.and_true]
        apply decide_eq_true
        cases A2 with
        | nil =>
          have := ryf_nx (show d < 16 by omega) 7 t A1 C a u ht hR
          have hu64 := (ryf_lt 7 (show d < 16 by omega) ht).1 u (by rw [hR]; simp)
          rw [this]; exact nI_pos (by omega)
        | cons x A2 =>
          have := ryf_nx (show d < 16 by omega) 7 t A1 (A2 ++ u :: C) a x ht hR
          have hx64 := (ryf_lt 7 (show d < 16 by omega) ht).1 x (by rw [hR]; simp)
          rw [this]; exact nI_pos (by omega)
      rw [hat] at hma
      by_cases e1 : a = t0
      · exfalso
        rw [if_pos e1] at hma
        by_cases p0 : pr = 0
        · rw [if_pos p0] at hma; exact ho.1 hma
        · rw [if_neg p0] at hma
          exact (prk ⟨pr, by have := hv.1; omega⟩ ⟨zc z, hc2⟩ p0).1 hma
      · rw [if_neg e1] at hma
        by_cases e2 : a = s
        · right; left
          rw [← e2]; exact hthr
        · by_cases e3 : a = vc (zm z) (zp z) s t0
          · left
            rcases vc_cases hb hv with ⟨q, -⟩ | ⟨q, -, -, -, -, -, g⟩
            · exact absurd (e3.trans q) e1
            · unfold pr1 fst1
              rw [hR, hsq_app b3 _ A1 b2]
              show own (zm z) (1 - zc z) a = true
              unfold own
              rw [e3, q, g]
              have := rk_col ⟨1 - zc z, by omega⟩
              simp only at this
              exact decide_eq_true ⟨this.2.2, this.2.1⟩
          · rw [if_neg (fun q => q.elim e2 e3)] at hma
            by_cases e4 : cst (zm z) s t0 ∧ a = (s + t0) / 2
            · exfalso
              exact b3 (by rw [e4.2]; exact (hcs e4.1).2.2.1)
            · rw [if_neg e4] at hma
              by_cases e5 : cst (zm z) s t0 ∧ a = crn s t0
              · right; right
                exact ⟨e5.1, by rw [← e5.2]; exact hthr⟩
              · rw [if_neg e5] at hma
                exact absurd hma b3
theorem cnt_mk {z : Pz} (hb : bz z) {s t0 pr : Nat} (hv : vm z s t0 pr) : cnt (mm (zm z) (zc z) (zp z) s t0 pr) (1 - zc z) ≤ cnt (zm z) (1 - zc z) + 27 := by
  have hc2 := hb.2.1
  have hs := hv.1.1
  by_cases hc : cst (zm z) s t0
  · have hs4 := (hv.2.2.2.2.2.1 hc).1
    have h1 : cnt (mm (zm z) (zc z) (zp z) s t0 pr) (1 - zc z) ≤ tot (fun t d => pr1 (zm z) (1 - zc z) t d || (thr s t d || thr (crn s t0) t d)) := by
      refine tot_le (fun t d ht hd h => ?_)
      rcases pr1_mk hb hv ht hd h with q | q | ⟨-, q⟩
      · rw [q]; rfl
      · rw [q]; simp
      · rw [q]; simp
    have h2 := tot_or (pr1 (zm z) (1 - zc z)) (fun t d => thr s t d || thr (crn s t0) t d)
    have h3 := tot_or (thr s) (thr (crn s t0))
    have h4 : tot (thr s) ≤ 7 ∧ tot (thr (crn s t0)) = 0 := by
      have hf := thr_c
      have hcr : crn s t0 = 56 * zc z + 7 ∨ crn s t0 = 56 * zc z := by
        unfold crn
        rcases hc.2 with q | q
        · rw [if_neg (by omega)]; omega
        · rw [if_pos (by omega)]; omega
      rcases (show zc z = 0 ∨ zc z = 1 by omega) with e | e
      · rw [e] at hcr hs4
        refine ⟨by rw [hs4]; exact hf.1, ?_⟩
        rcases hcr with q | q
        · rw [q]; exact hf.2.2.2.1
        · rw [q]; exact hf.2.2.1
      · rw [e] at hcr hs4
        refine ⟨by rw [hs4]; exact hf.2.1, ?_⟩
        rcases hcr with q | q
        · rw [q]; exact hf.2.2.2.2.2
        · rw [q]; exact hf.2.2.2.2.1
    unfold cnt at h1 ⊢
    omega
  · have h1 : cnt (mm (zm z) (zc z) (zp z) s t0 pr) (1 - zc z) ≤ tot (fun t d => pr1 (zm z) (1 - zc z) t d || thr s t d) := by
      refine tot_le (fun t d ht hd h => ?_)
      rcases pr1_mk hb hv ht hd h with q | q | ⟨q, -⟩
      · rw [q]; rfl
      · rw [q]; simp
      · exact absurd q hc
    have h2 := tot_or (pr1 (zm z) (1 - zc z)) (thr s)
    have h3 := thr_fin ⟨s, hs⟩
    simp only at h3
    unfold cnt at h1 ⊢
    omega
theorem two_moves {z : Pz} (hG : Gz z) {v : Mv} (hv : v ∈ lgl z) : (lgl z).length + (lgl (mkv v z)).length ≤ 511 := by
  obtain ⟨-, -, hvm, hG'⟩ := lgl_ok hG hv
  have h1 := lgl_le z
  have h2 := lgl_le (mkv v z)
  have h3 := pml_cnt hG.1
  have h4 : (pml (mkv v z)).length ≤ cnt (mm (zm z) (zc z) (zp z) v.1 v.2.1 v.2.2) (1 - zc z) + 32 := pml_cnt hG'.1
  have h5 := cnt_mk hG.1.1 hvm
  have h6 := cnt_420 (zm z)
  have hc2 := hG.1.1.2.1
  rcases (show zc z = 0 ∨ zc z = 1 by omega) with e | e
  · rw [e] at h3 h5 h4; simp only [Nat.sub_zero] at h5 h4; omega
  · rw [e] at h3 h5 h4; simp only [Nat.sub_self] at h5 h4; omega
theorem fm_len {α β : Type} (f : α → List β) (b : Nat) : ∀ L : List α, (∀ v ∈ L, (f v).length ≤ b) → (L.flatMap f).length ≤ L.length * b
  | [], _ => Nat.zero_le _
  | a :: L, h => by
    rw [List.flatMap_cons, List.length_append, List.length_cons, Nat.add_mul, Nat.one_mul]
    have h1 := h a List.mem_cons_self
    have h2 := fm_len f b L (fun v hv => h v (List.mem_cons_of_mem _ hv))
    omega
theorem mul_511 : ∀ x : Fin 512, x.val * (511 - x.val) ≤ 65280 := by decide +kernel
theorem hln_1 (g : Nat) (z : Pz) : (hln g 1 z).length ≤ (lgl z).length := by
  have := fm_len (fun v => (hln g 0 (mkv v z)).map (fun x => v :: x)) 1 (lgl z) (fun v _ => by
    rw [List.length_map]
    unfold hln
    split
    · exact Nat.le_refl _
    · exact Nat.zero_le _)
  rw [Nat.mul_one] at this
  exact this
theorem two_mul {z : Pz} (hG : Gz z) (b : Nat) (f : Mv → List (List Mv)) (h : ∀ v ∈ lgl z, (f v).length ≤ (lgl (mkv v z)).length * b) : ((lgl z).flatMap f).length ≤ 65280 * b := by
  by_cases h0 : (lgl z).length = 0
  · have : lgl z = [] := List.eq_nil_of_length_eq_zero h0
    rw [this]
    exact Nat.zero_le _
  · obtain ⟨v, -, hv, -⟩ := drq (P := lgl z) (i := 0) (by omega)
    have hN := two_moves hG hv
    have h1 := fm_len f ((511 - (lgl z).length) * b) (lgl z) (fun v hv => by
      have h1 := h v hv
      have h2 := two_moves hG hv
      exact Nat.le_trans h1 (Nat.mul_le_mul_right _ (by omega)))
    have h2 := mul_511 ⟨(lgl z).length, by omega⟩
    simp only at h2
    rw [← Nat.mul_assoc] at h1
    exact Nat.le_trans h1 (Nat.mul_le_mul_right _ h2)
theorem hln_2 (g : Nat) {z : Pz} (hG : Gz z) : (hln g 2 z).length ≤ 65280 := by
  have := two_mul hG 1 (fun v => (hln g 1 (mkv v z)).map (fun x => v :: x)) (fun v _ => by
    rw [List.length_map, Nat.mul_one]; exact hln_1 g _)
  rw [Nat.mul_one] at this
  exact this
theorem hln_4 (g : Nat) {z : Pz} (hG : Gz z) : (hln g 4 z).length ≤ 65280 * 65280 := by
  refine two_mul hG 65280 (fun v => (hln g 3 (mkv v z)).map (fun x => v :: x)) (fun v hv => ?_)
  rw [List.length_map]
  refine fm_len (fun u => (hln g 2 (mkv u (mkv v z))).map (fun x => u :: x)) 65280 (lgl (mkv v z)) (fun u hu => ?_)
  rw [List.length_map]
  exact hln_2 g (lgl_gz (lgl_gz hG hv) hu)
theorem hln_lt (g n : Nat) (hn : n = 1 ∨ n = 2) {z : Pz} (hG : Gz z) : (hln g (2 * n) z).length < 2 ^ 32 := by
  rcases hn with rfl | rfl
  · have := hln_2 g hG; show (hln g 2 z).length < _; omega
  · have := hln_4 g hG; show (hln g 4 z).length < _; omega
