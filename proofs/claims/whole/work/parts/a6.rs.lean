/-! SOLVING: what it should come to, and the reference -/
def ansP (k g : Nat) (f : Pz → Bool) (z : Pz) : Bool := (decide (k = 1) && btn z g) || f z
def solP (k g : Nat) (f : Pz → Bool) (z : Pz) : Bool := (decide (k = 0) && btn z g) || (!(lgl z).isEmpty && (lgl z).all (fun v => ansP k g f (mkv v z)))
/-- some legal move solves the problem in so many moves -/
def slv (k g : Nat) : Nat → Pz → Bool
  | 0, _ => false
  | n + 1, z => (lgl z).any (fun v => solP k g (slv k g n) (mkv v z))
abbrev okN : Prop := ∀ z, Gz z → (pml z).length ≤ 704
theorem ufr_m {U U' : UnT} {far : Nat} {z : Pz} {s t : Nat} (h : ufr U far z s t) (g : usm U U' far) : ufr U' far z s t :=
  ⟨g.1.trans h.1, g.2.1.trans h.2.1, g.2.2.1.trans h.2.2.1, g.2.2.2.1.trans h.2.2.2.1, g.2.2.2.2.trans h.2.2.2.2⟩
theorem drq {α : Type} {P : List α} {i : Nat} (h : i < P.length) : ∃ v, P[i]? = some v ∧ v ∈ P ∧ P.drop i = v :: P.drop (i + 1) :=
  ⟨P[i], List.getElem?_eq_getElem h, List.getElem_mem h, List.drop_eq_getElem_cons h⟩
abbrev FSol : Type := Int32 → Int32 → Int32 → Int32 → PoT → UnT → LiT → Option (Int32 × PoT × UnT × LiT)
abbrev FSv : Type := Int32 → Int32 → Int32 → Int32 → Int32 → PoT → UnT → LiT → Option (Int32 × PoT × UnT × LiT)
/-- what lies before a place of the lists and of the notes is kept -/
def kpt (U U' : UnT) (Y Y' : LiT) (a b : Nat) : Prop := (∀ i, i < a → usm U U' i) ∧ ∀ j, j < 2048 * b → li_lists Y' j = li_lists Y j
theorem kpt_r (U : UnT) (Y : LiT) (a b : Nat) : kpt U U Y Y a b := ⟨fun i _ => usm_r U i, fun _ _ => rfl⟩
theorem kpt_t {U V W : UnT} {Y X Z : LiT} {a b a' b' : Nat} (h : kpt U V Y X a b) (g : kpt V W X Z a' b') {a0 b0 : Nat} (h1 : a0 ≤ a) (h2 : a0 ≤ a') (h3 : b0 ≤ b) (h4 : b0 ≤ b') : kpt U W Y Z a0 b0 :=
  ⟨fun i hi => usm_t (h.1 i (by omega)) (g.1 i (by omega)), fun j hj => (g.2 j (by omega)).trans (h.2 j (by omega))⟩
def KSol (f : FSol) (k g n far : Nat) : Prop := ∀ z Q U Y, Gz z → RQ Q z → ∃ Q' U' Y', f (nI k) (nI g) (nI n) (nI far) Q U Y = some (cond (slv k g n z) 1 0, Q', U', Y') ∧ RQ Q' z ∧ kpt U U' Y Y' far far
def KSv (f : FSv) (k g n far : Nat) (p : Pz → Bool) : Prop := ∀ z v Q U Y, Gz z → v ∈ lgl z → RQ Q z → ∃ Q' U' Y', f (nI k) (nI g) (nI n) (nI far) (cd v) Q U Y = some (cond (p (mkv v z)) 1 0, Q', U', Y') ∧ RQ Q' z ∧ kpt U U' Y Y' far (far + 1)
theorem lgl_ok {z : Pz} (hG : Gz z) {v : Mv} (h : v ∈ lgl z) : pmv z v ∧ lgv z v = true ∧ vm z v.1 v.2.1 v.2.2 ∧ Gz (mkv v z) := by
  obtain ⟨h1, h2⟩ := List.mem_filter.mp h
  exact ⟨mem_pml h1, h2, pmv_vm hG (mem_pml h1), lgl_gz hG h⟩
theorem rf_mkv (Q : PoT) (U : UnT) (z : Pz) (hQ : RQ Q z) (hG : Gz z) (v : Mv) (hv : v ∈ lgl z) (far : Nat) (hfar : far < 10) : ∃ Q' U', f_M_make (cd v) (nI far) Q U = some (Q', U') ∧ RQ Q' (mkv v z) ∧ ufr U' far z v.1 v.2.1 ∧ ∀ j, ¬ j = far → usm U U' j :=
  rf_make Q U z hQ v.1 v.2.1 v.2.2 far (by omega) (vm_vq hG.1.1 (lgl_ok hG hv).2.2.1)
theorem rf_unv (Q : PoT) (U : UnT) (z : Pz) (hG : Gz z) (v : Mv) (hv : v ∈ lgl z) (far : Nat) (hfar : far < 10) (hQ : RQ Q (mkv v z)) (hU : ufr U far z v.1 v.2.1) : ∃ Q', f_M_takeBack (cd v) (nI far) Q U = some Q' ∧ RQ Q' z :=
  rf_back Q U z v.1 v.2.1 v.2.2 far (by omega) hQ hU hG.1.1 (lgl_ok hG hv).2.2.1
theorem rs_ans (fu : Nat) (hfu : 64 < fu) (c1 : FSol) (c2 c3 : FSv) (k g n far : Nat) (hk : k < 2) (hg : g < 2) (hn : 1 ≤ n) (hn3 : n ≤ 3) (hfar : far < 9) (h1 : 2 ≤ n → KSol c1 k g (n - 1) (far + 1)) : KSv (e_M_isAnswered fu c1 c2 c3) k g n far (ansP k g (slv k g (n - 1))) := by
  intro z v Q U Y hG hv hQ
  obtain ⟨Q1, U1, e1, e2, e3, e4⟩ := rf_mkv Q U z hQ hG v hv far (by omega)
  have hG' := (lgl_ok hG hv).2.2.2
  have hk0 : kpt U U1 Y Y far (far + 1) := ⟨fun i hi => e4 i (by omega), fun _ _ => rfl⟩
  have fin : ∀ (Q2 : PoT) (U2 : UnT) (Y2 : LiT) (b : Bool), RQ Q2 (mkv v z) → kpt U1 U2 Y Y2 (far + 1) (far + 1) → ∃ Q' U' Y', j_M_isAnswered_47 fu c1 c2 c3 Q2 U2 Y2 (nI far) (cd v) (cond b 1 0) = some (cond b 1 0, Q', U', Y') ∧ RQ Q' z ∧ kpt U U' Y Y' far (far + 1) := by
    intro Q2 U2 Y2 b r1 r2
    obtain ⟨Q3, q1, q2⟩ := rf_unv Q2 U2 z hG v hv far (by omega) r1 (ufr_m e3 (r2.1 far (by omega)))
    unfold j_M_isAnswered_47
    rw [q1]
    simp only [Option.bind_some]
    rw [pu_nar]
    exact ⟨Q3, U2, Y2, rfl, q2, kpt_t hk0 r2 (by omega) (by omega) (by omega) (by omega)⟩
  have h21 : ∀ (Q2 : PoT) (U2 : UnT) (Y2 : LiT), RQ Q2 (mkv v z) → kpt U1 U2 Y Y2 (far + 1) (far + 1) → ∃ Q' U' Y', j_M_isAnswered_21 fu c1 c2 c3 Q2 U2 Y2 (nI k) (nI g) (nI n) (nI far) (cd v) = some (cond (slv k g (n - 1) (mkv v z)) 1 0, Q', U', Y') ∧ RQ Q' z ∧ kpt U U' Y Y' far (far + 1) := by
    intro Q2 U2 Y2 r1 r2
    unfold j_M_isAnswered_21 j_M_isAnswered_46 j_M_isAnswered_42
    by_cases hn1 : n = 1
    · rw [if_pos (show nI n ≤ 1 from nI_le (b := 1) (by omega) (by decide)), hn1]
      exact fin Q2 U2 Y2 false r1 r2
    · rw [if_neg (show ¬ nI n ≤ 1 from nI_ge (a := 1) (by omega) (by omega)), show nI n - (1 : Int32) = nI (n - 1) from nI_sub (b := 1) (by omega), nI_1]
      obtain ⟨Q3, U3, Y3, q1, q2, q3⟩ := h1 (by omega) (mkv v z) Q2 U2 Y2 hG' r1
      rw [q1]
      simp only [Option.bind_some]
      have r3 : kpt U1 U3 Y Y3 (far + 1) (far + 1) := kpt_t r2 q3 (by omega) (by omega) (by omega) (by omega)
      cases slv k g (n - 1) (mkv v z) with
      | false => rw [if_pos (by decide)]; exact fin Q3 U3 Y3 false q2 r3
      | true => rw [if_neg (by decide)]; exact fin Q3 U3 Y3 true q2 r3
  unfold e_M_isAnswered
  rw [e1]
  simp only [Option.bind_some]
  unfold ansP
  rcases (show k = 0 ∨ k = 1 by omega) with rfl | rfl
  · rw [if_pos (by decide)]
    exact h21 Q1 U1 Y e2 (kpt_r U1 Y _ _)
  · rw [if_neg (fun q => q rfl)]
    obtain ⟨Q2, U2, b1, b2, b3⟩ := rf_beaten fu hfu (mkv v z) hG' g hg Q1 U1 e2
    have r2 : kpt U1 U2 Y Y (far + 1) (far + 1) := ⟨fun i hi => b3 i (by omega), fun _ _ => rfl⟩
    rw [b1]
    simp only [Option.bind_some]
    cases btn (mkv v z) g with
    | true =>
      rw [if_pos (by decide)]
      exact fin Q2 U2 Y true b2 r2
    | false =>
      rw [if_neg (by decide)]
      exact h21 Q2 U2 Y b2 r2
theorem rs_66 (fu : Nat) (c1 : FSol) (c2 c3 : FSv) (k g n far : Nat) (hfar : far < 9) (p : Pz → Bool) (h3 : KSv c3 k g n (far + 1) p) (z : Pz) (hG : Gz z) (hN : (pml z).length ≤ 704) (x5 : Int32) : ∀ (r m i : Nat) (b : Bool) (Q : PoT) (U : UnT) (Y : LiT), i + r = (lgl z).length → r < m → RQ Q z → (∀ i v, (lgl z)[i]? = some v → li_lists Y (2048 * (far + 1) + i) = cd v) → ∃ Q' U' Y', l_M_solves_66 fu c1 c2 c3 (nI k) (nI g) (nI n) (nI far) x5 (nI (lgl z).length) m (cond b 1 0) (nI i) Q U Y = some (cond (b && ((lgl z).drop i).all (fun v => p (mkv v z))) 1 0, Q', U', Y') ∧ RQ Q' z ∧ kpt U U' Y Y' (far + 1) (far + 2) := by
  have hle := lgl_le z
  intro r
  induction r with
  | zero =>
    intro m i b Q U Y hi hm hQ hY
    obtain ⟨m, rfl⟩ : ∃ x, m = x + 1 := ⟨m - 1, by omega⟩
    show ∃ Q' U' Y', b_M_solves_66 fu c1 c2 c3 (nI k) (nI g) (nI n) (nI far) x5 (nI (lgl z).length) _ (cond b 1 0) (nI i) Q U Y = _ ∧ _
    unfold b_M_solves_66
    rw [if_pos (nI_le (by omega) (by omega)), List.drop_of_length_le (by omega)]
    exact ⟨Q, U, Y, by simp, hQ, kpt_r U Y _ _⟩
  | succ r ih =>
    intro m i b Q U Y hi hm hQ hY
    obtain ⟨m, rfl⟩ : ∃ x, m = x + 1 := ⟨m - 1, by omega⟩
    show ∃ Q' U' Y', b_M_solves_66 fu c1 c2 c3 (nI k) (nI g) (nI n) (nI far) x5 (nI (lgl z).length) (l_M_solves_66 fu c1 c2 c3 (nI k) (nI g) (nI n) (nI far) x5 (nI (lgl z).length) m) (cond b 1 0) (nI i) Q U Y = _ ∧ _
    unfold b_M_solves_66
    rw [if_neg (nI_ge (by omega) (by omega))]
    cases b with
    | false =>
      rw [if_pos (by decide)]
      exact ⟨Q, U, Y, by simp, hQ, kpt_r U Y _ _⟩
    | true =>
      rw [if_neg (by decide)]
      obtain ⟨v, g1, g2, g3⟩ := drq (P := lgl z) (i := i) (by omega)
      have m3 := mul2048 ⟨far + 1, by omega⟩
      simp only at m3
      rw [nI_1, m3, nI_add, if_pos (pu_in (show 2048 * (far + 1) + i < 20480 by omega) (by decide)), nI_clamp (show 2048 * (far + 1) + i < _ by omega), hY i v g1]
      obtain ⟨Q1, U1, Y1, q1, q2, q3⟩ := h3 z v Q U Y hG g2 hQ
      rw [q1]
      simp only [Option.bind_some]
      rw [nI_1, g3, List.all_cons, Bool.true_and]
      obtain ⟨Q2, U2, Y2, s1, s2, s3⟩ := ih m (i + 1) (p (mkv v z)) Q1 U1 Y1 (by omega) (by omega) q2 (fun j u hu => by
        have hj : j < (lgl z).length := (List.getElem?_eq_some_iff.mp hu).1
        rw [q3.2 _ (by omega)]; exact hY j u hu)
      exact ⟨Q2, U2, Y2, s1, s2, kpt_t q3 s3 (by omega) (by omega) (by omega) (by omega)⟩
theorem rs_sol (hN : okN) (fu : Nat) (hfu : 704 < fu) (c1 : FSol) (c2 c3 : FSv) (k g n far : Nat) (hk : k < 2) (hg : g < 2) (hn : 1 ≤ n) (hn3 : n ≤ 3) (hfar : far < 8) (h3 : KSv c3 k g n (far + 1) (ansP k g (slv k g (n - 1)))) : KSv (e_M_solves fu c1 c2 c3) k g n far (solP k g (slv k g (n - 1))) := by
  intro z v Q U Y hG hv hQ
  obtain ⟨Q1, U1, e1, e2, e3, e4⟩ := rf_mkv Q U z hQ hG v hv far (by omega)
  have hG' := (lgl_ok hG hv).2.2.2
  have hk0 : kpt U U1 Y Y far (far + 1) := ⟨fun i hi => e4 i (by omega), fun _ _ => rfl⟩
  have fin : ∀ (Q2 : PoT) (U2 : UnT) (Y2 : LiT) (b : Bool), RQ Q2 (mkv v z) → kpt U1 U2 Y Y2 (far + 1) (far + 1) → ∃ Q' U' Y', j_M_solves_113 fu c1 c2 c3 Q2 U2 Y2 (nI far) (cd v) (cond b 1 0) = some (cond b 1 0, Q', U', Y') ∧ RQ Q' z ∧ kpt U U' Y Y' far (far + 1) := by
    intro Q2 U2 Y2 b r1 r2
    obtain ⟨Q3, q1, q2⟩ := rf_unv Q2 U2 z hG v hv far (by omega) r1 (ufr_m e3 (r2.1 far (by omega)))
    unfold j_M_solves_113
    rw [q1]
    simp only [Option.bind_some]
    rw [pu_nar]
    exact ⟨Q3, U2, Y2, rfl, q2, kpt_t hk0 r2 (by omega) (by omega) (by omega) (by omega)⟩
  have hle := lgl_le (mkv v z)
  have hN' := hN _ hG'
  have h45 : ∀ (Q2 : PoT) (U2 : UnT), RQ Q2 (mkv v z) → kpt U1 U2 Y Y (far + 1) (far + 1) → ∃ Q' U' Y', j_M_solves_45 fu c1 c2 c3 Q2 U2 Y (nI k) (nI g) (nI n) (nI far) (cd v) 0 = some (cond (!(lgl (mkv v z)).isEmpty && (lgl (mkv v z)).all (fun u => ansP k g (slv k g (n - 1)) (mkv u (mkv v z)))) 1 0, Q', U', Y') ∧ RQ Q' z ∧ kpt U U' Y Y' far (far + 1) := by
    intro Q2 U2 r1 r2
    unfold j_M_solves_45 j_M_solves_53
    rw [nI_1]
    obtain ⟨Q3, U3, Y3, q1, q2, q3, q4⟩ := rf_list fu (by omega) (mkv v z) hG' hN' (far + 1) (by omega) Q2 U2 Y r1
    rw [q1]
    simp only [Option.bind_some]
    have r3 : kpt U1 U3 Y Y3 (far + 1) (far + 1) := kpt_t r2 (show kpt U2 U3 Y Y3 (far + 1) (far + 1) from ⟨fun i hi => q3 i (by omega), fun j hj => q4.2 j (Or.inl hj)⟩) (by omega) (by omega) (by omega) (by omega)
    cases hL : lgl (mkv v z) with
    | nil =>
      rw [show nI ([] : List Mv).length = 0 from rfl, if_pos (by decide)]
      exact fin Q3 U3 Y3 false q2 r3
    | cons a L =>
      rw [← hL]
      have hlen : 0 < (lgl (mkv v z)).length := by rw [hL]; simp
      rw [if_neg (nI_nle hlen (by omega))]
      obtain ⟨Q4, U4, Y4, s1, s2, s3⟩ := rs_66 fu c1 c2 c3 k g n far (by omega) _ h3 (mkv v z) hG' hN' (cd v) (lgl (mkv v z)).length fu 0 true Q3 U3 Y3 (by omega) (by omega) q2 q4.1
      rw [show l_M_solves_66 fu c1 c2 c3 (nI k) (nI g) (nI n) (nI far) (cd v) (nI (lgl (mkv v z)).length) fu (1 : Int32) (0 : Int32) Q3 U3 Y3 = _ from s1]
      simp only [Option.bind_some]
      rw [show (lgl (mkv v z)).isEmpty = false from by rw [hL]; rfl]
      exact fin Q4 U4 Y4 _ s2 (kpt_t r3 s3 (by omega) (by omega) (by omega) (by omega))
  have h24 : ∀ (Q2 : PoT) (U2 : UnT), RQ Q2 (mkv v z) → kpt U1 U2 Y Y (far + 1) (far + 1) → ∃ Q' U' Y', j_M_solves_24 fu c1 c2 c3 Q2 U2 Y (nI k) (nI g) (nI n) (nI far) (cd v) = some (cond (!(lgl (mkv v z)).isEmpty && (lgl (mkv v z)).all (fun u => ansP k g (slv k g (n - 1)) (mkv u (mkv v z)))) 1 0, Q', U', Y') ∧ RQ Q' z ∧ kpt U U' Y Y' far (far + 1) := by
    intro Q2 U2 r1 r2
    unfold j_M_solves_24 j_M_solves_25
    rw [if_neg (fun q => q rfl)]
    rcases (show k = 0 ∨ k = 1 by omega) with rfl | rfl
    · rw [if_neg (fun q => q rfl)]
      by_cases hn1 : n = 1
      · rw [if_neg (fun q => q (by rw [hn1]; decide))]
        unfold j_M_solves_41 j_M_solves_53
        rw [if_pos (by decide)]
        have : (!(lgl (mkv v z)).isEmpty && (lgl (mkv v z)).all (fun u => ansP 0 g (slv 0 g (n - 1)) (mkv u (mkv v z)))) = false := by
          cases hL : lgl (mkv v z) with
          | nil => rfl
          | cons a L =>
            rw [List.all_cons, hn1]
            rfl
        rw [this]
        exact fin Q2 U2 Y false r1 r2
      · rw [if_pos (show ¬ nI n = (1 : Int32) from fun q => hn1 ((nI_eq (b := 1) (by omega) (by decide)).mp q))]
        exact h45 Q2 U2 r1 r2
    · rw [if_pos (by decide)]
      exact h45 Q2 U2 r1 r2
  unfold e_M_solves
  rw [e1]
  simp only [Option.bind_some]
  unfold solP
  rcases (show k = 0 ∨ k = 1 by omega) with rfl | rfl
  · rw [if_neg (fun q => q rfl)]
    obtain ⟨Q2, U2, b1, b2, b3⟩ := rf_beaten fu (by omega) (mkv v z) hG' g hg Q1 U1 e2
    have r2 : kpt U1 U2 Y Y (far + 1) (far + 1) := ⟨fun i hi => b3 i (by omega), fun _ _ => rfl⟩
    rw [b1]
    simp only [Option.bind_some]
    cases btn (mkv v z) g with
    | true =>
      rw [if_neg (by decide)]
      unfold j_M_solves_25
      rw [if_pos (by decide)]
      unfold j_M_solves_41 j_M_solves_53
      rw [if_pos (by decide)]
      exact fin Q2 U2 Y true b2 r2
    | false =>
      rw [if_pos (by decide)]
      exact h24 Q2 U2 b2 r2
  · rw [if_pos (by decide)]
    exact h24 Q1 U1 e2 (kpt_r U1 Y _ _)
theorem rs_14 (fu : Nat) (c1 : FSol) (c2 c3 : FSv) (k g n far : Nat) (hn : 1 ≤ n) (hn3 : n ≤ 3) (hfar : far < 9) (p : Pz → Bool) (h2 : KSv c2 k g n far p) (z : Pz) (hG : Gz z) (hN : (pml z).length ≤ 704) : ∀ (r m i : Nat) (b : Bool) (Q : PoT) (U : UnT) (Y : LiT), i + r = (lgl z).length → r < m → RQ Q z → (∀ i v, (lgl z)[i]? = some v → li_lists Y (2048 * far + i) = cd v) → ∃ Q' U' Y', l_M_isSolved_14 fu c1 c2 c3 (nI k) (nI g) (nI n) (nI far) (nI (lgl z).length) m (cond b 1 0) (nI i) Q U Y = some (cond (b || ((lgl z).drop i).any (fun v => p (mkv v z))) 1 0, Q', U', Y') ∧ RQ Q' z ∧ kpt U U' Y Y' far (far + 1) := by
  have hle := lgl_le z
  intro r
  induction r with
  | zero =>
    intro m i b Q U Y hi hm hQ hY
    obtain ⟨m, rfl⟩ : ∃ x, m = x + 1 := ⟨m - 1, by omega⟩
    show ∃ Q' U' Y', b_M_isSolved_14 fu c1 c2 c3 (nI k) (nI g) (nI n) (nI far) (nI (lgl z).length) _ (cond b 1 0) (nI i) Q U Y = _ ∧ _
    unfold b_M_isSolved_14
    rw [if_pos (nI_le (by omega) (by omega)), List.drop_of_length_le (by omega), pu_nar]
    exact ⟨Q, U, Y, by simp, hQ, kpt_r U Y _ _⟩
  | succ r ih =>
    intro m i b Q U Y hi hm hQ hY
    obtain ⟨m, rfl⟩ : ∃ x, m = x + 1 := ⟨m - 1, by omega⟩
    show ∃ Q' U' Y', b_M_isSolved_14 fu c1 c2 c3 (nI k) (nI g) (nI n) (nI far) (nI (lgl z).length) (l_M_isSolved_14 fu c1 c2 c3 (nI k) (nI g) (nI n) (nI far) (nI (lgl z).length) m) (cond b 1 0) (nI i) Q U Y = _ ∧ _
    unfold b_M_isSolved_14
    rw [if_neg (nI_ge (by omega) (by omega)), if_neg (nI_nle (by omega) (by omega))]
    cases b with
    | true =>
      rw [if_pos (by decide), pu_nar]
      exact ⟨Q, U, Y, by simp, hQ, kpt_r U Y _ _⟩
    | false =>
      rw [if_neg (by decide)]
      obtain ⟨v, g1, g2, g3⟩ := drq (P := lgl z) (i := i) (by omega)
      have m3 := mul2048 ⟨far, by omega⟩
      simp only at m3
      rw [m3, nI_add, if_pos (pu_in (show 2048 * far + i < 20480 by omega) (by decide)), nI_clamp (show 2048 * far + i < _ by omega), hY i v g1]
      obtain ⟨Q1, U1, Y1, q1, q2, q3⟩ := h2 z v Q U Y hG g2 hQ
      rw [q1]
      simp only [Option.bind_some]
      rw [nI_1, g3, List.any_cons, Bool.false_or]
      obtain ⟨Q2, U2, Y2, s1, s2, s3⟩ := ih m (i + 1) (p (mkv v z)) Q1 U1 Y1 (by omega) (by omega) q2 (fun j u hu => by
        have hj : j < (lgl z).length := (List.getElem?_eq_some_iff.mp hu).1
        rw [q3.2 _ (by omega)]; exact hY j u hu)
      exact ⟨Q2, U2, Y2, s1, s2, kpt_t q3 s3 (by omega) (by omega) (by omega) (by omega)⟩
theorem rs_is (hN : okN) (fu : Nat) (hfu : 704 < fu) (c1 : FSol) (c2 c3 : FSv) (k g n far : Nat) (hn : 1 ≤ n) (hn3 : n ≤ 3) (hfar : far < 9) (h2 : KSv c2 k g n far (solP k g (slv k g (n - 1)))) : KSol (e_M_isSolved fu c1 c2 c3) k g n far := by
  intro z Q U Y hG hQ
  have hN' := hN z hG
  have hle := lgl_le z
  obtain ⟨Q1, U1, Y1, q1, q2, q3, q4⟩ := rf_list fu (by omega) z hG hN' far (by omega) Q U Y hQ
  unfold e_M_isSolved
  rw [q1]
  simp only [Option.bind_some]
  obtain ⟨Q2, U2, Y2, s1, s2, s3⟩ := rs_14 fu c1 c2 c3 k g n far hn hn3 hfar _ h2 z hG hN' (lgl z).length fu 0 false Q1 U1 Y1 (by omega) (by omega) q2 q4.1
  refine ⟨Q2, U2, Y2, ?_, s2, kpt_t (show kpt U U1 Y Y1 far far from ⟨fun i hi => q3 i (by omega), fun j hj => q4.2 j (Or.inl hj)⟩) s3 (by omega) (by omega) (by omega) (by omega)⟩
  obtain ⟨n, rfl⟩ : ∃ m, n = m + 1 := ⟨n - 1, by omega⟩
  exact s1
theorem rs_all (hN : okN) (fu : Nat) (hfu : 704 < fu) (k g : Nat) (hk : k < 2) (hg : g < 2) : ∀ n, n ≤ 2 → (∀ d far, 3 * n + 1 ≤ d → far + 2 * n ≤ 6 → KSv (g_M_isSolved fu d).2.2 k g (n + 1) (far + 1) (ansP k g (slv k g n))) ∧ (∀ d far, 3 * n + 2 ≤ d → far + 2 * n ≤ 6 → KSv (g_M_isSolved fu d).2.1 k g (n + 1) far (solP k g (slv k g n))) ∧ (∀ d far, 3 * n + 3 ≤ d → far + 2 * n ≤ 6 → KSol (g_M_isSolved fu d).1 k g (n + 1) far) := by
  intro n
  induction n with
  | zero =>
    intro _
    have a : ∀ d far, 3 * 0 + 1 ≤ d → far + 2 * 0 ≤ 6 → KSv (g_M_isSolved fu d).2.2 k g (0 + 1) (far + 1) (ansP k g (slv k g 0)) := by
      intro d far hd hf
      obtain ⟨d, rfl⟩ : ∃ e, d = e + 1 := ⟨d - 1, by omega⟩
      exact rs_ans fu (by omega) _ _ _ k g 1 (far + 1) hk hg (by omega) (by omega) (by omega) (fun h => by omega)
    have b : ∀ d far, 3 * 0 + 2 ≤ d → far + 2 * 0 ≤ 6 → KSv (g_M_isSolved fu d).2.1 k g (0 + 1) far (solP k g (slv k g 0)) := by
      intro d far hd hf
      obtain ⟨d, rfl⟩ : ∃ e, d = e + 1 := ⟨d - 1, by omega⟩
      exact rs_sol hN fu hfu _ _ _ k g 1 far hk hg (by omega) (by omega) (by omega) (a d far (by omega) (by omega))
    refine ⟨a, b, fun d far hd hf => ?_⟩
    obtain ⟨d, rfl⟩ : ∃ e, d = e + 1 := ⟨d - 1, by omega⟩
    exact rs_is hN fu hfu _ _ _ k g 1 far (by omega) (by omega) (by omega) (b d far (by omega) (by omega))
  | succ n ih =>
    intro hn
    obtain ⟨-, -, i3⟩ := ih (by omega)
    have a : ∀ d far, 3 * (n + 1) + 1 ≤ d → far + 2 * (n + 1) ≤ 6 → KSv (g_M_isSolved fu d).2.2 k g (n + 1 + 1) (far + 1) (ansP k g (slv k g (n + 1))) := by
      intro d far hd hf
      obtain ⟨d, rfl⟩ : ∃ e, d = e + 1 := ⟨d - 1, by omega⟩
      exact rs_ans fu (by omega) _ _ _ k g (n + 2) (far + 1) hk hg (by omega) (by omega) (by omega) (fun _ => i3 d (far + 2) (by omega) (by omega))
    have b : ∀ d far, 3 * (n + 1) + 2 ≤ d → far + 2 * (n + 1) ≤ 6 → KSv (g_M_isSolved fu d).2.1 k g (n + 1 + 1) far (solP k g (slv k g (n + 1))) := by
      intro d far hd hf
      obtain ⟨d, rfl⟩ : ∃ e, d = e + 1 := ⟨d - 1, by omega⟩
      exact rs_sol hN fu hfu _ _ _ k g (n + 2) far hk hg (by omega) (by omega) (by omega) (a d far (by omega) (by omega))
    refine ⟨a, b, fun d far hd hf => ?_⟩
    obtain ⟨d, rfl⟩ : ∃ e, d = e + 1 := ⟨d - 1, by omega⟩
    exact rs_is hN fu hfu _ _ _ k g (n + 2) far (by omega) (by omega) (by omega) (b d far (by omega) (by omega))
