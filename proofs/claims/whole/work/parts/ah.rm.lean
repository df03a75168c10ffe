/-! THE MEN OF A POSITION ARE READ, on both sides -/
def ltr (j : Nat) : Nat := ([80, 80, 78, 66, 82, 81, 75, 80].getD (j % 8) 80) + (if 8 ≤ j then 32 else 0)
def mo1 (c : Nat) : Nat → Nat → Nat
  | _, 0 => 0
  | i, r + 1 => if ¬ c = 32 ∧ tb_LETTERS i = nI c then i else mo1 c (i + 1) r
def mo2 (c : Nat) : Nat → Nat → Nat → Nat
  | f, _, 0 => f
  | f, i, r + 1 => mo2 c (if 1 ≤ i % 8 ∧ i % 8 < 7 ∧ ltr i = c then i else f) (i + 1) r
def mof (c : Nat) : Nat := mo1 c 1 14
theorem mof_fin : ∀ c : Fin 128, mo2 c 0 1 14 = mof c ∧ (mof c = 0 ∨ (mof c < 16 ∧ 1 ≤ mof c % 8 ∧ mof c % 8 ≤ 6)) ∧ (49 ≤ c.val → c.val ≤ 56 → mof c = 0) := by decide +kernel
theorem ltr_fin : ∀ j : Fin 16, f_M_letter (nI j) = some (nI (ltr j)) ∧ f_M_kind (nI j) = some (nI (j.val % 8)) := by decide +kernel
theorem ltr_lt : ∀ j : Fin 16, ltr j < 128 := by decide +kernel
theorem c_mof (fu c : Nat) (hc : c < 128) : ∀ (r m i : Nat), i + r = 15 → r < m → l_Reader_manOf_2 fu (nI c) m (nI i) = some (nI (mo1 c i r)) := by
  intro r
  induction r with
  | zero =>
    intro m i hi hm
    obtain ⟨m, rfl⟩ : ∃ x, m = x + 1 := ⟨m - 1, by omega⟩
    show b_Reader_manOf_2 fu (nI c) _ (nI i) = _
    unfold b_Reader_manOf_2
    rw [if_pos (show (15 : Int32) ≤ nI i from nI_le (a := 15) (by omega) (by omega))]
    rfl
  | succ r ih =>
    intro m i hi hm
    obtain ⟨m, rfl⟩ : ∃ x, m = x + 1 := ⟨m - 1, by omega⟩
    show b_Reader_manOf_2 fu (nI c) (l_Reader_manOf_2 fu (nI c) m) (nI i) = _
    unfold b_Reader_manOf_2 j_Reader_manOf_29 mo1
    rw [if_neg (show ¬ (15 : Int32) ≤ nI i from nI_ge (b := 15) (by omega) (by decide)), if_pos (pu_in (show i < 15 by omega) (by decide)), nI_clamp (by omega), nI_1, ih m (i + 1) (by omega) (by omega)]
    by_cases h1 : c = 32
    · rw [if_pos (by rw [h1]; rfl), if_neg (fun q => q.1 h1)]
    · rw [if_neg (show ¬ nI c = (32 : Int32) from fun q => h1 ((nI_eq (b := 32) (by omega) (by decide)).mp q))]
      by_cases h2 : tb_LETTERS i = nI c
      · rw [if_neg (fun q => q h2), if_pos ⟨h1, h2⟩]
      · rw [if_pos h2, if_neg (fun q => h2 q.2)]
theorem c_manOf (fu c : Nat) (hfu : 64 < fu) (hc : c < 128) : f_Reader_manOf fu (nI c) = some (nI (mof c)) := c_mof fu c hc 14 fu 1 (by omega) (by omega)
theorem r_mof (fu c : Nat) (hc : c < 128) : ∀ (r m i f : Nat), i + r = 15 → 1 ≤ i → r < m → l_M_manOf_4 fu (nI c) m (nI f) (nI i) = some (nI (mo2 c f i r)) := by
  intro r
  induction r with
  | zero =>
    intro m i f hi h1 hm
    obtain ⟨m, rfl⟩ : ∃ x, m = x + 1 := ⟨m - 1, by omega⟩
    show b_M_manOf_4 fu (nI c) _ (nI f) (nI i) = _
    unfold b_M_manOf_4
    rw [if_pos (show (15 : Int32) ≤ nI i from nI_le (a := 15) (by omega) (by omega))]
    rfl
  | succ r ih =>
    intro m i f hi h1 hm
    obtain ⟨m, rfl⟩ : ∃ x, m = x + 1 := ⟨m - 1, by omega⟩
    show b_M_manOf_4 fu (nI c) (l_M_manOf_4 fu (nI c) m) (nI f) (nI i) = _
    obtain ⟨l1, l2⟩ := ltr_fin ⟨i, by omega⟩
    have l3 := ltr_lt ⟨i, by omega⟩
    simp only at l1 l2 l3
    unfold b_M_manOf_4 j_M_manOf_38 j_M_manOf_39 mo2
    rw [if_neg (show ¬ (15 : Int32) ≤ nI i from nI_ge (b := 15) (by omega) (by decide)), l2, l1, nI_1]
    simp only [Option.bind_some]
    rw [ih m (i + 1) f (by omega) (by omega) (by omega), ih m (i + 1) i (by omega) (by omega) (by omega)]
    by_cases q1 : i % 8 = 0
    · rw [if_pos (by rw [q1]; decide), if_neg (by omega)]
    · rw [if_neg (nI_nle (by omega) (by omega))]
      by_cases q2 : 7 ≤ i % 8
      · rw [if_pos (show (7 : Int32) ≤ nI (i % 8) from nI_le (a := 7) q2 (by omega)), if_neg (by omega)]
      · rw [if_neg (show ¬ (7 : Int32) ≤ nI (i % 8) from nI_ge (b := 7) (by omega) (by decide))]
        by_cases q3 : ltr i = c
        · rw [if_neg (fun q => q (by rw [q3])), if_pos (by omega)]
        · rw [if_pos (fun q => q3 ((nI_eq (by omega) (by omega)).mp q)), if_neg (fun q => q3 q.2.2)]
theorem r_manOf (fu c : Nat) (hfu : 64 < fu) (hc : c < 128) : f_M_manOf fu (nI c) = some (nI (mof c)) := by
  rw [← (mof_fin ⟨c, hc⟩).1]
  exact r_mof fu c hc 14 fu 1 0 (by omega) (by omega) (by omega)
/-- squares that were read -/
abbrev dn (rank file x : Nat) : Prop := rank < x / 8 ∨ (x / 8 = rank ∧ x % 8 < file)
def RM (m q : Nat → Int32) (rank file : Nat) : Prop := ∀ x, x < 64 → (dn rank file x → q x = m x) ∧ (¬ dn rank file x → m x = 0)
def DR (D : BdT) : Prop := okh D ∧ okm (bd_men D) ∧ okk (bd_men D)
def oq (q : Nat → Int32) : Prop := ∀ i, 64 ≤ i → q i = 0
theorem oq_u {q : Nat → Int32} (h : oq q) {k : Nat} (hk : k < 64) (x : Int32) : oq (upd q k x) := fun i hi => by rw [upd_o _ _ (by omega)]; exact h i hi
theorem r_66 (fu : Nat) (G : RtT) (x1 : Int32) (rank file c : Nat) (hc : 49 ≤ c) (hc8 : file + (c - 48) ≤ 8) (hr : rank < 8) : ∀ (r m k : Nat) (Q : PoT), k + r = c - 48 → r < m → oq (po_men Q) → ∃ q', l_M_readMen_66 fu G x1 (nI rank) (nI file) (nI c) m (nI k) Q = some (q', Q.2) ∧ oq q' ∧ ∀ x, q' x = if 8 * rank + file + k ≤ x ∧ x < 8 * rank + file + (c - 48) then 0 else po_men Q x := by
  intro r
  induction r with
  | zero =>
    intro m k Q hk hm ho
    obtain ⟨m, rfl⟩ : ∃ x, m = x + 1 := ⟨m - 1, by omega⟩
    refine ⟨po_men Q, ?_, ho, fun x => by rw [if_neg (by omega)]⟩
    show b_M_readMen_66 fu G x1 (nI rank) (nI file) (nI c) _ (nI k) Q = _
    unfold b_M_readMen_66
    rw [show nI c - (48 : Int32) = nI (c - 48) from nI_sub (b := 48) (by omega), if_pos (nI_le (by omega) (by omega))]
  | succ r ih =>
    intro m k Q hk hm ho
    obtain ⟨m, rfl⟩ : ∃ x, m = x + 1 := ⟨m - 1, by omega⟩
    show ∃ q', b_M_readMen_66 fu G x1 (nI rank) (nI file) (nI c) (l_M_readMen_66 fu G x1 (nI rank) (nI file) (nI c) m) (nI k) Q = _ ∧ _
    unfold b_M_readMen_66
    rw [show nI c - (48 : Int32) = nI (c - 48) from nI_sub (b := 48) (by omega), if_neg (nI_ge (by omega) (by omega)), mul8, nI_add, nI_add, if_pos (pu_in (show 8 * rank + file + k < 64 by omega) (by decide)), nI_clamp (show 8 * rank + file + k < _ by omega), nI_1]
    obtain ⟨q', e1, e2, e3⟩ := ih m (k + 1) (upd (po_men Q) (8 * rank + file + k) 0, po_side Q, po_rights Q, po_passed Q, po_clock Q) (by omega) (by omega) (oq_u ho (by omega) 0)
    refine ⟨q', e1, e2, fun x => ?_⟩
    rw [e3]
    show (if _ then (0 : Int32) else upd (po_men Q) (8 * rank + file + k) 0 x) = _
    by_cases h1 : 8 * rank + file + (k + 1) ≤ x ∧ x < 8 * rank + file + (c - 48)
    · rw [if_pos h1, if_pos (by omega)]
    · rw [if_neg h1]
      by_cases h2 : x = 8 * rank + file + k
      · rw [h2, upd_s, if_pos (by omega)]
      · rw [upd_o _ _ h2, if_neg (by omega)]
theorem man_k : ∀ k : Fin 16, 1 ≤ k.val % 8 → k.val % 8 ≤ 6 → ¬ nI k = 0 ∧ am_in (nI k) 16 = true ∧ (nI k &&& 7 = 1 ∨ nI k &&& 7 = 2 ∨ nI k &&& 7 = 3 ∨ nI k &&& 7 = 4 ∨ nI k &&& 7 = 5 ∨ nI k &&& 7 = 6) := by decide +kernel
def kR (fu : Nat) (T : TxT) (z : ((Int32 × BdT × RdT)) ⊕ (Int32 × BdT × RdT)) : Option (Int32 × BdT × RdT) := match z with
  | .inl (x2_1, dz_1, rz_1) => j_Reader_readRank_125 fu T dz_1 rz_1 x2_1
  | .inr z => some z
theorem kR_e (fu : Nat) (x1 : Int32) (T : TxT) (D : BdT) (r : RdT) : f_Reader_readRank fu x1 T D r = (l_Reader_readRank_7 fu T x1 fu (0 : Int32) (0 : Int32) (0 : Int32) D r).bind (kR fu T) := rfl
theorem rank_sim (fu : Nat) (hfu : 64 < fu) {T : TxT} {G : RtT} {tx : List Nat} (hT : TX T G tx) (rank : Nat) (hr : rank < 8) : ∀ (b r : Nat), r ≤ b → ∀ (file p i ad n n' : Nat) (D : BdT) (Q : PoT), file + r = 8 → i ≤ file → r < n → r < n' → p + r < 2000 → ad < 2 → DR D → RM (bd_men D) (po_men Q) rank file → oq (po_men Q) → ∃ (ok : Bool) (D' : BdT) (r' : Int32) (Q' : PoT), ((l_Reader_readRank_7 fu T (nI rank) n (nI file) (nI ad) (nI i) D (nI p)).bind (kR fu T)) = some (cond ok 1 0, D', r') ∧ l_M_readMen_14 fu G (nI rank) n' (nI p) (nI file) (nI ad) Q = some (cond ok (.inl (r', Q')) (.inr (-1, Q'))) ∧ D'.2.2 = D.2.2 ∧ oq (po_men Q') ∧ Q'.2 = Q.2 ∧ (ok = true → DR D' ∧ RM (bd_men D') (po_men Q') rank 8 ∧ ∃ p', r' = nI p' ∧ p' ≤ p + r) := by
  intro b
  induction b with
  | zero =>
    intro r hrb file p i ad n n' D Q hf hi hn hn' hp had hD hM ho
    obtain ⟨n, rfl⟩ : ∃ x, n = x + 1 := ⟨n - 1, by omega⟩
    obtain ⟨n', rfl⟩ : ∃ x, n' = x + 1 := ⟨n' - 1, by omega⟩
    have hf8 : file = 8 := by omega
    subst hf8
    refine ⟨true, D, nI p, Q, ?_, ?_, rfl, ho, rfl, fun _ => ⟨hD, hM, p, rfl, by omega⟩⟩
    · show ((b_Reader_readRank_7 fu T (nI rank) _ (nI 8) (nI ad) (nI i) D (nI p)).bind _) = _
      unfold b_Reader_readRank_7
      rw [if_pos (show (8 : Int32) ≤ nI 8 by decide), ite_self]
      show j_Reader_readRank_125 fu T D (nI p) (nI 8) = _
      unfold j_Reader_readRank_125
      rw [if_neg (fun q => q rfl)]
      rfl
    · show b_M_readMen_14 fu G (nI rank) _ (nI p) (nI 8) (nI ad) Q = _
      unfold b_M_readMen_14
      rw [if_pos (by decide)]
      rfl
  | succ b ih =>
    intro r hrb file p i ad n n' D Q hf hi hn hn' hp had hD hM ho
    by_cases hr0 : r = 0
    · exact ih r (by omega) file p i ad n n' D Q hf hi hn hn' hp had hD hM ho
    obtain ⟨n, rfl⟩ : ∃ x, n = x + 1 := ⟨n - 1, by omega⟩
    obtain ⟨n', rfl⟩ : ∃ x, n' = x + 1 := ⟨n' - 1, by omega⟩
    obtain ⟨s1, -⟩ := sg_lt hT p
    generalize hc : sg tx p = c at s1
    obtain ⟨-, f2, f3⟩ := mof_fin ⟨c, by omega⟩
    simp only at f2 f3
    show ∃ (ok : Bool) (D' : BdT) (r' : Int32) (Q' : PoT), ((b_Reader_readRank_7 fu T (nI rank) (l_Reader_readRank_7 fu T (nI rank) n) (nI file) (nI ad) (nI i) D (nI p)).bind _) = _ ∧ b_M_readMen_14 fu G (nI rank) (l_M_readMen_14 fu G (nI rank) n') (nI p) (nI file) (nI ad) Q = _ ∧ _
    unfold b_Reader_readRank_7 b_M_readMen_14
    rw [if_neg (show ¬ (8 : Int32) ≤ nI i from nI_ge (b := 8) (by omega) (by decide)), if_neg (show ¬ (8 : Int32) ≤ nI file from nI_ge (b := 8) (by omega) (by decide)), if_neg (show ¬ (8 : Int32) ≤ nI file from nI_ge (b := 8) (by omega) (by decide)), tx_at hT (by omega), rf_sign hT (by omega), hc]
    simp only [Option.bind_some]
    -- a man
    have hman : ¬ (49 ≤ c ∧ c ≤ 56) → ∃ (ok : Bool) (D' : BdT) (r' : Int32) (Q' : PoT), ((j_Reader_readRank_51 fu (l_Reader_readRank_7 fu T (nI rank) n) T D (nI p) (nI rank) (nI file) (nI ad) (nI i) (nI c)).bind (kR fu T)) = some (cond ok 1 0, D', r') ∧ j_M_readMen_111 fu (l_M_readMen_14 fu G (nI rank) n') G Q (nI p + 1) (nI rank) (nI file) (nI c) = some (cond ok (.inl (r', Q')) (.inr (-1, Q'))) ∧ D'.2.2 = D.2.2 ∧ oq (po_men Q') ∧ Q'.2 = Q.2 ∧ (ok = true → DR D' ∧ RM (bd_men D') (po_men Q') rank 8 ∧ ∃ p', r' = nI p' ∧ p' ≤ p + r) := by
      intro _
      unfold j_Reader_readRank_51 j_Reader_readRank_52 j_Reader_readRank_74 j_M_readMen_111
      rw [if_pos rfl, c_manOf fu c hfu (by omega), r_manOf fu c hfu (by omega)]
      simp only [Option.bind_some]
      by_cases h0 : mof c = 0
      · rw [if_neg (fun q => q (by rw [h0]; decide)), if_neg (fun q => q (by rw [h0]; decide))]
        exact ⟨false, D, nI p, Q, rfl, rfl, rfl, ho, rfl, fun q => by cases q⟩
      · rw [if_pos (nI_ne0 (by omega) (by omega)), if_pos (nI_ne0 (by omega) (by omega))]
        rcases f2 with f2 | ⟨f2, f4, f5⟩
        · exact absurd f2 h0
        · obtain ⟨k1, k2, k3⟩ := man_k ⟨mof c, f2⟩ f4 f5
          simp only at k1 k2 k3
          rw [mul8, nI_add, nI_add, show file + 8 * rank = 8 * rank + file by omega, if_pos (pu_in (show 8 * rank + file < 64 by omega) (by decide)), nI_clamp (show 8 * rank + file < _ by omega)]
          have hdn : ¬ dn rank file (8 * rank + file) := by omega
          have hm0 := (hM (8 * rank + file) (by omega)).2 hdn
          obtain ⟨a1, e1, e2⟩ := cl_put D hD.1 (t := 8 * rank + file) (by omega) k2 k1 hm0
          rw [e1]
          simp only [Option.bind_some]
          unfold j_Reader_readRank_106 j_M_readMen_144
          rw [nI_1, nI_1, nI_1]
          obtain ⟨ok, D', r', Q', q1, q2, q3, q4, q5, q6⟩ := ih (r - 1) (by omega) (file + 1) (p + 1) (i + 1) 0 n n' (upd (bd_men D) (8 * rank + file) (nI (mof c)), a1, D.2.2) (upd (po_men Q) (8 * rank + file) (nI (mof c)), po_side Q, po_rights Q, po_passed Q, po_clock Q) (by omega) (by omega) (by omega) (by omega) (by omega) (by omega) ⟨e2, okm_upd hD.2.1 k2, fun x hx hz => by
              show upd (bd_men D) (8 * rank + file) (nI (mof c)) x &&& 7 = 1 ∨ _
              by_cases e : x = 8 * rank + file
              · rw [e] at hz ⊢
                show upd (bd_men D) (8 * rank + file) (nI (mof c)) _ &&& 7 = 1 ∨ upd (bd_men D) (8 * rank + file) (nI (mof c)) _ &&& 7 = 2 ∨ upd (bd_men D) (8 * rank + file) (nI (mof c)) _ &&& 7 = 3 ∨ upd (bd_men D) (8 * rank + file) (nI (mof c)) _ &&& 7 = 4 ∨ upd (bd_men D) (8 * rank + file) (nI (mof c)) _ &&& 7 = 5 ∨ upd (bd_men D) (8 * rank + file) (nI (mof c)) _ &&& 7 = 6
                rw [upd_s]; exact k3
              · have hz' : ¬ upd (bd_men D) (8 * rank + file) (nI (mof c)) x = 0 := hz
                show upd (bd_men D) (8 * rank + file) (nI (mof c)) _ &&& 7 = 1 ∨ upd (bd_men D) (8 * rank + file) (nI (mof c)) _ &&& 7 = 2 ∨ upd (bd_men D) (8 * rank + file) (nI (mof c)) _ &&& 7 = 3 ∨ upd (bd_men D) (8 * rank + file) (nI (mof c)) _ &&& 7 = 4 ∨ upd (bd_men D) (8 * rank + file) (nI (mof c)) _ &&& 7 = 5 ∨ upd (bd_men D) (8 * rank + file) (nI (mof c)) _ &&& 7 = 6
                rw [upd_o _ _ e] at hz' ⊢
                exact hD.2.2 x hx hz'⟩ (fun x hx => by
              show (dn rank (file + 1) x → upd (po_men Q) (8 * rank + file) (nI (mof c)) x = upd (bd_men D) (8 * rank + file) (nI (mof c)) x) ∧ (¬ dn rank (file + 1) x → upd (bd_men D) (8 * rank + file) (nI (mof c)) x = 0)
              by_cases e : x = 8 * rank + file
              · rw [e, upd_s, upd_s]
                exact ⟨fun _ => rfl, fun q => absurd (by omega) q⟩
              · rw [upd_o _ _ e, upd_o _ _ e]
                exact ⟨fun q => (hM x hx).1 (by omega), fun q => (hM x hx).2 (by omega)⟩) (oq_u ho (by omega) _)
          exact ⟨ok, D', r', Q', q1, q2, q3, q4, q5, fun h => by
            obtain ⟨z1, z2, p', z3, z4⟩ := q6 h
            exact ⟨z1, z2, p', z3, by omega⟩⟩
    by_cases hd1 : c < 49
    · rw [if_pos (show nI c < 49 from nI_lt (b := 49) hd1 (by decide)), if_pos (show nI c < 49 from nI_lt (b := 49) hd1 (by decide))]
      exact hman (by omega)
    · rw [if_neg (show ¬ nI c < 49 from nI_nlt (b := 49) (by omega) (by omega)), if_neg (show ¬ nI c < 49 from nI_nlt (b := 49) (by omega) (by omega))]
      by_cases hd2 : 56 < c
      · rw [if_pos (show (56 : Int32) < nI c from nI_lt (a := 56) hd2 (by omega)), if_pos (show (56 : Int32) < nI c from nI_lt (a := 56) hd2 (by omega))]
        exact hman (by omega)
      · rw [if_neg (show ¬ (56 : Int32) < nI c from nI_nlt (a := 56) (by omega) (by decide)), if_neg (show ¬ (56 : Int32) < nI c from nI_nlt (a := 56) (by omega) (by decide))]
        unfold j_Reader_readRank_52
        rw [if_neg (by decide)]
        have hm0 := f3 (by omega) (by omega)
        rcases (show ad = 0 ∨ ad = 1 by omega) with rfl | rfl
        · rw [if_neg (fun q => q rfl), if_neg (fun q => q rfl), nI_add, show nI (file + c) - (48 : Int32) = nI (file + c - 48) from nI_sub (b := 48) (by omega)]
          unfold j_Reader_readRank_106
          rw [show nI c - (48 : Int32) = nI (c - 48) from nI_sub (b := 48) (by omega), nI_add, nI_1, nI_1]
          by_cases h8 : file + (c - 48) ≤ 8
          · rw [if_pos (show nI (file + c - 48) ≤ 8 from nI_le (b := 8) (by omega) (by decide))]
            obtain ⟨q', e1, e2, e3⟩ := r_66 fu G (nI (p + 1)) rank file c (by omega) h8 hr (c - 48) fu 0 Q (by omega) (by omega) ho
            rw [show l_M_readMen_66 fu G (nI (p + 1)) (nI rank) (nI file) (nI c) fu (0 : Int32) Q = _ from e1]
            simp only [Option.bind_some]
            unfold j_M_readMen_97 j_M_readMen_144
            rw [nI_add, show nI (file + c) - (48 : Int32) = nI (file + c - 48) from nI_sub (b := 48) (by omega), show file + c - 48 = file + (c - 48) by omega]
            obtain ⟨ok, D', r', Q', q1, q2, q3, q4, q5, q6⟩ := ih (r - (c - 48)) (by omega) (file + (c - 48)) (p + 1) (i + 1) 1 n n' D (q', Q.2) (by omega) (by omega) (by omega) (by omega) (by omega) (by omega) hD (fun x hx => by
              show (dn rank (file + (c - 48)) x → q' x = bd_men D x) ∧ (¬ dn rank (file + (c - 48)) x → bd_men D x = 0)
              rw [e3 x]
              by_cases e : 8 * rank + file + 0 ≤ x ∧ x < 8 * rank + file + (c - 48)
              · rw [if_pos e]
                exact ⟨fun _ => ((hM x hx).2 (by omega)).symm, fun q => (hM x hx).2 (by omega)⟩
              · rw [if_neg e]
                exact ⟨fun q => (hM x hx).1 (by omega), fun q => (hM x hx).2 (by omega)⟩) e2
            exact ⟨ok, D', r', Q', q1, q2, q3, q4, q5, fun h => by
              obtain ⟨z1, z2, p', z3, z4⟩ := q6 h
              exact ⟨z1, z2, p', z3, by omega⟩⟩
          · rw [if_neg (show ¬ nI (file + c - 48) ≤ 8 from nI_ge (a := 8) (by omega) (by omega))]
            obtain ⟨n, rfl⟩ : ∃ x, n = x + 1 := ⟨n - 1, by omega⟩
            refine ⟨false, D, nI (p + 1), Q, ?_, rfl, rfl, ho, rfl, fun q => by cases q⟩
            show ((b_Reader_readRank_7 fu T (nI rank) _ (nI (file + (c - 48))) 1 (nI (i + 1)) D (nI (p + 1))).bind _) = _
            unfold b_Reader_readRank_7
            rw [if_pos (show (8 : Int32) ≤ nI (file + (c - 48)) from nI_le (a := 8) (by omega) (by omega)), ite_self]
            show j_Reader_readRank_125 fu T D (nI (p + 1)) (nI (file + (c - 48))) = _
            unfold j_Reader_readRank_125
            rw [if_pos (show ¬ nI (file + (c - 48)) = (8 : Int32) from fun q => by have := (nI_eq (b := 8) (by omega) (by decide)).mp q; omega)]
            rfl
        · rw [if_pos (by decide), if_pos (by decide)]
          unfold j_Reader_readRank_74
          rw [c_manOf fu c hfu (by omega), hm0]
          simp only [Option.bind_some]
          rw [if_neg (fun q => q rfl)]
          exact ⟨false, D, nI p, Q, rfl, rfl, rfl, ho, rfl, fun q => by cases q⟩
/-- all ranks, and the space behind them -/
theorem men_sim (fu : Nat) (hfu : 64 < fu) {T : TxT} {G : RtT} {tx : List Nat} (hT : TX T G tx) : ∀ (rank p n n' : Nat) (D : BdT) (Q : PoT), rank < 8 → rank + 1 < n → rank + 1 < n' → p + 9 * rank ≤ 100 → DR D → RM (bd_men D) (po_men Q) rank 0 → oq (po_men Q) → ∃ (ok : Bool) (D' : BdT) (r' : Int32) (Q' : PoT) (t' : Int32), l_Reader_readMen_3 fu T n (nI rank) D (nI p) = some (cond ok 1 0, D', r') ∧ l_M_readMen_5 fu G n' (nI p) (nI rank) Q = some (t', Q') ∧ D'.2.2 = D.2.2 ∧ oq (po_men Q') ∧ Q'.2 = Q.2 ∧ (ok = false → t' = -1) ∧ (ok = true → ∃ p', r' = nI p' ∧ p' ≤ p + 9 * rank + 8 ∧ DR D' ∧ (sg tx p' = 32 → t' = nI p' ∧ ∀ x, x < 64 → po_men Q' x = bd_men D' x) ∧ (¬ sg tx p' = 32 → t' = -1)) := by
  intro rank
  induction rank with
  | zero =>
    intro p n n' D Q hr hn hn' hp hD hM ho
    obtain ⟨n, rfl⟩ : ∃ x, n = x + 2 := ⟨n - 2, by omega⟩
    obtain ⟨n', rfl⟩ : ∃ x, n' = x + 2 := ⟨n' - 2, by omega⟩
    show ∃ (ok : Bool) (D' : BdT) (r' : Int32) (Q' : PoT) (t' : Int32), b_Reader_readMen_3 fu T (l_Reader_readMen_3 fu T (n + 1)) (nI 0) D (nI p) = _ ∧ b_M_readMen_5 fu G (l_M_readMen_5 fu G (n' + 1)) (nI p) (nI 0) Q = _ ∧ _
    unfold b_Reader_readMen_3 b_M_readMen_5
    rw [if_neg (by decide), if_neg (by decide)]
    rw [kR_e]
    obtain ⟨ok, D1, r1, Q1, a1, a2, a3, a4, a5, a6⟩ := rank_sim fu hfu hT 0 (by omega) 8 8 (by omega) 0 p 0 0 fu fu D Q (by omega) (by omega) (by omega) (by omega) (by omega) (by omega) hD hM ho
    rw [show ((l_Reader_readRank_7 fu T (nI 0) fu (0 : Int32) (0 : Int32) (0 : Int32) D (nI p)).bind (kR fu T)) = _ from a1, show l_M_readMen_14 fu G (nI 0) fu (nI p) (0 : Int32) (0 : Int32) Q = _ from a2]
    simp only [Option.bind_some]
    cases ok with
    | false =>
      rw [if_pos (by decide)]
      exact ⟨false, D1, r1, Q1, -1, rfl, rfl, a3, a4, a5, fun _ => rfl, fun q => by cases q⟩
    | true =>
      obtain ⟨z1, z2, p', z3, z4⟩ := a6 rfl
      rw [if_neg (by decide), if_pos (by decide)]
      simp only [cond_true]
      unfold j_Reader_readMen_30 j_M_readMen_147 j_M_readMen_163
      rw [z3, rf_sign hT (by omega)]
      simp only [Option.bind_some]
      rw [if_pos (by decide)]
      have hs := (sg_lt hT p').1
      refine ⟨true, D1, nI p', ?_⟩
      have hcl : l_Reader_readMen_3 fu T (n + 1) (nI 0 + -1) D1 (nI p') = some (1, D1, nI p') := by
        show b_Reader_readMen_3 fu T _ (nI 0 + -1) D1 (nI p') = _
        unfold b_Reader_readMen_3
        rw [if_pos (by decide)]
      by_cases h32 : sg tx p' = 32
      · rw [if_pos (by rw [h32]; rfl)]
        refine ⟨Q1, nI p', hcl, ?_, a3, a4, a5, fun q => (by cases q), fun _ => ⟨p', rfl, by omega, z1, fun _ => ⟨rfl, fun x hx => (z2 x hx).1 (by omega)⟩, fun q => absurd h32 q⟩⟩
        show b_M_readMen_5 fu G _ (nI p' + 1) (nI 0 + -1) Q1 = _
        unfold b_M_readMen_5
        rw [if_pos (by decide), nI_1, nI_pred]
      · rw [if_neg (show ¬ nI (sg tx p') = (32 : Int32) from fun q => h32 ((nI_eq (b := 32) (by omega) (by decide)).mp q))]
        exact ⟨Q1, -1, hcl, rfl, a3, a4, a5, fun q => (by cases q), fun _ => ⟨p', rfl, by omega, z1, fun q => absurd q h32, fun _ => rfl⟩⟩
  | succ rank ih =>
    intro p n n' D Q hr hn hn' hp hD hM ho
    obtain ⟨n, rfl⟩ : ∃ x, n = x + 1 := ⟨n - 1, by omega⟩
    obtain ⟨n', rfl⟩ : ∃ x, n' = x + 1 := ⟨n' - 1, by omega⟩
    show ∃ (ok : Bool) (D' : BdT) (r' : Int32) (Q' : PoT) (t' : Int32), b_Reader_readMen_3 fu T (l_Reader_readMen_3 fu T n) (nI (rank + 1)) D (nI p) = _ ∧ b_M_readMen_5 fu G (l_M_readMen_5 fu G n') (nI p) (nI (rank + 1)) Q = _ ∧ _
    unfold b_Reader_readMen_3 b_M_readMen_5
    rw [if_neg (nI_pos (by omega)), if_neg (nI_pos (by omega))]
    rw [kR_e]
    obtain ⟨ok, D1, r1, Q1, a1, a2, a3, a4, a5, a6⟩ := rank_sim fu hfu hT (rank + 1) (by omega) 8 8 (by omega) 0 p 0 0 fu fu D Q (by omega) (by omega) (by omega) (by omega) (by omega) (by omega) hD hM ho
    rw [show ((l_Reader_readRank_7 fu T (nI (rank + 1)) fu (0 : Int32) (0 : Int32) (0 : Int32) D (nI p)).bind (kR fu T)) = _ from a1, show l_M_readMen_14 fu G (nI (rank + 1)) fu (nI p) (0 : Int32) (0 : Int32) Q = _ from a2]
    simp only [Option.bind_some]
    cases ok with
    | false =>
      rw [if_pos (by decide)]
      exact ⟨false, D1, r1, Q1, -1, rfl, rfl, a3, a4, a5, fun _ => rfl, fun q => by cases q⟩
    | true =>
      obtain ⟨z1, z2, p', z3, z4⟩ := a6 rfl
      rw [if_neg (by decide), if_neg (nI_nle (by omega) (by omega))]
      simp only [cond_true]
      unfold j_Reader_readMen_30 j_M_readMen_147 j_M_readMen_163
      have hs := (sg_lt hT p').1
      rw [z3, rf_sign hT (by omega), show (47 : Int32) = nI 47 from rfl, tx_take hT (by omega) (by omega)]
      simp only [Option.bind_some]
      rw [if_neg (nI_nle (by omega) (by omega))]
      have hm1 : nI (rank + 1) + (-1 : Int32) = nI rank := by
        rw [← nI_1, Int32.add_assoc, show (1 : Int32) + -1 = 0 from by decide, Int32.add_zero]
      by_cases h47 : sg tx p' = 47
      · rw [if_pos h47]
        simp only
        rw [if_pos (show ¬ (1 : Int32) = 0 by decide), if_pos (show nI (sg tx p') = nI 47 by rw [h47]), hm1, nI_1]
        obtain ⟨ok, D2, r2, Q2, t2, b1, b2, b3, b4, b5, b6, b7⟩ := ih (p' + 1) n n' D1 Q1 (by omega) (by omega) (by omega) (by omega) z1 (fun x hx => ⟨fun q => (z2 x hx).1 (by omega), fun q => (z2 x hx).2 (by omega)⟩) a4
        refine ⟨ok, D2, r2, Q2, t2, b1, b2, b3.trans a3, b4, b5.trans a5, b6, fun h => ?_⟩
        obtain ⟨p2, c1, c2, c3⟩ := b7 h
        exact ⟨p2, c1, by omega, c3⟩
      · rw [if_neg h47, if_neg (show ¬ nI (sg tx p') = nI 47 from fun q => h47 ((nI_eq (by omega) (by omega)).mp q))]
        simp only
        rw [if_neg (fun q => q trivial)]
        exact ⟨false, D1, nI p', Q1, -1, rfl, rfl, a3, a4, a5, fun _ => rfl, fun q => by cases q⟩
