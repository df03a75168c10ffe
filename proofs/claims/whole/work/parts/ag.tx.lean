/-! TEXT: signs are typed and cut -/
def byt (w : Int64) (i : Nat) : Nat := w.toBitVec.toNat / 2 ^ (8 * i) % 256
theorem ush_fin : ∀ k : Fin 64, ((nI k).toInt64.toUInt64 &&& Int64.toUInt64 63).toBitVec % 64 = BitVec.ofNat 64 k := by decide +kernel
theorem ushr_n (w : Int64) {k : Nat} (hk : k < 64) : (am_ushr w (nI k)).toBitVec.toNat = w.toBitVec.toNat / 2 ^ k := by
  unfold am_ushr
  show (w.toUInt64 >>> ((nI k).toInt64.toUInt64 &&& Int64.toUInt64 63)).toBitVec.toNat = _
  rw [UInt64.toBitVec_shiftRight, show ((nI k).toInt64.toUInt64 &&& Int64.toUInt64 63).toBitVec % 64 = BitVec.ofNat 64 k from ush_fin ⟨k, hk⟩]
  show (w.toBitVec >>> (BitVec.ofNat 64 k).toNat).toNat = _
  rw [BitVec.toNat_ushiftRight, BitVec.toNat_ofNat, Nat.mod_eq_of_lt (by omega), Nat.shiftRight_eq_div_pow]
theorem mul8 (i : Nat) : (8 : Int32) * nI i = nI (8 * i) := (Int32.ofNat_mul 8 i).symm
theorem tx_byte (w : Int64) {i : Nat} (hi : i < 8) : f_Text_byteOf w (nI i) = some (nI (byt w i)) := by
  unfold f_Text_byteOf byt
  rw [mul8, pk_and _ 8 (by decide)]
  congr 2
  show ((am_ushr w (nI (8 * i))).toBitVec.signExtend 32).toNat % 256 = _
  rw [BitVec.signExtend_eq_setWidth_of_le _ (by decide), BitVec.toNat_setWidth, ushr_n w (by omega)]
  exact Nat.mod_mod_of_dvd _ (by decide)
theorem and255 (x : Int64) : x &&& 255 = lN (x.toBitVec.toNat % 256) := by
  apply Int64.toBitVec_inj.mp
  apply BitVec.eq_of_toNat_eq
  rw [Int64.toBitVec_and, BitVec.toNat_and]
  show x.toBitVec.toNat &&& 255 = (BitVec.ofNat 64 (x.toBitVec.toNat % 256)).toNat
  rw [BitVec.toNat_ofNat, show (255 : Nat) = 2 ^ 8 - 1 from rfl, Nat.and_two_pow_sub_one_eq_mod]
  omega
theorem bt255 : ∀ i : Fin 64, bt 255 i = decide (i.val < 8) := by decide +kernel
theorem bt_ushr (x : Int64) {k i : Nat} (hk : k < 64) (hi : i < 64) : bt (am_ushr x (nI k)) i = bt x (i + k) := by
  unfold bt
  have e : (am_ushr x (nI k)).toBitVec = x.toBitVec >>> k := by
    apply BitVec.eq_of_toNat_eq
    rw [ushr_n x hk, BitVec.toNat_ushiftRight, Nat.shiftRight_eq_div_pow]
  rw [e, BitVec.getLsbD_ushiftRight, Nat.add_comm]
theorem rf_byte (w : Int64) {i : Nat} (hi : i < 8) : am_shr w ((8 : Int32) * nI i) &&& 255 = lN (byt w i) := by
  have : am_shr w (nI (8 * i)) &&& 255 = am_ushr w (nI (8 * i)) &&& 255 := by
    refine bt_ext (fun j hj => ?_)
    rw [bt_and, bt_and, bt255 ⟨j, hj⟩]
    by_cases h8 : j < 8
    · rw [bt_shr w (by omega) (by omega), bt_ushr w (by omega) hj]
    · rw [decide_eq_false h8, Bool.and_false, Bool.and_false]
  rw [mul8, this, and255, ushr_n w (by omega)]
  rfl
theorem lc_fin : ∀ b : Fin 256, (lg_cmp (lN b) 32 < 0 ↔ b.val < 32) ∧ (lg_cmp (lN b) 126 ≤ 0 ↔ b.val ≤ 126) ∧ vp_nar .char (am_i2c (nI b)) = nI b ∧ vp_nar .char (nI b) = nI b := by decide +kernel
theorem byt_lt (w : Int64) (i : Nat) : byt w i < 256 := Nat.mod_lt _ (by decide)
def gd (w : Int64) (i : Nat) : Bool := decide (32 ≤ byt w i ∧ byt w i ≤ 126)
/-- the text on both sides -/
def TX (T : TxT) (G : RtT) (tx : List Nat) : Prop := tx.length ≤ 100 ∧ tx_length T = nI tx.length ∧ rt_typed G = nI tx.length ∧ ∀ i c, tx[i]? = some c → tx_chars T i = nI c ∧ rt_text G i = nI c ∧ 32 ≤ c ∧ c ≤ 126
theorem tx_27 (fu : Nat) (T : TxT) (w : Int64) (n : Nat) (hn : n ≤ 8) : ∀ (r m i : Nat), i + r = n → r < m → l_Text_append_27 fu T w (nI n) m (nI i) = some (cond ((List.range' i r).all (gd w)) (.inl ()) (.inr (0, T))) := by
  intro r
  induction r with
  | zero =>
    intro m i hi hm
    obtain ⟨m, rfl⟩ : ∃ x, m = x + 1 := ⟨m - 1, by omega⟩
    show b_Text_append_27 fu T w (nI n) _ (nI i) = _
    unfold b_Text_append_27
    rw [if_pos (nI_le (by omega) (by omega))]
    rfl
  | succ r ih =>
    intro m i hi hm
    obtain ⟨m, rfl⟩ : ∃ x, m = x + 1 := ⟨m - 1, by omega⟩
    show b_Text_append_27 fu T w (nI n) (l_Text_append_27 fu T w (nI n) m) (nI i) = _
    unfold b_Text_append_27
    have hb := byt_lt w i
    rw [if_neg (nI_ge (by omega) (by omega)), tx_byte w (by omega)]
    simp only [Option.bind_some]
    rw [List.range'_succ, List.all_cons, nI_1, ih m (i + 1) (by omega) (by omega)]
    unfold gd
    by_cases h1 : byt w i < 32
    · rw [if_pos (show nI (byt w i) < 32 from nI_lt (b := 32) h1 (by decide)), decide_eq_false (p := 32 ≤ byt w i ∧ byt w i ≤ 126) (by omega)]
      rfl
    · rw [if_neg (show ¬ nI (byt w i) < 32 from nI_nlt (b := 32) (by omega) (by omega))]
      by_cases h2 : byt w i ≤ 126
      · rw [if_pos (show nI (byt w i) ≤ 126 from nI_le (b := 126) h2 (by decide)), decide_eq_true (p := 32 ≤ byt w i ∧ byt w i ≤ 126) (by omega), Bool.true_and]
      · rw [if_neg (show ¬ nI (byt w i) ≤ 126 from nI_ge (a := 126) (by omega) (by omega)), decide_eq_false (p := 32 ≤ byt w i ∧ byt w i ≤ 126) (by omega)]
        rfl
theorem rf_32 (fu : Nat) (E : ThT) (G : RtT) (w : Int64) (n : Nat) (hn : n ≤ 8) : ∀ (r m i : Nat), i + r = n → r < m → l_M_type_32 fu E G w (nI n) m (nI i) = some (cond ((List.range' i r).all (gd w)) (.inl ()) (.inr (0, E, G))) := by
  intro r
  induction r with
  | zero =>
    intro m i hi hm
    obtain ⟨m, rfl⟩ : ∃ x, m = x + 1 := ⟨m - 1, by omega⟩
    show b_M_type_32 fu E G w (nI n) _ (nI i) = _
    unfold b_M_type_32
    rw [if_pos (nI_le (by omega) (by omega))]
    rfl
  | succ r ih =>
    intro m i hi hm
    obtain ⟨m, rfl⟩ : ∃ x, m = x + 1 := ⟨m - 1, by omega⟩
    show b_M_type_32 fu E G w (nI n) (l_M_type_32 fu E G w (nI n) m) (nI i) = _
    unfold b_M_type_32
    obtain ⟨f1, f2, -⟩ := lc_fin ⟨byt w i, byt_lt w i⟩
    simp only at f1 f2
    rw [if_neg (nI_ge (by omega) (by omega)), rf_byte w (by omega), List.range'_succ, List.all_cons, nI_1, ih m (i + 1) (by omega) (by omega)]
    unfold gd
    by_cases h1 : byt w i < 32
    · rw [if_pos (f1.mpr h1), decide_eq_false (p := 32 ≤ byt w i ∧ byt w i ≤ 126) (by omega)]
      rfl
    · rw [if_neg (fun q => h1 (f1.mp q))]
      by_cases h2 : byt w i ≤ 126
      · rw [if_pos (f2.mpr h2), decide_eq_true (p := 32 ≤ byt w i ∧ byt w i ≤ 126) (by omega), Bool.true_and]
      · rw [if_neg (fun q => h2 (f2.mp q)), decide_eq_false (p := 32 ≤ byt w i ∧ byt w i ≤ 126) (by omega)]
        rfl
theorem tx_66 (fu : Nat) (w : Int64) (n len : Nat) (hn : n ≤ 8) (hl : len + n ≤ 100) : ∀ (r m i : Nat) (T : TxT), i + r = n → r < m → tx_length T = nI len → ∃ f, l_Text_append_66 fu w (nI n) m (nI i) T = some (f, nI len) ∧ (∀ j, i ≤ j → j < n → f (len + j) = nI (byt w j)) ∧ ∀ j, j < len + i → f j = tx_chars T j := by
  intro r
  induction r with
  | zero =>
    intro m i T hi hm hT
    obtain ⟨m, rfl⟩ : ∃ x, m = x + 1 := ⟨m - 1, by omega⟩
    refine ⟨tx_chars T, ?_, fun j h1 h2 => by omega, fun _ _ => rfl⟩
    show b_Text_append_66 fu w (nI n) _ (nI i) T = _
    unfold b_Text_append_66
    rw [if_pos (nI_le (by omega) (by omega)), ← hT]
  | succ r ih =>
    intro m i T hi hm hT
    obtain ⟨m, rfl⟩ : ∃ x, m = x + 1 := ⟨m - 1, by omega⟩
    show ∃ f, b_Text_append_66 fu w (nI n) (l_Text_append_66 fu w (nI n) m) (nI i) T = _ ∧ _
    unfold b_Text_append_66
    rw [if_neg (nI_ge (by omega) (by omega)), tx_byte w (by omega)]
    simp only [Option.bind_some]
    rw [hT, nI_add, if_pos (pu_in (show len + i < 100 by omega) (by decide)), nI_clamp (show len + i < _ by omega), nI_1, (lc_fin ⟨byt w i, byt_lt w i⟩).2.2.1]
    obtain ⟨f, e1, e2, e3⟩ := ih m (i + 1) (upd (tx_chars T) (len + i) (nI (byt w i)), nI len) (by omega) (by omega) rfl
    refine ⟨f, e1, fun j h1 h2 => ?_, fun j hj => ?_⟩
    · by_cases e : j = i
      · rw [e3 _ (by omega), e]
        exact upd_s _ _ _
      · exact e2 j (by omega) h2
    · rw [e3 j (by omega)]
      exact upd_o _ _ (by omega)
theorem rf_80 (fu : Nat) (E : ThT) (w : Int64) (n len : Nat) (hn : n ≤ 8) (hl : len + n ≤ 100) : ∀ (r m i : Nat) (G : RtT), i + r = n → r < m → rt_typed G = nI (len + i) → ∃ f, l_M_type_80 fu E w (nI n) m (nI i) G = some (1, E, f, nI (len + n)) ∧ (∀ j, i ≤ j → j < n → f (len + j) = nI (byt w j)) ∧ ∀ j, j < len + i → f j = rt_text G j := by
  intro r
  induction r with
  | zero =>
    intro m i G hi hm hG
    obtain ⟨m, rfl⟩ : ∃ x, m = x + 1 := ⟨m - 1, by omega⟩
    refine ⟨rt_text G, ?_, fun j h1 h2 => by omega, fun _ _ => rfl⟩
    show b_M_type_80 fu E w (nI n) _ (nI i) G = _
    unfold b_M_type_80
    rw [if_pos (nI_le (by omega) (by omega)), show len + n = len + i by omega, ← hG]
  | succ r ih =>
    intro m i G hi hm hG
    obtain ⟨m, rfl⟩ : ∃ x, m = x + 1 := ⟨m - 1, by omega⟩
    show ∃ f, b_M_type_80 fu E w (nI n) (l_M_type_80 fu E w (nI n) m) (nI i) G = _ ∧ _
    unfold b_M_type_80
    rw [if_neg (nI_ge (by omega) (by omega)), hG, if_pos (pu_in (show len + i < 100 by omega) (by decide)), nI_clamp (show len + i < _ by omega), nI_1, nI_1, rf_byte w (by omega), lN_i, (lc_fin ⟨byt w i, byt_lt w i⟩).2.2.1]
    obtain ⟨f, e1, e2, e3⟩ := ih m (i + 1) (upd (rt_text G) (len + i) (nI (byt w i)), nI (len + i + 1)) (by omega) (by omega) rfl
    refine ⟨f, e1, fun j h1 h2 => ?_, fun j hj => ?_⟩
    · by_cases e : j = i
      · rw [e3 _ (by omega), e]
        exact upd_s _ _ _
      · exact e2 j (by omega) h2
    · rw [e3 j (by omega)]
      exact upd_o _ _ (by omega)
theorem tx_type (fu : Nat) (hfu : 64 < fu) (w : Int64) (x3 : Int32) (E : ThT) (T : TxT) (G : RtT) (tx : List Nat) (h : TX T G tx) : ∃ b T' G' tx', f_Mp_type fu w x3 T = some (cond b 1 0, T') ∧ f_M_type fu w x3 E G = some (cond b 1 0, 0, G') ∧ TX T' G' tx' := by
  obtain ⟨h1, h2, h3, h4⟩ := h
  have hno : ∀ b, b = false → ∃ b' T' G' tx', ((some ((0 : Int32), T) : Option (Int32 × TxT)).bind fun (r1, tg2) => some (vp_nar .boolean r1, tg2)) = some (cond b' 1 0, T') ∧ (some ((0 : Int32), (0 : Int32), G) : Option (Int32 × ThT × RtT)) = some (cond b' 1 0, 0, G') ∧ TX T' G' tx' := fun b _ => ⟨false, T, G, tx, by show some (vp_nar .boolean (0 : Int32), T) = _; rw [show vp_nar .boolean (0 : Int32) = 0 from by decide]; rfl, rfl, h1, h2, h3, h4⟩
  unfold f_Mp_type f_Text_append f_M_type
  by_cases c1 : x3 < 1
  · rw [if_pos c1, if_pos c1]; exact hno false rfl
  · rw [if_neg c1, if_neg c1]
    by_cases c2 : (8 : Int32) < x3
    · rw [if_pos c2, if_pos c2]; exact hno false rfl
    · rw [if_neg c2, if_neg c2]
      obtain ⟨n, hn31, e⟩ := nI_of (x := x3) (fun q => c1 (by
        rw [Int32.lt_iff_toInt_lt] at q ⊢
        have : (0 : Int32).toInt = 0 := by decide
        have : (1 : Int32).toInt = 1 := by decide
        omega))
      subst e
      have hn8 : n ≤ 8 := by
        apply Classical.byContradiction
        intro q
        exact c2 (nI_lt (a := 8) (by omega) hn31)
      have hn1 : 1 ≤ n := by
        apply Classical.byContradiction
        intro q
        exact c1 (nI_lt (b := 1) (by omega) (by decide))
      rw [h2, h3, nI_add]
      by_cases c3 : tx.length + n ≤ 100
      · have hle : nI (tx.length + n) ≤ (100 : Int32) := nI_le (b := 100) c3 (by decide)
        rw [if_pos hle, if_pos hle]
        rw [show l_Text_append_27 fu T w (nI n) fu (0 : Int32) = _ from tx_27 fu T w n hn8 n fu 0 (by omega) (by omega), show l_M_type_32 fu 0 G w (nI n) fu (0 : Int32) = _ from rf_32 fu 0 G w n hn8 n fu 0 (by omega) (by omega)]
        cases hall : (List.range' 0 n).all (gd w) with
        | false => exact hno false rfl
        | true =>
          simp only [cond_true, Option.bind_some]
          unfold j_Text_append_63 j_Text_append_97 j_M_type_77
          obtain ⟨f, e1, e2, e3⟩ := tx_66 fu w n tx.length hn8 c3 n fu 0 T (by omega) (by omega) h2
          obtain ⟨f', g1, g2, g3⟩ := rf_80 fu 0 w n tx.length hn8 c3 n fu 0 G (by omega) (by omega) h3
          rw [show l_Text_append_66 fu w (nI n) fu (0 : Int32) T = _ from e1, show l_M_type_80 fu 0 w (nI n) fu (0 : Int32) G = _ from g1]
          simp only [Option.bind_some]
          refine ⟨true, _, _, tx ++ (List.range n).map (byt w), rfl, rfl, by simp; omega, ?_, ?_, fun i c hc => ?_⟩
          · show nI tx.length + nI n = _
            rw [nI_add]; simp
          · show nI (tx.length + n) = _
            simp
          · show f i = nI c ∧ f' i = nI c ∧ _
            rw [List.getElem?_append] at hc
            by_cases hi : i < tx.length
            · rw [if_pos hi] at hc
              obtain ⟨q1, q2, q3⟩ := h4 i c hc
              exact ⟨(e3 i (by omega)).trans q1, (g3 i (by omega)).trans q2, q3⟩
            · rw [if_neg hi] at hc
              have hin : i - tx.length < n := by
                have := (List.getElem?_eq_some_iff.mp hc).1
                simpa using this
              rw [List.getElem?_map, List.getElem?_range hin] at hc
              cases hc
              have q1 := e2 (i - tx.length) (by omega) hin
              have q2 := g2 (i - tx.length) (by omega) hin
              rw [show tx.length + (i - tx.length) = i by omega] at q1 q2
              have q3 := of_decide_eq_true (List.all_eq_true.mp hall (i - tx.length) (List.mem_range'_1.mpr ⟨by omega, by omega⟩))
              exact ⟨q1, q2, q3⟩
      · have hle : ¬ nI (tx.length + n) ≤ (100 : Int32) := nI_ge (a := 100) (by omega) (by omega)
        rw [if_neg hle, if_neg hle]; exact hno false rfl
theorem tx_cut (x1 : Int32) (E : ThT) (T : TxT) (G : RtT) (tx : List Nat) (h : TX T G tx) : ∃ b T' G' tx', f_Mp_cut x1 T = some (cond b 1 0, T') ∧ f_M_cut x1 E G = some (cond b 1 0, 0, G') ∧ TX T' G' tx' := by
  obtain ⟨h1, h2, h3, h4⟩ := h
  unfold f_Mp_cut f_Text_shorten f_M_cut
  by_cases c1 : x1 < 0
  · rw [if_pos c1, if_pos c1]
    exact ⟨false, T, G, tx, by show some (vp_nar .boolean (0 : Int32), T) = _; rw [show vp_nar .boolean (0 : Int32) = 0 from by decide]; rfl, rfl, h1, h2, h3, h4⟩
  · rw [if_neg c1, if_neg c1, h2, h3]
    obtain ⟨n, hn31, e⟩ := nI_of c1
    subst e
    by_cases c2 : n ≤ tx.length
    · rw [if_pos (nI_le c2 (by omega)), if_pos (nI_le c2 (by omega))]
      refine ⟨true, (tx_chars T, nI n), (rt_text G, nI n), tx.take n, by show some (vp_nar .boolean (1 : Int32), tx_chars T, nI n) = _; rw [show vp_nar .boolean (1 : Int32) = 1 from by decide]; rfl, rfl, by rw [List.length_take]; omega, ?_, ?_, fun i c hc => ?_⟩
      · show nI n = _
        rw [List.length_take]; congr 1; omega
      · show nI n = _
        rw [List.length_take]; congr 1; omega
      · have hin : i < n := by
          have := (List.getElem?_eq_some_iff.mp hc).1
          rw [List.length_take] at this
          omega
        rw [List.getElem?_take_of_lt hin] at hc
        exact h4 i c hc
    · rw [if_neg (nI_ge (by omega) hn31), if_neg (nI_ge (by omega) hn31)]
      exact ⟨false, T, G, tx, by show some (vp_nar .boolean (0 : Int32), T) = _; rw [show vp_nar .boolean (0 : Int32) = 0 from by decide]; rfl, rfl, h1, h2, h3, h4⟩
/-- the sign at a place, 0 behind the end -/
def sg (tx : List Nat) (p : Nat) : Nat := (tx[p]?).getD 0
theorem sg_lt {T : TxT} {G : RtT} {tx : List Nat} (h : TX T G tx) (p : Nat) : sg tx p < 127 ∧ (sg tx p = 0 ↔ tx.length ≤ p) := by
  unfold sg
  cases he : tx[p]? with
  | none => exact ⟨by show (0 : Nat) < 127; omega, fun _ => List.getElem?_eq_none_iff.mp he, fun _ => rfl⟩
  | some c =>
    have hc := h.2.2.2 p c he
    have hl := (List.getElem?_eq_some_iff.mp he).1
    exact ⟨by show c < 127; omega, fun q => by have : c = 0 := q; omega, fun q => by omega⟩
theorem tx_at {T : TxT} {G : RtT} {tx : List Nat} (h : TX T G tx) {p : Nat} (hp : p < 2 ^ 31) : f_Text_at (nI p) T = some (nI (sg tx p)) := by
  unfold f_Text_at sg
  rw [if_neg (nI_pos hp), h.2.1]
  cases he : tx[p]? with
  | none =>
    have := List.getElem?_eq_none_iff.mp he
    rw [if_pos (nI_le this hp)]
    rfl
  | some c =>
    have hl := (List.getElem?_eq_some_iff.mp he).1
    have hc := h.2.2.2 p c he
    have h1 := h.1
    rw [if_neg (nI_ge hl (by omega)), if_pos (pu_in (show p < 100 by omega) (by decide)), nI_clamp hp, hc.1, (lc_fin ⟨c, by omega⟩).2.2.2]
    rfl
theorem rf_sign {T : TxT} {G : RtT} {tx : List Nat} (h : TX T G tx) {p : Nat} (hp : p < 2 ^ 31) : f_M_sign (nI p) G = some (nI (sg tx p)) := by
  unfold f_M_sign sg
  rw [h.2.2.1]
  cases he : tx[p]? with
  | none =>
    have := List.getElem?_eq_none_iff.mp he
    rw [if_pos (nI_le this hp)]
    rfl
  | some c =>
    have hl := (List.getElem?_eq_some_iff.mp he).1
    have hc := h.2.2.2 p c he
    have h1 := h.1
    rw [if_neg (nI_ge hl (by omega)), if_pos (pu_in (show p < 100 by omega) (by decide)), nI_clamp hp, hc.2.1, (lc_fin ⟨c, by omega⟩).2.2.2]
    rfl
theorem tx_take {T : TxT} {G : RtT} {tx : List Nat} (h : TX T G tx) {p c : Nat} (hp : p < 2 ^ 31) (hc : c < 128) : f_Reader_take (nI c) T (nI p) = some (if sg tx p = c then (1, nI (p + 1)) else (0, nI p)) := by
  unfold f_Reader_take
  rw [tx_at h hp]
  simp only [Option.bind_some]
  have := (sg_lt h p).1
  by_cases e : sg tx p = c
  · rw [if_pos (by rw [e]), if_pos e, nI_1]
  · rw [if_neg (fun q => e ((nI_eq (by omega) (by omega)).mp q)), if_neg e]
