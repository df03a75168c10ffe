/-! WHAT IS LEFT: a statement about functions alone -/
def pu_goal : Prop := ∃ (fu : Nat) (iB1 iB2 : BdT) (iL2 : RwT) (iQ1 : PoT) (iA1 : PaT) (iK1 : KeT),
  f_Mp_stepTable fu (fun _ => 0) = some tb_next ∧ f_Board_setUp fu iB = some iB1 ∧ f_Mover_fillLegal fu iL iB1 = some (iL2, iB2) ∧ f_M_new fu iQ iA iK = some (iQ1, iA1, iK1) ∧
  ∀ (sn : Nat) (sx : Nat → Int32), sn ≤ 2560 → ∃ (oE : ThT) (oG : RtT) (oQ : PoT) (oN : NuT) (oA : PaT) (oU : UnT) (oY : LiT) (oK : KeT) (oH : HlT) (oO : OuT) (oq : CtT) (oT : TxT) (oD : BdT) (or : RdT) (oB : BdT) (oV : MvT) (oL oF : RwT) (oR : Nat → RwT) (oS : SoT) (oP : HeT),
    f_L_law fu sn sx 0 iG iQ1 1 iA1 iU iY iK1 iH (fun _ => 0) (66, 34655) iT iD 0 iB2 iV iL2 iF iR iS iP = some (1, oE, oG, oQ, oN, oA, oU, oY, oK, oH, oO, oq, oT, oD, or, oB, oV, oL, oF, oR, oS, oP) ∧ oq.1 ≤ 601024 ∧ oq.2 ≤ 7293034
theorem am_goal_of (hP : pu_goal) : am_goal := by
  obtain ⟨fu, iB1, iB2, iL2, iQ1, iA1, iK1, h1, h2, h3, h4, h⟩ := hP
  intro sn sx hL
  obtain ⟨oE, oG, oQ, oN, oA, oU, oY, oK, oH, oO, oq, oT, oD, or, oB, oV, oL, oF, oR, oS, oP, hM, c1, c2⟩ := h sn sx hL
  have he := ct_law (sn := sn) (sx := sx) h1 h2 h3 h4 (se_L_law (sn := sn) (sx := sx) (e := (1, oE, oG, oQ, oN, oA, oU, oY, oK, oH, oO, oq, oT, oD, or, oB, oV, oL, oF, oR, oS, oP)) (show y_L_law sn sx _ _ from rfl) hM)
  exact ⟨23, _, by decide, am_cv.of rfl he, c1, c2⟩
