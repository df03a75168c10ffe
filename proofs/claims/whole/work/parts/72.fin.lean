/-! THE CLAIM OUT OF THE LAW'S RUN IN THE ABSTRACT MACHINE (begun with the skeleton of kit/laws) -/
/-- what is left: the law, in the abstract machine, answers 1 on every script, within the room -/
def am_goal : Prop := ∀ (L : Nat) (xs : Nat → Int32), L ≤ 2560 → ∃ (D : Nat) (h' : am_H), D ≤ 2000 ∧ am_cv (D + 1) 155 [.ref 0] (zl L xs, [], [], 0, 0) (.inl (some (.int 1)), h') ∧ h'.2.2.2.1 ≤ 601024 ∧ h'.2.2.2.2 ≤ 7293034
def R_law : String := "MateProblemsLaw"
def lw_P (b : Addr) (xs : List Int32) (args : Array Value) (s : State) : Prop := args = #[.ref b] ∧ s.IntsAt b xs ∧ xs.length ≤ 2560 ∧ (Jvm.Cond.and given_1 narrow_1).before args s = true
def lw_Q (_ : Array Value) (s : State) (o : Outcome) (t : State) : Prop := o = .returned (some (.int 1)) ∧ Framed s o t [] 601024 7293034
theorem am_start (hG : am_goal) {p : Program} {e : Env} {s : State} {m : MethodId} {below : List Frame} {meth : Method} {c : Code} (l : Launch) (hl : l.stackTraces = false) {b L : Nat} {xs : Nat → Int32} (hL : L ≤ 2560) (hx : p.tables.exec = Jvm.exec) (hb : c.code = code) (hr : meth.sig.returnType = ret) (hml : c.maxLocals = 7) (hown : s.vm.findClass R_law = some m.cls) (hts : ∀ w ∈ lw_tbl, w.before #[Value.ref b] s = true) (hX : va_X b L xs s s.heap) (hbl : b < s.heap.size) (hlocks : meth.locks = false) (hgv : (Jvm.Cond.and given_1 narrow_1).before #[Value.ref b] s = true) (hnm : meth.name = "law") (hxt : c.exceptionTable.toList = []) :
    W p l e room_1 s m #[Value.ref b] below meth c s.heap [] 0 0 (fun t => ∃ o, t.status = .running ∧ Ended t below o ∧ lw_Q #[Value.ref b] s o t) (entryFrame m ([Value.ref b] : List Value).toArray 7) := by
  obtain ⟨Dp, h', hD, ⟨N, hN⟩, hc, hs⟩ := hG L xs hL
  have e1 := hN (Dp + 1) N (Nat.le_refl _) (Nat.le_refl _)
  obtain ⟨-, e2⟩ := am_cnd (show cond (Nat.ble (am_args [.ref 0]).length (am_ml 155)) (am_rn (am_cl Dp N) 155 N (0, am_ent 155 [.ref 0], [], (zl L xs, [], [], 0, 0))) none = some (.inl (some (.int 1)), h') from e1)
  obtain ⟨D, J, B⟩ := am_based hts hgv
  obtain ⟨P, z1, z2, z3, z4⟩ := am_zed hts hgv hX hbl
  have hw : am_hw s D J P (zl L xs, [], [], 0, 0) s.heap := ⟨z1, ⟨Nat.le_refl _, fun _ _ => rfl⟩, [], ⟨by rw [z2]; rfl, by rw [z3]; rfl, by rw [z2, z3]; rfl, fun i c hc => by simp [am_fl] at hc⟩, fun i q hq => by simp at hq, ⟨fun i j p q h => by simp at h, fun i q hq => by simp at hq⟩⟩
  obtain ⟨C, A⟩ := am_entry (k := 155) (R := room_1) (as := [.ref 0]) (av := [.ref b]) B hx (hb.trans rfl) (hml.trans rfl) hown (State.WarmedH.refl s) (hnm.trans rfl) (hr.trans rfl) hlocks (by decide) (by decide) hw ⟨⟨b, z4, rfl⟩, trivial⟩ (by decide)
  have w := am_run (l := l) (e := e) (args := #[Value.ref b]) (below := below) (h0 := (zl L xs, [], [], 0, 0)) (d := Dp) (n0 := N) hl (fun pc ins len z => am_lk_all 155 pc ins len z) am_km_all (fun j as h o j1 j2 z => am_sim hl B am_lk_all am_km_all Dp N j as h o j1 j2 z) C (by rw [hxt]; rfl) (fun _ => rfl) (by show Dp + 11 ≤ 2048; omega) (by show 40 * Dp + 240 ≤ 84000; omega) N 0 _ _ _ _ e2 P _ _ _ _ (am_px.rf P) A (am_up.rf _) ⟨hc, hs⟩
  rw [lg_entry_eq]
  refine W.mono (fun t ht => ?_) w
  obtain ⟨oc, u1, u2, ⟨P', -, -, ⟨v, v1, v2⟩, -⟩, u3, Ls, u4, u5⟩ := ht
  cases (show v = .int 1 from v1)
  subst v2
  refine ⟨_, u1, u2, rfl, ⟨_, rfl⟩, u3, ?_⟩
  refine u4.weaken (fun y hy hlt => ?_) hc hs
  rcases u5 y hy with z | z
  · rw [z2, z3] at z; cases z
  · exact absurd hlt (Nat.not_lt.mpr z)
set_option maxHeartbeats 4000000 in
theorem lw_walk (hG : am_goal) (l : Launch) (hl : l.stackTraces = false) (b : Addr) (xs : List Int32) : MetFree l x (headSpec (Jvm.Cond.code x code maxLocals ret :: tables_1) room_1) (lw_P b xs) (fun _ _ _ _ _ => True) lw_Q := by
  refine MetFree.of_bodyS (code := code) (maxLocals := maxLocals) (ret := ret) (by decide) ?_ ?_
  · intro args s m h hn
    obtain ⟨meth, c, h1, h2, h3, h4, h5, h6, -, -⟩ := Cond.code_spec hn (atoms_spec (ws := Jvm.Cond.code x code maxLocals ret :: tables_1) h _ List.mem_cons_self)
    exact ⟨meth, c, h1, h2, h3, h4, h5, h6⟩
  · intro p e s m args below meth c s₁ B hml0 hP _
    obtain ⟨rfl, hx, hbd, hgv⟩ := hP
    obtain ⟨scr, harrAt, hlist, hof, hsmall⟩ := hx
    obtain ⟨hcb, hkn, -, -⟩ := State.arrayAt?_spec harrAt
    have hown : s.vm.findClass R_law = some m.cls := findClass_of_methodNamed B.named
    have hts0 : ∀ c ∈ (Jvm.Cond.code x code maxLocals ret :: tables_1), c.before #[Value.ref b] s = true := atoms_spec (ws := Jvm.Cond.code x code maxLocals ret :: tables_1) B.pre
    have hts : ∀ w ∈ lw_tbl, w.before #[Value.ref b] s = true := k2_hts_sels lw_privs (fun w hw => hts0 w (List.mem_cons_of_mem _ hw)) lw_privs_ok
    have hml : c.maxLocals = 7 := B.maxLocals_eq (hts0 _ List.mem_cons_self)
    have X₀ : Stand p l e room_1 s m #[Value.ref b] below meth c s₁ [] 0 0 := Stand.of_body B
    have hh0 : s₁.heap = s.heap := by rw [B.state]; rfl
    have hsz : scr.slots.size = xs.length := by rw [← Array.length_toList, hlist, List.length_map]
    have hval : ∀ j : Nat, j < xs.length → scr.slots[j]? = some (.int (xs.getD j 0)) := fun j hj => by
      rw [← Array.getElem?_toList, hlist]
      simp [hj]
    have hbl : b < s.heap.size := (Array.getElem?_eq_some_iff.mp hcb).1
    have hX : va_X b xs.length (fun j => xs.getD j 0) s s.heap := ⟨scr, hcb, hof, hkn, hsz, hval⟩
    have hxt : c.exceptionTable.toList = [] := by
      obtain ⟨meth', c', g1, g2, -, -, -, -, g7, -⟩ := Cond.code_spec B.named (hts0 _ List.mem_cons_self)
      cases B.method.symm.trans g1
      cases X₀.code.symm.trans g2
      have : c.exceptionTable = #[] := by simpa [Array.isEmpty] using g7
      rw [this]
    have K := am_start hG (p := p) (e := e) (below := below) l hl hbd B.exec B.bytes B.returns hml hown hts hX hbl B.notSynchronized hgv (name_of_methodNamed B.named B.method).1 hxt
    rw [← hh0] at K
    obtain ⟨t, a1, o, b1, b2, b3⟩ := K s₁ rfl X₀
    exact ⟨t, o, a1, b1, b2, b3⟩
theorem lw_pre_spec {args : Array Value} {s : State} (h : (Jvm.Cond.and given_1 narrow_1).before args s = true) (hr : rest_1_c.before args s = true) : ∃ (b : Addr) (xs : List Int32), lw_P b xs args s := by
  have hs := flat_of_before _ h
  have hq := flat_of_before _ hr
  have hc : (Cond.count 1).before args s = true := hs _ (by decide +kernel)
  have harr : (Cond.arrayOf (.arg 0) .int).before args s = true := hs _ (by decide +kernel)
  have hle : (Cond.le (.length (.arg 0)) (.int 2560)).before args s = true := hs _ (by decide +kernel)
  have hlen : (Cond.isInt (.length (.arg 0))).before args s = true := hq _ (by decide +kernel)
  have hall : (Cond.all (.arg 0) (.isInt (.elem (.arg 0) (.index 0)))).before args s = true := hq _ (by decide +kernel)
  obtain ⟨b, xs, hb, hx⟩ := State.ints_of_pre rfl harr hlen hall
  have hsm : xs.length < 2 ^ 31 := hx.choose_spec.2.2.2
  have hev : (Term.length (.arg 0)).eval args s none [] s = some (.int xs.length.toInt32) := hx.length_eval hb
  have hv := Cond.le_ints hev (show (Term.int 2560).eval args s none [] s = some (.int 2560) from rfl)
  have hd : xs.length.toInt32 ≤ 2560 := by
    simpa [Cond.before, Cond.holds, hv] using hle
  have hN : xs.length ≤ 2560 := (Int32.ofNat_le_ofNat hsm (by decide)).mp (show Int32.ofNat xs.length ≤ Int32.ofNat 2560 from hd)
  exact ⟨b, xs, Cond.one_arg hc (show args[0]? = some (.ref b) from hb), hx, hN, h⟩
theorem lw_comes (hG : am_goal) (l : Launch) (hl : l.stackTraces = false) : Comes l x (Jvm.Cond.code x code maxLocals ret :: tables_1) room_1 (fun tb e args s => Calls_1 tb e args s ∧ rest_1 tb e args s ∧ Pre_1 tb e args s)
    (fun _ _ args s o t => lw_Q args s o t) := by
  intro p e ha hc hk s m args below hf hfit hheap happ hpre
  obtain ⟨b, xs, hP⟩ := lw_pre_spec hpre.2.2 hpre.2.1
  obtain ⟨k, o, h1, h2, h3, hQ⟩ := lw_walk hG l hl b xs p e ha hc hk s m args below hf ((Spec.applies_iff_loose hf).mp happ).1 hP trivial
  exact ⟨k, o, h1, h2, h3, hQ⟩
theorem lw_frame {s t : State} {o : Outcome} {args : Array Value} (h : Framed s o t [] 601024 7293034) :
    Framed s o t (fieldLocs frame_1_writes args s ++ arrayLocs frame_1_arrays args s ++ staticLocs frame_1_statics s) 601024 7293034 := h
theorem lw_limb (hG : am_goal) (L : Cond) (hL : ∀ (args : Array Value) (s t : State), L.after args s (.returned (some (.int 1))) t = true) :
    ArmFor flags0 classFile x code maxLocals ret World_1 tables_1 room_1 Calls_1 rest_1 Pre_1
      (fun tb e a s o t => postC L tb e a s o t ∧ Framed s o t (fieldLocs frame_1_writes a s ++ arrayLocs frame_1_arrays a s ++ staticLocs frame_1_statics s) 601024 7293034) := by
  intro l hfl _ _ p e ha hc hk s m args below hf hfit hheap happ hpre
  have hl : l.stackTraces = false := by
    unfold Launch.stackTraces
    rw [hfl]
    decide
  obtain ⟨k, o, h1, h2, h3, rfl, hF⟩ := lw_comes hG l hl p e ha hc hk s m args below hf hfit hheap happ hpre
  exact ⟨k, _, h1, h2, h3, hL args s _, lw_frame hF⟩
/-- the claim, out of what is left -/
theorem am_claim (hG : am_goal) : Claimed_1_1 ∧ Claimed_1_2 := ⟨lw_limb hG limb_1_1 (fun args s t => by simp [limb_1_1, Cond.after, Cond.holds, Cond.value]), lw_limb hG limb_1_2 (fun args s t => Cond.after_iff.mpr (by
  first | (rw [show limb_1_2 = Cond.eq .result (.int 1) from rfl, Cond.eq_ints (x := 1) (y := 1) rfl rfl]; simp; done) | (simp [limb_1_2, Cond.value, Term.eval]; done)))⟩
